/-! the law's loop (printed by wip/whole/gen78.py) -/
theorem dc211_0 : decode (pm_mb 211) 0 = .ok (.new 7, 3) := by decide +kernel
theorem dc211_3 : decode (pm_mb 211) 3 = .ok (.dup, 1) := by decide +kernel
theorem dc211_4 : decode (pm_mb 211) 4 = .ok (.invokespecial 9, 3) := by decide +kernel
theorem dc211_7 : decode (pm_mb 211) 7 = .ok (.astore_n 1, 1) := by decide +kernel
theorem dc211_8 : decode (pm_mb 211) 8 = .ok (.new 10, 3) := by decide +kernel
theorem dc211_11 : decode (pm_mb 211) 11 = .ok (.dup, 1) := by decide +kernel
theorem dc211_12 : decode (pm_mb 211) 12 = .ok (.invokespecial 12, 3) := by decide +kernel
theorem dc211_15 : decode (pm_mb 211) 15 = .ok (.astore_n 2, 1) := by decide +kernel
theorem dc211_16 : decode (pm_mb 211) 16 = .ok (.iconst 0, 1) := by decide +kernel
theorem dc211_17 : decode (pm_mb 211) 17 = .ok (.istore_n 3, 1) := by decide +kernel
theorem dc211_18 : decode (pm_mb 211) 18 = .ok (.iload_n 3, 1) := by decide +kernel
theorem dc211_19 : decode (pm_mb 211) 19 = .ok (.aload_n 0, 1) := by decide +kernel
theorem dc211_20 : decode (pm_mb 211) 20 = .ok (.arraylength, 1) := by decide +kernel
theorem dc211_21 : decode (pm_mb 211) 21 = .ok (.bipush 6, 2) := by decide +kernel
theorem dc211_23 : decode (pm_mb 211) 23 = .ok (.isub, 1) := by decide +kernel
theorem dc211_24 : decode (pm_mb 211) 24 = .ok (.if_icmp .gt 1053, 3) := by decide +kernel
theorem dc211_27 : decode (pm_mb 211) 27 = .ok (.aload_n 0, 1) := by decide +kernel
theorem dc211_28 : decode (pm_mb 211) 28 = .ok (.iload_n 3, 1) := by decide +kernel
theorem dc211_29 : decode (pm_mb 211) 29 = .ok (.iaload, 1) := by decide +kernel
theorem dc211_30 : decode (pm_mb 211) 30 = .ok (.bipush 31, 2) := by decide +kernel
theorem dc211_32 : decode (pm_mb 211) 32 = .ok (.iand, 1) := by decide +kernel
theorem dc211_33 : decode (pm_mb 211) 33 = .ok (.tableswitch 1038 0 28 #[131, 174, 217, 280, 303, 366, 379, 392, 405, 438, 471, 514, 527, 560, 593, 636, 659, 702, 755, 778, 821, 844, 867, 890, 913, 946, 979, 1002, 1025], 131) := by decide +kernel
theorem dc211_164 : decode (pm_mb 211) 164 = .ok (.aload_n 1, 1) := by decide +kernel
theorem dc211_165 : decode (pm_mb 211) 165 = .ok (.aload_n 0, 1) := by decide +kernel
theorem dc211_166 : decode (pm_mb 211) 166 = .ok (.iload_n 3, 1) := by decide +kernel
theorem dc211_167 : decode (pm_mb 211) 167 = .ok (.iconst 1, 1) := by decide +kernel
theorem dc211_168 : decode (pm_mb 211) 168 = .ok (.iadd, 1) := by decide +kernel
theorem dc211_169 : decode (pm_mb 211) 169 = .ok (.iaload, 1) := by decide +kernel
theorem dc211_170 : decode (pm_mb 211) 170 = .ok (.aload_n 0, 1) := by decide +kernel
theorem dc211_171 : decode (pm_mb 211) 171 = .ok (.iload_n 3, 1) := by decide +kernel
theorem dc211_172 : decode (pm_mb 211) 172 = .ok (.iconst 2, 1) := by decide +kernel
theorem dc211_173 : decode (pm_mb 211) 173 = .ok (.iadd, 1) := by decide +kernel
theorem dc211_174 : decode (pm_mb 211) 174 = .ok (.iaload, 1) := by decide +kernel
theorem dc211_175 : decode (pm_mb 211) 175 = .ok (.aload_n 0, 1) := by decide +kernel
theorem dc211_176 : decode (pm_mb 211) 176 = .ok (.iload_n 3, 1) := by decide +kernel
theorem dc211_177 : decode (pm_mb 211) 177 = .ok (.iconst 3, 1) := by decide +kernel
theorem dc211_178 : decode (pm_mb 211) 178 = .ok (.iadd, 1) := by decide +kernel
theorem dc211_179 : decode (pm_mb 211) 179 = .ok (.iaload, 1) := by decide +kernel
theorem dc211_180 : decode (pm_mb 211) 180 = .ok (.invokevirtual 13, 3) := by decide +kernel
theorem dc211_183 : decode (pm_mb 211) 183 = .ok (.aload_n 2, 1) := by decide +kernel
theorem dc211_184 : decode (pm_mb 211) 184 = .ok (.aload_n 0, 1) := by decide +kernel
theorem dc211_185 : decode (pm_mb 211) 185 = .ok (.iload_n 3, 1) := by decide +kernel
theorem dc211_186 : decode (pm_mb 211) 186 = .ok (.iconst 1, 1) := by decide +kernel
theorem dc211_187 : decode (pm_mb 211) 187 = .ok (.iadd, 1) := by decide +kernel
theorem dc211_188 : decode (pm_mb 211) 188 = .ok (.iaload, 1) := by decide +kernel
theorem dc211_189 : decode (pm_mb 211) 189 = .ok (.aload_n 0, 1) := by decide +kernel
theorem dc211_190 : decode (pm_mb 211) 190 = .ok (.iload_n 3, 1) := by decide +kernel
theorem dc211_191 : decode (pm_mb 211) 191 = .ok (.iconst 2, 1) := by decide +kernel
theorem dc211_192 : decode (pm_mb 211) 192 = .ok (.iadd, 1) := by decide +kernel
theorem dc211_193 : decode (pm_mb 211) 193 = .ok (.iaload, 1) := by decide +kernel
theorem dc211_194 : decode (pm_mb 211) 194 = .ok (.aload_n 0, 1) := by decide +kernel
theorem dc211_195 : decode (pm_mb 211) 195 = .ok (.iload_n 3, 1) := by decide +kernel
theorem dc211_196 : decode (pm_mb 211) 196 = .ok (.iconst 3, 1) := by decide +kernel
theorem dc211_197 : decode (pm_mb 211) 197 = .ok (.iadd, 1) := by decide +kernel
theorem dc211_198 : decode (pm_mb 211) 198 = .ok (.iaload, 1) := by decide +kernel
theorem dc211_199 : decode (pm_mb 211) 199 = .ok (.invokevirtual 17, 3) := by decide +kernel
theorem dc211_202 : decode (pm_mb 211) 202 = .ok (.if_icmp .eq 869, 3) := by decide +kernel
theorem dc211_205 : decode (pm_mb 211) 205 = .ok (.iconst 0, 1) := by decide +kernel
theorem dc211_206 : decode (pm_mb 211) 206 = .ok (.ireturn, 1) := by decide +kernel
theorem dc211_207 : decode (pm_mb 211) 207 = .ok (.aload_n 1, 1) := by decide +kernel
theorem dc211_208 : decode (pm_mb 211) 208 = .ok (.aload_n 0, 1) := by decide +kernel
theorem dc211_209 : decode (pm_mb 211) 209 = .ok (.iload_n 3, 1) := by decide +kernel
theorem dc211_210 : decode (pm_mb 211) 210 = .ok (.iconst 1, 1) := by decide +kernel
theorem dc211_211 : decode (pm_mb 211) 211 = .ok (.iadd, 1) := by decide +kernel
theorem dc211_212 : decode (pm_mb 211) 212 = .ok (.iaload, 1) := by decide +kernel
theorem dc211_213 : decode (pm_mb 211) 213 = .ok (.aload_n 0, 1) := by decide +kernel
theorem dc211_214 : decode (pm_mb 211) 214 = .ok (.iload_n 3, 1) := by decide +kernel
theorem dc211_215 : decode (pm_mb 211) 215 = .ok (.iconst 2, 1) := by decide +kernel
theorem dc211_216 : decode (pm_mb 211) 216 = .ok (.iadd, 1) := by decide +kernel
theorem dc211_217 : decode (pm_mb 211) 217 = .ok (.iaload, 1) := by decide +kernel
theorem dc211_218 : decode (pm_mb 211) 218 = .ok (.aload_n 0, 1) := by decide +kernel
theorem dc211_219 : decode (pm_mb 211) 219 = .ok (.iload_n 3, 1) := by decide +kernel
theorem dc211_220 : decode (pm_mb 211) 220 = .ok (.iconst 3, 1) := by decide +kernel
theorem dc211_221 : decode (pm_mb 211) 221 = .ok (.iadd, 1) := by decide +kernel
theorem dc211_222 : decode (pm_mb 211) 222 = .ok (.iaload, 1) := by decide +kernel
theorem dc211_223 : decode (pm_mb 211) 223 = .ok (.invokevirtual 18, 3) := by decide +kernel
theorem dc211_226 : decode (pm_mb 211) 226 = .ok (.aload_n 2, 1) := by decide +kernel
theorem dc211_227 : decode (pm_mb 211) 227 = .ok (.aload_n 0, 1) := by decide +kernel
theorem dc211_228 : decode (pm_mb 211) 228 = .ok (.iload_n 3, 1) := by decide +kernel
theorem dc211_229 : decode (pm_mb 211) 229 = .ok (.iconst 1, 1) := by decide +kernel
theorem dc211_230 : decode (pm_mb 211) 230 = .ok (.iadd, 1) := by decide +kernel
theorem dc211_231 : decode (pm_mb 211) 231 = .ok (.iaload, 1) := by decide +kernel
theorem dc211_232 : decode (pm_mb 211) 232 = .ok (.aload_n 0, 1) := by decide +kernel
theorem dc211_233 : decode (pm_mb 211) 233 = .ok (.iload_n 3, 1) := by decide +kernel
theorem dc211_234 : decode (pm_mb 211) 234 = .ok (.iconst 2, 1) := by decide +kernel
theorem dc211_235 : decode (pm_mb 211) 235 = .ok (.iadd, 1) := by decide +kernel
theorem dc211_236 : decode (pm_mb 211) 236 = .ok (.iaload, 1) := by decide +kernel
theorem dc211_237 : decode (pm_mb 211) 237 = .ok (.aload_n 0, 1) := by decide +kernel
theorem dc211_238 : decode (pm_mb 211) 238 = .ok (.iload_n 3, 1) := by decide +kernel
theorem dc211_239 : decode (pm_mb 211) 239 = .ok (.iconst 3, 1) := by decide +kernel
theorem dc211_240 : decode (pm_mb 211) 240 = .ok (.iadd, 1) := by decide +kernel
theorem dc211_241 : decode (pm_mb 211) 241 = .ok (.iaload, 1) := by decide +kernel
theorem dc211_242 : decode (pm_mb 211) 242 = .ok (.invokevirtual 21, 3) := by decide +kernel
theorem dc211_245 : decode (pm_mb 211) 245 = .ok (.if_icmp .eq 826, 3) := by decide +kernel
theorem dc211_248 : decode (pm_mb 211) 248 = .ok (.iconst 0, 1) := by decide +kernel
theorem dc211_249 : decode (pm_mb 211) 249 = .ok (.ireturn, 1) := by decide +kernel
theorem dc211_250 : decode (pm_mb 211) 250 = .ok (.aload_n 1, 1) := by decide +kernel
theorem dc211_251 : decode (pm_mb 211) 251 = .ok (.aload_n 0, 1) := by decide +kernel
theorem dc211_252 : decode (pm_mb 211) 252 = .ok (.iload_n 3, 1) := by decide +kernel
theorem dc211_253 : decode (pm_mb 211) 253 = .ok (.iconst 1, 1) := by decide +kernel
theorem dc211_254 : decode (pm_mb 211) 254 = .ok (.iadd, 1) := by decide +kernel
theorem dc211_255 : decode (pm_mb 211) 255 = .ok (.iaload, 1) := by decide +kernel
theorem dc211_256 : decode (pm_mb 211) 256 = .ok (.aload_n 0, 1) := by decide +kernel
theorem dc211_257 : decode (pm_mb 211) 257 = .ok (.iload_n 3, 1) := by decide +kernel
theorem dc211_258 : decode (pm_mb 211) 258 = .ok (.iconst 2, 1) := by decide +kernel
theorem dc211_259 : decode (pm_mb 211) 259 = .ok (.iadd, 1) := by decide +kernel
theorem dc211_260 : decode (pm_mb 211) 260 = .ok (.iaload, 1) := by decide +kernel
theorem dc211_261 : decode (pm_mb 211) 261 = .ok (.aload_n 0, 1) := by decide +kernel
theorem dc211_262 : decode (pm_mb 211) 262 = .ok (.iload_n 3, 1) := by decide +kernel
theorem dc211_263 : decode (pm_mb 211) 263 = .ok (.iconst 3, 1) := by decide +kernel
theorem dc211_264 : decode (pm_mb 211) 264 = .ok (.iadd, 1) := by decide +kernel
theorem dc211_265 : decode (pm_mb 211) 265 = .ok (.iaload, 1) := by decide +kernel
theorem dc211_266 : decode (pm_mb 211) 266 = .ok (.aload_n 0, 1) := by decide +kernel
theorem dc211_267 : decode (pm_mb 211) 267 = .ok (.iload_n 3, 1) := by decide +kernel
theorem dc211_268 : decode (pm_mb 211) 268 = .ok (.iconst 4, 1) := by decide +kernel
theorem dc211_269 : decode (pm_mb 211) 269 = .ok (.iadd, 1) := by decide +kernel
theorem dc211_270 : decode (pm_mb 211) 270 = .ok (.iaload, 1) := by decide +kernel
theorem dc211_271 : decode (pm_mb 211) 271 = .ok (.aload_n 0, 1) := by decide +kernel
theorem dc211_272 : decode (pm_mb 211) 272 = .ok (.iload_n 3, 1) := by decide +kernel
theorem dc211_273 : decode (pm_mb 211) 273 = .ok (.iconst 5, 1) := by decide +kernel
theorem dc211_274 : decode (pm_mb 211) 274 = .ok (.iadd, 1) := by decide +kernel
theorem dc211_275 : decode (pm_mb 211) 275 = .ok (.iaload, 1) := by decide +kernel
theorem dc211_276 : decode (pm_mb 211) 276 = .ok (.invokevirtual 22, 3) := by decide +kernel
theorem dc211_279 : decode (pm_mb 211) 279 = .ok (.aload_n 2, 1) := by decide +kernel
theorem dc211_280 : decode (pm_mb 211) 280 = .ok (.aload_n 0, 1) := by decide +kernel
theorem dc211_281 : decode (pm_mb 211) 281 = .ok (.iload_n 3, 1) := by decide +kernel
theorem dc211_282 : decode (pm_mb 211) 282 = .ok (.iconst 1, 1) := by decide +kernel
theorem dc211_283 : decode (pm_mb 211) 283 = .ok (.iadd, 1) := by decide +kernel
theorem dc211_284 : decode (pm_mb 211) 284 = .ok (.iaload, 1) := by decide +kernel
theorem dc211_285 : decode (pm_mb 211) 285 = .ok (.aload_n 0, 1) := by decide +kernel
theorem dc211_286 : decode (pm_mb 211) 286 = .ok (.iload_n 3, 1) := by decide +kernel
theorem dc211_287 : decode (pm_mb 211) 287 = .ok (.iconst 2, 1) := by decide +kernel
theorem dc211_288 : decode (pm_mb 211) 288 = .ok (.iadd, 1) := by decide +kernel
theorem dc211_289 : decode (pm_mb 211) 289 = .ok (.iaload, 1) := by decide +kernel
theorem dc211_290 : decode (pm_mb 211) 290 = .ok (.aload_n 0, 1) := by decide +kernel
theorem dc211_291 : decode (pm_mb 211) 291 = .ok (.iload_n 3, 1) := by decide +kernel
theorem dc211_292 : decode (pm_mb 211) 292 = .ok (.iconst 3, 1) := by decide +kernel
theorem dc211_293 : decode (pm_mb 211) 293 = .ok (.iadd, 1) := by decide +kernel
theorem dc211_294 : decode (pm_mb 211) 294 = .ok (.iaload, 1) := by decide +kernel
theorem dc211_295 : decode (pm_mb 211) 295 = .ok (.aload_n 0, 1) := by decide +kernel
theorem dc211_296 : decode (pm_mb 211) 296 = .ok (.iload_n 3, 1) := by decide +kernel
theorem dc211_297 : decode (pm_mb 211) 297 = .ok (.iconst 4, 1) := by decide +kernel
theorem dc211_298 : decode (pm_mb 211) 298 = .ok (.iadd, 1) := by decide +kernel
theorem dc211_299 : decode (pm_mb 211) 299 = .ok (.iaload, 1) := by decide +kernel
theorem dc211_300 : decode (pm_mb 211) 300 = .ok (.aload_n 0, 1) := by decide +kernel
theorem dc211_301 : decode (pm_mb 211) 301 = .ok (.iload_n 3, 1) := by decide +kernel
theorem dc211_302 : decode (pm_mb 211) 302 = .ok (.iconst 5, 1) := by decide +kernel
theorem dc211_303 : decode (pm_mb 211) 303 = .ok (.iadd, 1) := by decide +kernel
theorem dc211_304 : decode (pm_mb 211) 304 = .ok (.iaload, 1) := by decide +kernel
theorem dc211_305 : decode (pm_mb 211) 305 = .ok (.invokevirtual 26, 3) := by decide +kernel
theorem dc211_308 : decode (pm_mb 211) 308 = .ok (.if_icmp .eq 763, 3) := by decide +kernel
theorem dc211_311 : decode (pm_mb 211) 311 = .ok (.iconst 0, 1) := by decide +kernel
theorem dc211_312 : decode (pm_mb 211) 312 = .ok (.ireturn, 1) := by decide +kernel
theorem dc211_313 : decode (pm_mb 211) 313 = .ok (.aload_n 1, 1) := by decide +kernel
theorem dc211_314 : decode (pm_mb 211) 314 = .ok (.aload_n 0, 1) := by decide +kernel
theorem dc211_315 : decode (pm_mb 211) 315 = .ok (.iload_n 3, 1) := by decide +kernel
theorem dc211_316 : decode (pm_mb 211) 316 = .ok (.iconst 1, 1) := by decide +kernel
theorem dc211_317 : decode (pm_mb 211) 317 = .ok (.iadd, 1) := by decide +kernel
theorem dc211_318 : decode (pm_mb 211) 318 = .ok (.iaload, 1) := by decide +kernel
theorem dc211_319 : decode (pm_mb 211) 319 = .ok (.invokevirtual 27, 3) := by decide +kernel
theorem dc211_322 : decode (pm_mb 211) 322 = .ok (.aload_n 2, 1) := by decide +kernel
theorem dc211_323 : decode (pm_mb 211) 323 = .ok (.aload_n 0, 1) := by decide +kernel
theorem dc211_324 : decode (pm_mb 211) 324 = .ok (.iload_n 3, 1) := by decide +kernel
theorem dc211_325 : decode (pm_mb 211) 325 = .ok (.iconst 1, 1) := by decide +kernel
theorem dc211_326 : decode (pm_mb 211) 326 = .ok (.iadd, 1) := by decide +kernel
theorem dc211_327 : decode (pm_mb 211) 327 = .ok (.iaload, 1) := by decide +kernel
theorem dc211_328 : decode (pm_mb 211) 328 = .ok (.invokevirtual 31, 3) := by decide +kernel
theorem dc211_331 : decode (pm_mb 211) 331 = .ok (.if_icmp .eq 740, 3) := by decide +kernel
theorem dc211_334 : decode (pm_mb 211) 334 = .ok (.iconst 0, 1) := by decide +kernel
theorem dc211_335 : decode (pm_mb 211) 335 = .ok (.ireturn, 1) := by decide +kernel
theorem dc211_336 : decode (pm_mb 211) 336 = .ok (.aload_n 1, 1) := by decide +kernel
theorem dc211_337 : decode (pm_mb 211) 337 = .ok (.aload_n 0, 1) := by decide +kernel
theorem dc211_338 : decode (pm_mb 211) 338 = .ok (.iload_n 3, 1) := by decide +kernel
theorem dc211_339 : decode (pm_mb 211) 339 = .ok (.iconst 1, 1) := by decide +kernel
theorem dc211_340 : decode (pm_mb 211) 340 = .ok (.iadd, 1) := by decide +kernel
theorem dc211_341 : decode (pm_mb 211) 341 = .ok (.iaload, 1) := by decide +kernel
theorem dc211_342 : decode (pm_mb 211) 342 = .ok (.i2l, 1) := by decide +kernel
theorem dc211_343 : decode (pm_mb 211) 343 = .ok (.bipush 32, 2) := by decide +kernel
theorem dc211_345 : decode (pm_mb 211) 345 = .ok (.lshl, 1) := by decide +kernel
theorem dc211_346 : decode (pm_mb 211) 346 = .ok (.aload_n 0, 1) := by decide +kernel
theorem dc211_347 : decode (pm_mb 211) 347 = .ok (.iload_n 3, 1) := by decide +kernel
theorem dc211_348 : decode (pm_mb 211) 348 = .ok (.iconst 2, 1) := by decide +kernel
theorem dc211_349 : decode (pm_mb 211) 349 = .ok (.iadd, 1) := by decide +kernel
theorem dc211_350 : decode (pm_mb 211) 350 = .ok (.iaload, 1) := by decide +kernel
theorem dc211_351 : decode (pm_mb 211) 351 = .ok (.i2l, 1) := by decide +kernel
theorem dc211_352 : decode (pm_mb 211) 352 = .ok (.ldc2_w 32, 3) := by decide +kernel
theorem dc211_355 : decode (pm_mb 211) 355 = .ok (.land, 1) := by decide +kernel
theorem dc211_356 : decode (pm_mb 211) 356 = .ok (.lor, 1) := by decide +kernel
theorem dc211_357 : decode (pm_mb 211) 357 = .ok (.aload_n 0, 1) := by decide +kernel
theorem dc211_358 : decode (pm_mb 211) 358 = .ok (.iload_n 3, 1) := by decide +kernel
theorem dc211_359 : decode (pm_mb 211) 359 = .ok (.iconst 3, 1) := by decide +kernel
theorem dc211_360 : decode (pm_mb 211) 360 = .ok (.iadd, 1) := by decide +kernel
theorem dc211_361 : decode (pm_mb 211) 361 = .ok (.iaload, 1) := by decide +kernel
theorem dc211_362 : decode (pm_mb 211) 362 = .ok (.invokevirtual 34, 3) := by decide +kernel
theorem dc211_365 : decode (pm_mb 211) 365 = .ok (.aload_n 2, 1) := by decide +kernel
theorem dc211_366 : decode (pm_mb 211) 366 = .ok (.aload_n 0, 1) := by decide +kernel
theorem dc211_367 : decode (pm_mb 211) 367 = .ok (.iload_n 3, 1) := by decide +kernel
theorem dc211_368 : decode (pm_mb 211) 368 = .ok (.iconst 1, 1) := by decide +kernel
theorem dc211_369 : decode (pm_mb 211) 369 = .ok (.iadd, 1) := by decide +kernel
theorem dc211_370 : decode (pm_mb 211) 370 = .ok (.iaload, 1) := by decide +kernel
theorem dc211_371 : decode (pm_mb 211) 371 = .ok (.i2l, 1) := by decide +kernel
theorem dc211_372 : decode (pm_mb 211) 372 = .ok (.bipush 32, 2) := by decide +kernel
theorem dc211_374 : decode (pm_mb 211) 374 = .ok (.lshl, 1) := by decide +kernel
theorem dc211_375 : decode (pm_mb 211) 375 = .ok (.aload_n 0, 1) := by decide +kernel
theorem dc211_376 : decode (pm_mb 211) 376 = .ok (.iload_n 3, 1) := by decide +kernel
theorem dc211_377 : decode (pm_mb 211) 377 = .ok (.iconst 2, 1) := by decide +kernel
theorem dc211_378 : decode (pm_mb 211) 378 = .ok (.iadd, 1) := by decide +kernel
theorem dc211_379 : decode (pm_mb 211) 379 = .ok (.iaload, 1) := by decide +kernel
theorem dc211_380 : decode (pm_mb 211) 380 = .ok (.i2l, 1) := by decide +kernel
theorem dc211_381 : decode (pm_mb 211) 381 = .ok (.ldc2_w 32, 3) := by decide +kernel
theorem dc211_384 : decode (pm_mb 211) 384 = .ok (.land, 1) := by decide +kernel
theorem dc211_385 : decode (pm_mb 211) 385 = .ok (.lor, 1) := by decide +kernel
theorem dc211_386 : decode (pm_mb 211) 386 = .ok (.aload_n 0, 1) := by decide +kernel
theorem dc211_387 : decode (pm_mb 211) 387 = .ok (.iload_n 3, 1) := by decide +kernel
theorem dc211_388 : decode (pm_mb 211) 388 = .ok (.iconst 3, 1) := by decide +kernel
theorem dc211_389 : decode (pm_mb 211) 389 = .ok (.iadd, 1) := by decide +kernel
theorem dc211_390 : decode (pm_mb 211) 390 = .ok (.iaload, 1) := by decide +kernel
theorem dc211_391 : decode (pm_mb 211) 391 = .ok (.invokevirtual 38, 3) := by decide +kernel
theorem dc211_394 : decode (pm_mb 211) 394 = .ok (.if_icmp .eq 677, 3) := by decide +kernel
theorem dc211_397 : decode (pm_mb 211) 397 = .ok (.iconst 0, 1) := by decide +kernel
theorem dc211_398 : decode (pm_mb 211) 398 = .ok (.ireturn, 1) := by decide +kernel
theorem dc211_399 : decode (pm_mb 211) 399 = .ok (.aload_n 1, 1) := by decide +kernel
theorem dc211_400 : decode (pm_mb 211) 400 = .ok (.invokevirtual 39, 3) := by decide +kernel
theorem dc211_403 : decode (pm_mb 211) 403 = .ok (.aload_n 2, 1) := by decide +kernel
theorem dc211_404 : decode (pm_mb 211) 404 = .ok (.invokevirtual 43, 3) := by decide +kernel
theorem dc211_407 : decode (pm_mb 211) 407 = .ok (.if_icmp .eq 664, 3) := by decide +kernel
theorem dc211_410 : decode (pm_mb 211) 410 = .ok (.iconst 0, 1) := by decide +kernel
theorem dc211_411 : decode (pm_mb 211) 411 = .ok (.ireturn, 1) := by decide +kernel
theorem dc211_412 : decode (pm_mb 211) 412 = .ok (.aload_n 1, 1) := by decide +kernel
theorem dc211_413 : decode (pm_mb 211) 413 = .ok (.invokevirtual 44, 3) := by decide +kernel
theorem dc211_416 : decode (pm_mb 211) 416 = .ok (.aload_n 2, 1) := by decide +kernel
theorem dc211_417 : decode (pm_mb 211) 417 = .ok (.invokevirtual 47, 3) := by decide +kernel
theorem dc211_420 : decode (pm_mb 211) 420 = .ok (.if_icmp .eq 651, 3) := by decide +kernel
theorem dc211_423 : decode (pm_mb 211) 423 = .ok (.iconst 0, 1) := by decide +kernel
theorem dc211_424 : decode (pm_mb 211) 424 = .ok (.ireturn, 1) := by decide +kernel
theorem dc211_425 : decode (pm_mb 211) 425 = .ok (.aload_n 1, 1) := by decide +kernel
theorem dc211_426 : decode (pm_mb 211) 426 = .ok (.invokevirtual 48, 3) := by decide +kernel
theorem dc211_429 : decode (pm_mb 211) 429 = .ok (.aload_n 2, 1) := by decide +kernel
theorem dc211_430 : decode (pm_mb 211) 430 = .ok (.invokevirtual 51, 3) := by decide +kernel
theorem dc211_433 : decode (pm_mb 211) 433 = .ok (.if_icmp .eq 638, 3) := by decide +kernel
theorem dc211_436 : decode (pm_mb 211) 436 = .ok (.iconst 0, 1) := by decide +kernel
theorem dc211_437 : decode (pm_mb 211) 437 = .ok (.ireturn, 1) := by decide +kernel
theorem dc211_438 : decode (pm_mb 211) 438 = .ok (.aload_n 1, 1) := by decide +kernel
theorem dc211_439 : decode (pm_mb 211) 439 = .ok (.aload_n 0, 1) := by decide +kernel
theorem dc211_440 : decode (pm_mb 211) 440 = .ok (.iload_n 3, 1) := by decide +kernel
theorem dc211_441 : decode (pm_mb 211) 441 = .ok (.iconst 1, 1) := by decide +kernel
theorem dc211_442 : decode (pm_mb 211) 442 = .ok (.iadd, 1) := by decide +kernel
theorem dc211_443 : decode (pm_mb 211) 443 = .ok (.iaload, 1) := by decide +kernel
theorem dc211_444 : decode (pm_mb 211) 444 = .ok (.aload_n 0, 1) := by decide +kernel
theorem dc211_445 : decode (pm_mb 211) 445 = .ok (.iload_n 3, 1) := by decide +kernel
theorem dc211_446 : decode (pm_mb 211) 446 = .ok (.iconst 2, 1) := by decide +kernel
theorem dc211_447 : decode (pm_mb 211) 447 = .ok (.iadd, 1) := by decide +kernel
theorem dc211_448 : decode (pm_mb 211) 448 = .ok (.iaload, 1) := by decide +kernel
theorem dc211_449 : decode (pm_mb 211) 449 = .ok (.invokevirtual 52, 3) := by decide +kernel
theorem dc211_452 : decode (pm_mb 211) 452 = .ok (.aload_n 2, 1) := by decide +kernel
theorem dc211_453 : decode (pm_mb 211) 453 = .ok (.aload_n 0, 1) := by decide +kernel
theorem dc211_454 : decode (pm_mb 211) 454 = .ok (.iload_n 3, 1) := by decide +kernel
theorem dc211_455 : decode (pm_mb 211) 455 = .ok (.iconst 1, 1) := by decide +kernel
theorem dc211_456 : decode (pm_mb 211) 456 = .ok (.iadd, 1) := by decide +kernel
theorem dc211_457 : decode (pm_mb 211) 457 = .ok (.iaload, 1) := by decide +kernel
theorem dc211_458 : decode (pm_mb 211) 458 = .ok (.aload_n 0, 1) := by decide +kernel
theorem dc211_459 : decode (pm_mb 211) 459 = .ok (.iload_n 3, 1) := by decide +kernel
theorem dc211_460 : decode (pm_mb 211) 460 = .ok (.iconst 2, 1) := by decide +kernel
theorem dc211_461 : decode (pm_mb 211) 461 = .ok (.iadd, 1) := by decide +kernel
theorem dc211_462 : decode (pm_mb 211) 462 = .ok (.iaload, 1) := by decide +kernel
theorem dc211_463 : decode (pm_mb 211) 463 = .ok (.invokevirtual 56, 3) := by decide +kernel
theorem dc211_466 : decode (pm_mb 211) 466 = .ok (.if_icmp .eq 605, 3) := by decide +kernel
theorem dc211_469 : decode (pm_mb 211) 469 = .ok (.iconst 0, 1) := by decide +kernel
theorem dc211_470 : decode (pm_mb 211) 470 = .ok (.ireturn, 1) := by decide +kernel
theorem dc211_471 : decode (pm_mb 211) 471 = .ok (.aload_n 1, 1) := by decide +kernel
theorem dc211_472 : decode (pm_mb 211) 472 = .ok (.aload_n 0, 1) := by decide +kernel
theorem dc211_473 : decode (pm_mb 211) 473 = .ok (.iload_n 3, 1) := by decide +kernel
theorem dc211_474 : decode (pm_mb 211) 474 = .ok (.iconst 1, 1) := by decide +kernel
theorem dc211_475 : decode (pm_mb 211) 475 = .ok (.iadd, 1) := by decide +kernel
theorem dc211_476 : decode (pm_mb 211) 476 = .ok (.iaload, 1) := by decide +kernel
theorem dc211_477 : decode (pm_mb 211) 477 = .ok (.aload_n 0, 1) := by decide +kernel
theorem dc211_478 : decode (pm_mb 211) 478 = .ok (.iload_n 3, 1) := by decide +kernel
theorem dc211_479 : decode (pm_mb 211) 479 = .ok (.iconst 2, 1) := by decide +kernel
theorem dc211_480 : decode (pm_mb 211) 480 = .ok (.iadd, 1) := by decide +kernel
theorem dc211_481 : decode (pm_mb 211) 481 = .ok (.iaload, 1) := by decide +kernel
theorem dc211_482 : decode (pm_mb 211) 482 = .ok (.invokevirtual 57, 3) := by decide +kernel
theorem dc211_485 : decode (pm_mb 211) 485 = .ok (.aload_n 2, 1) := by decide +kernel
theorem dc211_486 : decode (pm_mb 211) 486 = .ok (.aload_n 0, 1) := by decide +kernel
theorem dc211_487 : decode (pm_mb 211) 487 = .ok (.iload_n 3, 1) := by decide +kernel
theorem dc211_488 : decode (pm_mb 211) 488 = .ok (.iconst 1, 1) := by decide +kernel
theorem dc211_489 : decode (pm_mb 211) 489 = .ok (.iadd, 1) := by decide +kernel
theorem dc211_490 : decode (pm_mb 211) 490 = .ok (.iaload, 1) := by decide +kernel
theorem dc211_491 : decode (pm_mb 211) 491 = .ok (.aload_n 0, 1) := by decide +kernel
theorem dc211_492 : decode (pm_mb 211) 492 = .ok (.iload_n 3, 1) := by decide +kernel
theorem dc211_493 : decode (pm_mb 211) 493 = .ok (.iconst 2, 1) := by decide +kernel
theorem dc211_494 : decode (pm_mb 211) 494 = .ok (.iadd, 1) := by decide +kernel
theorem dc211_495 : decode (pm_mb 211) 495 = .ok (.iaload, 1) := by decide +kernel
theorem dc211_496 : decode (pm_mb 211) 496 = .ok (.invokevirtual 60, 3) := by decide +kernel
theorem dc211_499 : decode (pm_mb 211) 499 = .ok (.if_icmp .eq 572, 3) := by decide +kernel
theorem dc211_502 : decode (pm_mb 211) 502 = .ok (.iconst 0, 1) := by decide +kernel
theorem dc211_503 : decode (pm_mb 211) 503 = .ok (.ireturn, 1) := by decide +kernel
theorem dc211_504 : decode (pm_mb 211) 504 = .ok (.aload_n 1, 1) := by decide +kernel
theorem dc211_505 : decode (pm_mb 211) 505 = .ok (.aload_n 0, 1) := by decide +kernel
theorem dc211_506 : decode (pm_mb 211) 506 = .ok (.iload_n 3, 1) := by decide +kernel
theorem dc211_507 : decode (pm_mb 211) 507 = .ok (.iconst 1, 1) := by decide +kernel
theorem dc211_508 : decode (pm_mb 211) 508 = .ok (.iadd, 1) := by decide +kernel
theorem dc211_509 : decode (pm_mb 211) 509 = .ok (.iaload, 1) := by decide +kernel
theorem dc211_510 : decode (pm_mb 211) 510 = .ok (.aload_n 0, 1) := by decide +kernel
theorem dc211_511 : decode (pm_mb 211) 511 = .ok (.iload_n 3, 1) := by decide +kernel
theorem dc211_512 : decode (pm_mb 211) 512 = .ok (.iconst 2, 1) := by decide +kernel
theorem dc211_513 : decode (pm_mb 211) 513 = .ok (.iadd, 1) := by decide +kernel
theorem dc211_514 : decode (pm_mb 211) 514 = .ok (.iaload, 1) := by decide +kernel
theorem dc211_515 : decode (pm_mb 211) 515 = .ok (.aload_n 0, 1) := by decide +kernel
theorem dc211_516 : decode (pm_mb 211) 516 = .ok (.iload_n 3, 1) := by decide +kernel
theorem dc211_517 : decode (pm_mb 211) 517 = .ok (.iconst 3, 1) := by decide +kernel
theorem dc211_518 : decode (pm_mb 211) 518 = .ok (.iadd, 1) := by decide +kernel
theorem dc211_519 : decode (pm_mb 211) 519 = .ok (.iaload, 1) := by decide +kernel
theorem dc211_520 : decode (pm_mb 211) 520 = .ok (.invokevirtual 61, 3) := by decide +kernel
theorem dc211_523 : decode (pm_mb 211) 523 = .ok (.aload_n 2, 1) := by decide +kernel
theorem dc211_524 : decode (pm_mb 211) 524 = .ok (.aload_n 0, 1) := by decide +kernel
theorem dc211_525 : decode (pm_mb 211) 525 = .ok (.iload_n 3, 1) := by decide +kernel
theorem dc211_526 : decode (pm_mb 211) 526 = .ok (.iconst 1, 1) := by decide +kernel
theorem dc211_527 : decode (pm_mb 211) 527 = .ok (.iadd, 1) := by decide +kernel
theorem dc211_528 : decode (pm_mb 211) 528 = .ok (.iaload, 1) := by decide +kernel
theorem dc211_529 : decode (pm_mb 211) 529 = .ok (.aload_n 0, 1) := by decide +kernel
theorem dc211_530 : decode (pm_mb 211) 530 = .ok (.iload_n 3, 1) := by decide +kernel
theorem dc211_531 : decode (pm_mb 211) 531 = .ok (.iconst 2, 1) := by decide +kernel
theorem dc211_532 : decode (pm_mb 211) 532 = .ok (.iadd, 1) := by decide +kernel
theorem dc211_533 : decode (pm_mb 211) 533 = .ok (.iaload, 1) := by decide +kernel
theorem dc211_534 : decode (pm_mb 211) 534 = .ok (.aload_n 0, 1) := by decide +kernel
theorem dc211_535 : decode (pm_mb 211) 535 = .ok (.iload_n 3, 1) := by decide +kernel
theorem dc211_536 : decode (pm_mb 211) 536 = .ok (.iconst 3, 1) := by decide +kernel
theorem dc211_537 : decode (pm_mb 211) 537 = .ok (.iadd, 1) := by decide +kernel
theorem dc211_538 : decode (pm_mb 211) 538 = .ok (.iaload, 1) := by decide +kernel
theorem dc211_539 : decode (pm_mb 211) 539 = .ok (.invokevirtual 64, 3) := by decide +kernel
theorem dc211_542 : decode (pm_mb 211) 542 = .ok (.if_icmp .eq 529, 3) := by decide +kernel
theorem dc211_545 : decode (pm_mb 211) 545 = .ok (.iconst 0, 1) := by decide +kernel
theorem dc211_546 : decode (pm_mb 211) 546 = .ok (.ireturn, 1) := by decide +kernel
theorem dc211_547 : decode (pm_mb 211) 547 = .ok (.aload_n 1, 1) := by decide +kernel
theorem dc211_548 : decode (pm_mb 211) 548 = .ok (.invokevirtual 65, 3) := by decide +kernel
theorem dc211_551 : decode (pm_mb 211) 551 = .ok (.aload_n 2, 1) := by decide +kernel
theorem dc211_552 : decode (pm_mb 211) 552 = .ok (.invokevirtual 68, 3) := by decide +kernel
theorem dc211_555 : decode (pm_mb 211) 555 = .ok (.if_icmp .eq 516, 3) := by decide +kernel
theorem dc211_558 : decode (pm_mb 211) 558 = .ok (.iconst 0, 1) := by decide +kernel
theorem dc211_559 : decode (pm_mb 211) 559 = .ok (.ireturn, 1) := by decide +kernel
theorem dc211_560 : decode (pm_mb 211) 560 = .ok (.aload_n 1, 1) := by decide +kernel
theorem dc211_561 : decode (pm_mb 211) 561 = .ok (.aload_n 0, 1) := by decide +kernel
theorem dc211_562 : decode (pm_mb 211) 562 = .ok (.iload_n 3, 1) := by decide +kernel
theorem dc211_563 : decode (pm_mb 211) 563 = .ok (.iconst 1, 1) := by decide +kernel
theorem dc211_564 : decode (pm_mb 211) 564 = .ok (.iadd, 1) := by decide +kernel
theorem dc211_565 : decode (pm_mb 211) 565 = .ok (.iaload, 1) := by decide +kernel
theorem dc211_566 : decode (pm_mb 211) 566 = .ok (.aload_n 0, 1) := by decide +kernel
theorem dc211_567 : decode (pm_mb 211) 567 = .ok (.iload_n 3, 1) := by decide +kernel
theorem dc211_568 : decode (pm_mb 211) 568 = .ok (.iconst 2, 1) := by decide +kernel
theorem dc211_569 : decode (pm_mb 211) 569 = .ok (.iadd, 1) := by decide +kernel
theorem dc211_570 : decode (pm_mb 211) 570 = .ok (.iaload, 1) := by decide +kernel
theorem dc211_571 : decode (pm_mb 211) 571 = .ok (.invokevirtual 69, 3) := by decide +kernel
theorem dc211_574 : decode (pm_mb 211) 574 = .ok (.aload_n 2, 1) := by decide +kernel
theorem dc211_575 : decode (pm_mb 211) 575 = .ok (.aload_n 0, 1) := by decide +kernel
theorem dc211_576 : decode (pm_mb 211) 576 = .ok (.iload_n 3, 1) := by decide +kernel
theorem dc211_577 : decode (pm_mb 211) 577 = .ok (.iconst 1, 1) := by decide +kernel
theorem dc211_578 : decode (pm_mb 211) 578 = .ok (.iadd, 1) := by decide +kernel
theorem dc211_579 : decode (pm_mb 211) 579 = .ok (.iaload, 1) := by decide +kernel
theorem dc211_580 : decode (pm_mb 211) 580 = .ok (.aload_n 0, 1) := by decide +kernel
theorem dc211_581 : decode (pm_mb 211) 581 = .ok (.iload_n 3, 1) := by decide +kernel
theorem dc211_582 : decode (pm_mb 211) 582 = .ok (.iconst 2, 1) := by decide +kernel
theorem dc211_583 : decode (pm_mb 211) 583 = .ok (.iadd, 1) := by decide +kernel
theorem dc211_584 : decode (pm_mb 211) 584 = .ok (.iaload, 1) := by decide +kernel
theorem dc211_585 : decode (pm_mb 211) 585 = .ok (.invokevirtual 72, 3) := by decide +kernel
theorem dc211_588 : decode (pm_mb 211) 588 = .ok (.if_icmp .eq 483, 3) := by decide +kernel
theorem dc211_591 : decode (pm_mb 211) 591 = .ok (.iconst 0, 1) := by decide +kernel
theorem dc211_592 : decode (pm_mb 211) 592 = .ok (.ireturn, 1) := by decide +kernel
theorem dc211_593 : decode (pm_mb 211) 593 = .ok (.aload_n 1, 1) := by decide +kernel
theorem dc211_594 : decode (pm_mb 211) 594 = .ok (.aload_n 0, 1) := by decide +kernel
theorem dc211_595 : decode (pm_mb 211) 595 = .ok (.iload_n 3, 1) := by decide +kernel
theorem dc211_596 : decode (pm_mb 211) 596 = .ok (.iconst 1, 1) := by decide +kernel
theorem dc211_597 : decode (pm_mb 211) 597 = .ok (.iadd, 1) := by decide +kernel
theorem dc211_598 : decode (pm_mb 211) 598 = .ok (.iaload, 1) := by decide +kernel
theorem dc211_599 : decode (pm_mb 211) 599 = .ok (.aload_n 0, 1) := by decide +kernel
theorem dc211_600 : decode (pm_mb 211) 600 = .ok (.iload_n 3, 1) := by decide +kernel
theorem dc211_601 : decode (pm_mb 211) 601 = .ok (.iconst 2, 1) := by decide +kernel
theorem dc211_602 : decode (pm_mb 211) 602 = .ok (.iadd, 1) := by decide +kernel
theorem dc211_603 : decode (pm_mb 211) 603 = .ok (.iaload, 1) := by decide +kernel
theorem dc211_604 : decode (pm_mb 211) 604 = .ok (.invokevirtual 73, 3) := by decide +kernel
theorem dc211_607 : decode (pm_mb 211) 607 = .ok (.aload_n 2, 1) := by decide +kernel
theorem dc211_608 : decode (pm_mb 211) 608 = .ok (.aload_n 0, 1) := by decide +kernel
theorem dc211_609 : decode (pm_mb 211) 609 = .ok (.iload_n 3, 1) := by decide +kernel
theorem dc211_610 : decode (pm_mb 211) 610 = .ok (.iconst 1, 1) := by decide +kernel
theorem dc211_611 : decode (pm_mb 211) 611 = .ok (.iadd, 1) := by decide +kernel
theorem dc211_612 : decode (pm_mb 211) 612 = .ok (.iaload, 1) := by decide +kernel
theorem dc211_613 : decode (pm_mb 211) 613 = .ok (.aload_n 0, 1) := by decide +kernel
theorem dc211_614 : decode (pm_mb 211) 614 = .ok (.iload_n 3, 1) := by decide +kernel
theorem dc211_615 : decode (pm_mb 211) 615 = .ok (.iconst 2, 1) := by decide +kernel
theorem dc211_616 : decode (pm_mb 211) 616 = .ok (.iadd, 1) := by decide +kernel
theorem dc211_617 : decode (pm_mb 211) 617 = .ok (.iaload, 1) := by decide +kernel
theorem dc211_618 : decode (pm_mb 211) 618 = .ok (.invokevirtual 76, 3) := by decide +kernel
theorem dc211_621 : decode (pm_mb 211) 621 = .ok (.if_icmp .eq 450, 3) := by decide +kernel
theorem dc211_624 : decode (pm_mb 211) 624 = .ok (.iconst 0, 1) := by decide +kernel
theorem dc211_625 : decode (pm_mb 211) 625 = .ok (.ireturn, 1) := by decide +kernel
theorem dc211_626 : decode (pm_mb 211) 626 = .ok (.aload_n 1, 1) := by decide +kernel
theorem dc211_627 : decode (pm_mb 211) 627 = .ok (.aload_n 0, 1) := by decide +kernel
theorem dc211_628 : decode (pm_mb 211) 628 = .ok (.iload_n 3, 1) := by decide +kernel
theorem dc211_629 : decode (pm_mb 211) 629 = .ok (.iconst 1, 1) := by decide +kernel
theorem dc211_630 : decode (pm_mb 211) 630 = .ok (.iadd, 1) := by decide +kernel
theorem dc211_631 : decode (pm_mb 211) 631 = .ok (.iaload, 1) := by decide +kernel
theorem dc211_632 : decode (pm_mb 211) 632 = .ok (.aload_n 0, 1) := by decide +kernel
theorem dc211_633 : decode (pm_mb 211) 633 = .ok (.iload_n 3, 1) := by decide +kernel
theorem dc211_634 : decode (pm_mb 211) 634 = .ok (.iconst 2, 1) := by decide +kernel
theorem dc211_635 : decode (pm_mb 211) 635 = .ok (.iadd, 1) := by decide +kernel
theorem dc211_636 : decode (pm_mb 211) 636 = .ok (.iaload, 1) := by decide +kernel
theorem dc211_637 : decode (pm_mb 211) 637 = .ok (.aload_n 0, 1) := by decide +kernel
theorem dc211_638 : decode (pm_mb 211) 638 = .ok (.iload_n 3, 1) := by decide +kernel
theorem dc211_639 : decode (pm_mb 211) 639 = .ok (.iconst 3, 1) := by decide +kernel
theorem dc211_640 : decode (pm_mb 211) 640 = .ok (.iadd, 1) := by decide +kernel
theorem dc211_641 : decode (pm_mb 211) 641 = .ok (.iaload, 1) := by decide +kernel
theorem dc211_642 : decode (pm_mb 211) 642 = .ok (.invokevirtual 77, 3) := by decide +kernel
theorem dc211_645 : decode (pm_mb 211) 645 = .ok (.aload_n 2, 1) := by decide +kernel
theorem dc211_646 : decode (pm_mb 211) 646 = .ok (.aload_n 0, 1) := by decide +kernel
theorem dc211_647 : decode (pm_mb 211) 647 = .ok (.iload_n 3, 1) := by decide +kernel
theorem dc211_648 : decode (pm_mb 211) 648 = .ok (.iconst 1, 1) := by decide +kernel
theorem dc211_649 : decode (pm_mb 211) 649 = .ok (.iadd, 1) := by decide +kernel
theorem dc211_650 : decode (pm_mb 211) 650 = .ok (.iaload, 1) := by decide +kernel
theorem dc211_651 : decode (pm_mb 211) 651 = .ok (.aload_n 0, 1) := by decide +kernel
theorem dc211_652 : decode (pm_mb 211) 652 = .ok (.iload_n 3, 1) := by decide +kernel
theorem dc211_653 : decode (pm_mb 211) 653 = .ok (.iconst 2, 1) := by decide +kernel
theorem dc211_654 : decode (pm_mb 211) 654 = .ok (.iadd, 1) := by decide +kernel
theorem dc211_655 : decode (pm_mb 211) 655 = .ok (.iaload, 1) := by decide +kernel
theorem dc211_656 : decode (pm_mb 211) 656 = .ok (.aload_n 0, 1) := by decide +kernel
theorem dc211_657 : decode (pm_mb 211) 657 = .ok (.iload_n 3, 1) := by decide +kernel
theorem dc211_658 : decode (pm_mb 211) 658 = .ok (.iconst 3, 1) := by decide +kernel
theorem dc211_659 : decode (pm_mb 211) 659 = .ok (.iadd, 1) := by decide +kernel
theorem dc211_660 : decode (pm_mb 211) 660 = .ok (.iaload, 1) := by decide +kernel
theorem dc211_661 : decode (pm_mb 211) 661 = .ok (.invokevirtual 80, 3) := by decide +kernel
theorem dc211_664 : decode (pm_mb 211) 664 = .ok (.if_icmp .eq 407, 3) := by decide +kernel
theorem dc211_667 : decode (pm_mb 211) 667 = .ok (.iconst 0, 1) := by decide +kernel
theorem dc211_668 : decode (pm_mb 211) 668 = .ok (.ireturn, 1) := by decide +kernel
theorem dc211_669 : decode (pm_mb 211) 669 = .ok (.aload_n 1, 1) := by decide +kernel
theorem dc211_670 : decode (pm_mb 211) 670 = .ok (.aload_n 0, 1) := by decide +kernel
theorem dc211_671 : decode (pm_mb 211) 671 = .ok (.iload_n 3, 1) := by decide +kernel
theorem dc211_672 : decode (pm_mb 211) 672 = .ok (.iconst 1, 1) := by decide +kernel
theorem dc211_673 : decode (pm_mb 211) 673 = .ok (.iadd, 1) := by decide +kernel
theorem dc211_674 : decode (pm_mb 211) 674 = .ok (.iaload, 1) := by decide +kernel
theorem dc211_675 : decode (pm_mb 211) 675 = .ok (.invokevirtual 81, 3) := by decide +kernel
theorem dc211_678 : decode (pm_mb 211) 678 = .ok (.aload_n 2, 1) := by decide +kernel
theorem dc211_679 : decode (pm_mb 211) 679 = .ok (.aload_n 0, 1) := by decide +kernel
theorem dc211_680 : decode (pm_mb 211) 680 = .ok (.iload_n 3, 1) := by decide +kernel
theorem dc211_681 : decode (pm_mb 211) 681 = .ok (.iconst 1, 1) := by decide +kernel
theorem dc211_682 : decode (pm_mb 211) 682 = .ok (.iadd, 1) := by decide +kernel
theorem dc211_683 : decode (pm_mb 211) 683 = .ok (.iaload, 1) := by decide +kernel
theorem dc211_684 : decode (pm_mb 211) 684 = .ok (.invokevirtual 84, 3) := by decide +kernel
theorem dc211_687 : decode (pm_mb 211) 687 = .ok (.if_icmp .eq 384, 3) := by decide +kernel
theorem dc211_690 : decode (pm_mb 211) 690 = .ok (.iconst 0, 1) := by decide +kernel
theorem dc211_691 : decode (pm_mb 211) 691 = .ok (.ireturn, 1) := by decide +kernel
theorem dc211_692 : decode (pm_mb 211) 692 = .ok (.aload_n 1, 1) := by decide +kernel
theorem dc211_693 : decode (pm_mb 211) 693 = .ok (.aload_n 0, 1) := by decide +kernel
theorem dc211_694 : decode (pm_mb 211) 694 = .ok (.iload_n 3, 1) := by decide +kernel
theorem dc211_695 : decode (pm_mb 211) 695 = .ok (.iconst 1, 1) := by decide +kernel
theorem dc211_696 : decode (pm_mb 211) 696 = .ok (.iadd, 1) := by decide +kernel
theorem dc211_697 : decode (pm_mb 211) 697 = .ok (.iaload, 1) := by decide +kernel
theorem dc211_698 : decode (pm_mb 211) 698 = .ok (.aload_n 0, 1) := by decide +kernel
theorem dc211_699 : decode (pm_mb 211) 699 = .ok (.iload_n 3, 1) := by decide +kernel
theorem dc211_700 : decode (pm_mb 211) 700 = .ok (.iconst 2, 1) := by decide +kernel
theorem dc211_701 : decode (pm_mb 211) 701 = .ok (.iadd, 1) := by decide +kernel
theorem dc211_702 : decode (pm_mb 211) 702 = .ok (.iaload, 1) := by decide +kernel
theorem dc211_703 : decode (pm_mb 211) 703 = .ok (.aload_n 0, 1) := by decide +kernel
theorem dc211_704 : decode (pm_mb 211) 704 = .ok (.iload_n 3, 1) := by decide +kernel
theorem dc211_705 : decode (pm_mb 211) 705 = .ok (.iconst 3, 1) := by decide +kernel
theorem dc211_706 : decode (pm_mb 211) 706 = .ok (.iadd, 1) := by decide +kernel
theorem dc211_707 : decode (pm_mb 211) 707 = .ok (.iaload, 1) := by decide +kernel
theorem dc211_708 : decode (pm_mb 211) 708 = .ok (.invokevirtual 85, 3) := by decide +kernel
theorem dc211_711 : decode (pm_mb 211) 711 = .ok (.aload_n 2, 1) := by decide +kernel
theorem dc211_712 : decode (pm_mb 211) 712 = .ok (.aload_n 0, 1) := by decide +kernel
theorem dc211_713 : decode (pm_mb 211) 713 = .ok (.iload_n 3, 1) := by decide +kernel
theorem dc211_714 : decode (pm_mb 211) 714 = .ok (.iconst 1, 1) := by decide +kernel
theorem dc211_715 : decode (pm_mb 211) 715 = .ok (.iadd, 1) := by decide +kernel
theorem dc211_716 : decode (pm_mb 211) 716 = .ok (.iaload, 1) := by decide +kernel
theorem dc211_717 : decode (pm_mb 211) 717 = .ok (.aload_n 0, 1) := by decide +kernel
theorem dc211_718 : decode (pm_mb 211) 718 = .ok (.iload_n 3, 1) := by decide +kernel
theorem dc211_719 : decode (pm_mb 211) 719 = .ok (.iconst 2, 1) := by decide +kernel
theorem dc211_720 : decode (pm_mb 211) 720 = .ok (.iadd, 1) := by decide +kernel
theorem dc211_721 : decode (pm_mb 211) 721 = .ok (.iaload, 1) := by decide +kernel
theorem dc211_722 : decode (pm_mb 211) 722 = .ok (.aload_n 0, 1) := by decide +kernel
theorem dc211_723 : decode (pm_mb 211) 723 = .ok (.iload_n 3, 1) := by decide +kernel
theorem dc211_724 : decode (pm_mb 211) 724 = .ok (.iconst 3, 1) := by decide +kernel
theorem dc211_725 : decode (pm_mb 211) 725 = .ok (.iadd, 1) := by decide +kernel
theorem dc211_726 : decode (pm_mb 211) 726 = .ok (.iaload, 1) := by decide +kernel
theorem dc211_727 : decode (pm_mb 211) 727 = .ok (.invokevirtual 88, 3) := by decide +kernel
theorem dc211_730 : decode (pm_mb 211) 730 = .ok (.if_icmp .eq 341, 3) := by decide +kernel
theorem dc211_733 : decode (pm_mb 211) 733 = .ok (.iconst 0, 1) := by decide +kernel
theorem dc211_734 : decode (pm_mb 211) 734 = .ok (.ireturn, 1) := by decide +kernel
theorem dc211_735 : decode (pm_mb 211) 735 = .ok (.aload_n 1, 1) := by decide +kernel
theorem dc211_736 : decode (pm_mb 211) 736 = .ok (.aload_n 0, 1) := by decide +kernel
theorem dc211_737 : decode (pm_mb 211) 737 = .ok (.iload_n 3, 1) := by decide +kernel
theorem dc211_738 : decode (pm_mb 211) 738 = .ok (.iconst 1, 1) := by decide +kernel
theorem dc211_739 : decode (pm_mb 211) 739 = .ok (.iadd, 1) := by decide +kernel
theorem dc211_740 : decode (pm_mb 211) 740 = .ok (.iaload, 1) := by decide +kernel
theorem dc211_741 : decode (pm_mb 211) 741 = .ok (.aload_n 0, 1) := by decide +kernel
theorem dc211_742 : decode (pm_mb 211) 742 = .ok (.iload_n 3, 1) := by decide +kernel
theorem dc211_743 : decode (pm_mb 211) 743 = .ok (.iconst 2, 1) := by decide +kernel
theorem dc211_744 : decode (pm_mb 211) 744 = .ok (.iadd, 1) := by decide +kernel
theorem dc211_745 : decode (pm_mb 211) 745 = .ok (.iaload, 1) := by decide +kernel
theorem dc211_746 : decode (pm_mb 211) 746 = .ok (.aload_n 0, 1) := by decide +kernel
theorem dc211_747 : decode (pm_mb 211) 747 = .ok (.iload_n 3, 1) := by decide +kernel
theorem dc211_748 : decode (pm_mb 211) 748 = .ok (.iconst 3, 1) := by decide +kernel
theorem dc211_749 : decode (pm_mb 211) 749 = .ok (.iadd, 1) := by decide +kernel
theorem dc211_750 : decode (pm_mb 211) 750 = .ok (.iaload, 1) := by decide +kernel
theorem dc211_751 : decode (pm_mb 211) 751 = .ok (.aload_n 0, 1) := by decide +kernel
theorem dc211_752 : decode (pm_mb 211) 752 = .ok (.iload_n 3, 1) := by decide +kernel
theorem dc211_753 : decode (pm_mb 211) 753 = .ok (.iconst 4, 1) := by decide +kernel
theorem dc211_754 : decode (pm_mb 211) 754 = .ok (.iadd, 1) := by decide +kernel
theorem dc211_755 : decode (pm_mb 211) 755 = .ok (.iaload, 1) := by decide +kernel
theorem dc211_756 : decode (pm_mb 211) 756 = .ok (.invokevirtual 89, 3) := by decide +kernel
theorem dc211_759 : decode (pm_mb 211) 759 = .ok (.aload_n 2, 1) := by decide +kernel
theorem dc211_760 : decode (pm_mb 211) 760 = .ok (.aload_n 0, 1) := by decide +kernel
theorem dc211_761 : decode (pm_mb 211) 761 = .ok (.iload_n 3, 1) := by decide +kernel
theorem dc211_762 : decode (pm_mb 211) 762 = .ok (.iconst 1, 1) := by decide +kernel
theorem dc211_763 : decode (pm_mb 211) 763 = .ok (.iadd, 1) := by decide +kernel
theorem dc211_764 : decode (pm_mb 211) 764 = .ok (.iaload, 1) := by decide +kernel
theorem dc211_765 : decode (pm_mb 211) 765 = .ok (.aload_n 0, 1) := by decide +kernel
theorem dc211_766 : decode (pm_mb 211) 766 = .ok (.iload_n 3, 1) := by decide +kernel
theorem dc211_767 : decode (pm_mb 211) 767 = .ok (.iconst 2, 1) := by decide +kernel
theorem dc211_768 : decode (pm_mb 211) 768 = .ok (.iadd, 1) := by decide +kernel
theorem dc211_769 : decode (pm_mb 211) 769 = .ok (.iaload, 1) := by decide +kernel
theorem dc211_770 : decode (pm_mb 211) 770 = .ok (.aload_n 0, 1) := by decide +kernel
theorem dc211_771 : decode (pm_mb 211) 771 = .ok (.iload_n 3, 1) := by decide +kernel
theorem dc211_772 : decode (pm_mb 211) 772 = .ok (.iconst 3, 1) := by decide +kernel
theorem dc211_773 : decode (pm_mb 211) 773 = .ok (.iadd, 1) := by decide +kernel
theorem dc211_774 : decode (pm_mb 211) 774 = .ok (.iaload, 1) := by decide +kernel
theorem dc211_775 : decode (pm_mb 211) 775 = .ok (.aload_n 0, 1) := by decide +kernel
theorem dc211_776 : decode (pm_mb 211) 776 = .ok (.iload_n 3, 1) := by decide +kernel
theorem dc211_777 : decode (pm_mb 211) 777 = .ok (.iconst 4, 1) := by decide +kernel
theorem dc211_778 : decode (pm_mb 211) 778 = .ok (.iadd, 1) := by decide +kernel
theorem dc211_779 : decode (pm_mb 211) 779 = .ok (.iaload, 1) := by decide +kernel
theorem dc211_780 : decode (pm_mb 211) 780 = .ok (.invokevirtual 93, 3) := by decide +kernel
theorem dc211_783 : decode (pm_mb 211) 783 = .ok (.if_icmp .eq 288, 3) := by decide +kernel
theorem dc211_786 : decode (pm_mb 211) 786 = .ok (.iconst 0, 1) := by decide +kernel
theorem dc211_787 : decode (pm_mb 211) 787 = .ok (.ireturn, 1) := by decide +kernel
theorem dc211_788 : decode (pm_mb 211) 788 = .ok (.aload_n 1, 1) := by decide +kernel
theorem dc211_789 : decode (pm_mb 211) 789 = .ok (.aload_n 0, 1) := by decide +kernel
theorem dc211_790 : decode (pm_mb 211) 790 = .ok (.iload_n 3, 1) := by decide +kernel
theorem dc211_791 : decode (pm_mb 211) 791 = .ok (.iconst 1, 1) := by decide +kernel
theorem dc211_792 : decode (pm_mb 211) 792 = .ok (.iadd, 1) := by decide +kernel
theorem dc211_793 : decode (pm_mb 211) 793 = .ok (.iaload, 1) := by decide +kernel
theorem dc211_794 : decode (pm_mb 211) 794 = .ok (.invokevirtual 94, 3) := by decide +kernel
theorem dc211_797 : decode (pm_mb 211) 797 = .ok (.aload_n 2, 1) := by decide +kernel
theorem dc211_798 : decode (pm_mb 211) 798 = .ok (.aload_n 0, 1) := by decide +kernel
theorem dc211_799 : decode (pm_mb 211) 799 = .ok (.iload_n 3, 1) := by decide +kernel
theorem dc211_800 : decode (pm_mb 211) 800 = .ok (.iconst 1, 1) := by decide +kernel
theorem dc211_801 : decode (pm_mb 211) 801 = .ok (.iadd, 1) := by decide +kernel
theorem dc211_802 : decode (pm_mb 211) 802 = .ok (.iaload, 1) := by decide +kernel
theorem dc211_803 : decode (pm_mb 211) 803 = .ok (.invokevirtual 97, 3) := by decide +kernel
theorem dc211_806 : decode (pm_mb 211) 806 = .ok (.if_icmp .eq 265, 3) := by decide +kernel
theorem dc211_809 : decode (pm_mb 211) 809 = .ok (.iconst 0, 1) := by decide +kernel
theorem dc211_810 : decode (pm_mb 211) 810 = .ok (.ireturn, 1) := by decide +kernel
theorem dc211_811 : decode (pm_mb 211) 811 = .ok (.aload_n 1, 1) := by decide +kernel
theorem dc211_812 : decode (pm_mb 211) 812 = .ok (.aload_n 0, 1) := by decide +kernel
theorem dc211_813 : decode (pm_mb 211) 813 = .ok (.iload_n 3, 1) := by decide +kernel
theorem dc211_814 : decode (pm_mb 211) 814 = .ok (.iconst 1, 1) := by decide +kernel
theorem dc211_815 : decode (pm_mb 211) 815 = .ok (.iadd, 1) := by decide +kernel
theorem dc211_816 : decode (pm_mb 211) 816 = .ok (.iaload, 1) := by decide +kernel
theorem dc211_817 : decode (pm_mb 211) 817 = .ok (.aload_n 0, 1) := by decide +kernel
theorem dc211_818 : decode (pm_mb 211) 818 = .ok (.iload_n 3, 1) := by decide +kernel
theorem dc211_819 : decode (pm_mb 211) 819 = .ok (.iconst 2, 1) := by decide +kernel
theorem dc211_820 : decode (pm_mb 211) 820 = .ok (.iadd, 1) := by decide +kernel
theorem dc211_821 : decode (pm_mb 211) 821 = .ok (.iaload, 1) := by decide +kernel
theorem dc211_822 : decode (pm_mb 211) 822 = .ok (.aload_n 0, 1) := by decide +kernel
theorem dc211_823 : decode (pm_mb 211) 823 = .ok (.iload_n 3, 1) := by decide +kernel
theorem dc211_824 : decode (pm_mb 211) 824 = .ok (.iconst 3, 1) := by decide +kernel
theorem dc211_825 : decode (pm_mb 211) 825 = .ok (.iadd, 1) := by decide +kernel
theorem dc211_826 : decode (pm_mb 211) 826 = .ok (.iaload, 1) := by decide +kernel
theorem dc211_827 : decode (pm_mb 211) 827 = .ok (.invokevirtual 98, 3) := by decide +kernel
theorem dc211_830 : decode (pm_mb 211) 830 = .ok (.aload_n 2, 1) := by decide +kernel
theorem dc211_831 : decode (pm_mb 211) 831 = .ok (.aload_n 0, 1) := by decide +kernel
theorem dc211_832 : decode (pm_mb 211) 832 = .ok (.iload_n 3, 1) := by decide +kernel
theorem dc211_833 : decode (pm_mb 211) 833 = .ok (.iconst 1, 1) := by decide +kernel
theorem dc211_834 : decode (pm_mb 211) 834 = .ok (.iadd, 1) := by decide +kernel
theorem dc211_835 : decode (pm_mb 211) 835 = .ok (.iaload, 1) := by decide +kernel
theorem dc211_836 : decode (pm_mb 211) 836 = .ok (.aload_n 0, 1) := by decide +kernel
theorem dc211_837 : decode (pm_mb 211) 837 = .ok (.iload_n 3, 1) := by decide +kernel
theorem dc211_838 : decode (pm_mb 211) 838 = .ok (.iconst 2, 1) := by decide +kernel
theorem dc211_839 : decode (pm_mb 211) 839 = .ok (.iadd, 1) := by decide +kernel
theorem dc211_840 : decode (pm_mb 211) 840 = .ok (.iaload, 1) := by decide +kernel
theorem dc211_841 : decode (pm_mb 211) 841 = .ok (.aload_n 0, 1) := by decide +kernel
theorem dc211_842 : decode (pm_mb 211) 842 = .ok (.iload_n 3, 1) := by decide +kernel
theorem dc211_843 : decode (pm_mb 211) 843 = .ok (.iconst 3, 1) := by decide +kernel
theorem dc211_844 : decode (pm_mb 211) 844 = .ok (.iadd, 1) := by decide +kernel
theorem dc211_845 : decode (pm_mb 211) 845 = .ok (.iaload, 1) := by decide +kernel
theorem dc211_846 : decode (pm_mb 211) 846 = .ok (.invokevirtual 101, 3) := by decide +kernel
theorem dc211_849 : decode (pm_mb 211) 849 = .ok (.if_icmp .eq 222, 3) := by decide +kernel
theorem dc211_852 : decode (pm_mb 211) 852 = .ok (.iconst 0, 1) := by decide +kernel
theorem dc211_853 : decode (pm_mb 211) 853 = .ok (.ireturn, 1) := by decide +kernel
theorem dc211_854 : decode (pm_mb 211) 854 = .ok (.aload_n 1, 1) := by decide +kernel
theorem dc211_855 : decode (pm_mb 211) 855 = .ok (.aload_n 0, 1) := by decide +kernel
theorem dc211_856 : decode (pm_mb 211) 856 = .ok (.iload_n 3, 1) := by decide +kernel
theorem dc211_857 : decode (pm_mb 211) 857 = .ok (.iconst 1, 1) := by decide +kernel
theorem dc211_858 : decode (pm_mb 211) 858 = .ok (.iadd, 1) := by decide +kernel
theorem dc211_859 : decode (pm_mb 211) 859 = .ok (.iaload, 1) := by decide +kernel
theorem dc211_860 : decode (pm_mb 211) 860 = .ok (.invokevirtual 102, 3) := by decide +kernel
theorem dc211_863 : decode (pm_mb 211) 863 = .ok (.aload_n 2, 1) := by decide +kernel
theorem dc211_864 : decode (pm_mb 211) 864 = .ok (.aload_n 0, 1) := by decide +kernel
theorem dc211_865 : decode (pm_mb 211) 865 = .ok (.iload_n 3, 1) := by decide +kernel
theorem dc211_866 : decode (pm_mb 211) 866 = .ok (.iconst 1, 1) := by decide +kernel
theorem dc211_867 : decode (pm_mb 211) 867 = .ok (.iadd, 1) := by decide +kernel
theorem dc211_868 : decode (pm_mb 211) 868 = .ok (.iaload, 1) := by decide +kernel
theorem dc211_869 : decode (pm_mb 211) 869 = .ok (.invokevirtual 105, 3) := by decide +kernel
theorem dc211_872 : decode (pm_mb 211) 872 = .ok (.if_icmp .eq 199, 3) := by decide +kernel
theorem dc211_875 : decode (pm_mb 211) 875 = .ok (.iconst 0, 1) := by decide +kernel
theorem dc211_876 : decode (pm_mb 211) 876 = .ok (.ireturn, 1) := by decide +kernel
theorem dc211_877 : decode (pm_mb 211) 877 = .ok (.aload_n 1, 1) := by decide +kernel
theorem dc211_878 : decode (pm_mb 211) 878 = .ok (.aload_n 0, 1) := by decide +kernel
theorem dc211_879 : decode (pm_mb 211) 879 = .ok (.iload_n 3, 1) := by decide +kernel
theorem dc211_880 : decode (pm_mb 211) 880 = .ok (.iconst 1, 1) := by decide +kernel
theorem dc211_881 : decode (pm_mb 211) 881 = .ok (.iadd, 1) := by decide +kernel
theorem dc211_882 : decode (pm_mb 211) 882 = .ok (.iaload, 1) := by decide +kernel
theorem dc211_883 : decode (pm_mb 211) 883 = .ok (.invokevirtual 106, 3) := by decide +kernel
theorem dc211_886 : decode (pm_mb 211) 886 = .ok (.aload_n 2, 1) := by decide +kernel
theorem dc211_887 : decode (pm_mb 211) 887 = .ok (.aload_n 0, 1) := by decide +kernel
theorem dc211_888 : decode (pm_mb 211) 888 = .ok (.iload_n 3, 1) := by decide +kernel
theorem dc211_889 : decode (pm_mb 211) 889 = .ok (.iconst 1, 1) := by decide +kernel
theorem dc211_890 : decode (pm_mb 211) 890 = .ok (.iadd, 1) := by decide +kernel
theorem dc211_891 : decode (pm_mb 211) 891 = .ok (.iaload, 1) := by decide +kernel
theorem dc211_892 : decode (pm_mb 211) 892 = .ok (.invokevirtual 109, 3) := by decide +kernel
theorem dc211_895 : decode (pm_mb 211) 895 = .ok (.if_icmp .eq 176, 3) := by decide +kernel
theorem dc211_898 : decode (pm_mb 211) 898 = .ok (.iconst 0, 1) := by decide +kernel
theorem dc211_899 : decode (pm_mb 211) 899 = .ok (.ireturn, 1) := by decide +kernel
theorem dc211_900 : decode (pm_mb 211) 900 = .ok (.aload_n 1, 1) := by decide +kernel
theorem dc211_901 : decode (pm_mb 211) 901 = .ok (.aload_n 0, 1) := by decide +kernel
theorem dc211_902 : decode (pm_mb 211) 902 = .ok (.iload_n 3, 1) := by decide +kernel
theorem dc211_903 : decode (pm_mb 211) 903 = .ok (.iconst 1, 1) := by decide +kernel
theorem dc211_904 : decode (pm_mb 211) 904 = .ok (.iadd, 1) := by decide +kernel
theorem dc211_905 : decode (pm_mb 211) 905 = .ok (.iaload, 1) := by decide +kernel
theorem dc211_906 : decode (pm_mb 211) 906 = .ok (.invokevirtual 110, 3) := by decide +kernel
theorem dc211_909 : decode (pm_mb 211) 909 = .ok (.aload_n 2, 1) := by decide +kernel
theorem dc211_910 : decode (pm_mb 211) 910 = .ok (.aload_n 0, 1) := by decide +kernel
theorem dc211_911 : decode (pm_mb 211) 911 = .ok (.iload_n 3, 1) := by decide +kernel
theorem dc211_912 : decode (pm_mb 211) 912 = .ok (.iconst 1, 1) := by decide +kernel
theorem dc211_913 : decode (pm_mb 211) 913 = .ok (.iadd, 1) := by decide +kernel
theorem dc211_914 : decode (pm_mb 211) 914 = .ok (.iaload, 1) := by decide +kernel
theorem dc211_915 : decode (pm_mb 211) 915 = .ok (.invokevirtual 113, 3) := by decide +kernel
theorem dc211_918 : decode (pm_mb 211) 918 = .ok (.if_icmp .eq 153, 3) := by decide +kernel
theorem dc211_921 : decode (pm_mb 211) 921 = .ok (.iconst 0, 1) := by decide +kernel
theorem dc211_922 : decode (pm_mb 211) 922 = .ok (.ireturn, 1) := by decide +kernel
theorem dc211_923 : decode (pm_mb 211) 923 = .ok (.aload_n 1, 1) := by decide +kernel
theorem dc211_924 : decode (pm_mb 211) 924 = .ok (.aload_n 0, 1) := by decide +kernel
theorem dc211_925 : decode (pm_mb 211) 925 = .ok (.iload_n 3, 1) := by decide +kernel
theorem dc211_926 : decode (pm_mb 211) 926 = .ok (.iconst 1, 1) := by decide +kernel
theorem dc211_927 : decode (pm_mb 211) 927 = .ok (.iadd, 1) := by decide +kernel
theorem dc211_928 : decode (pm_mb 211) 928 = .ok (.iaload, 1) := by decide +kernel
theorem dc211_929 : decode (pm_mb 211) 929 = .ok (.invokevirtual 114, 3) := by decide +kernel
theorem dc211_932 : decode (pm_mb 211) 932 = .ok (.aload_n 2, 1) := by decide +kernel
theorem dc211_933 : decode (pm_mb 211) 933 = .ok (.aload_n 0, 1) := by decide +kernel
theorem dc211_934 : decode (pm_mb 211) 934 = .ok (.iload_n 3, 1) := by decide +kernel
theorem dc211_935 : decode (pm_mb 211) 935 = .ok (.iconst 1, 1) := by decide +kernel
theorem dc211_936 : decode (pm_mb 211) 936 = .ok (.iadd, 1) := by decide +kernel
theorem dc211_937 : decode (pm_mb 211) 937 = .ok (.iaload, 1) := by decide +kernel
theorem dc211_938 : decode (pm_mb 211) 938 = .ok (.invokevirtual 117, 3) := by decide +kernel
theorem dc211_941 : decode (pm_mb 211) 941 = .ok (.if_icmp .eq 130, 3) := by decide +kernel
theorem dc211_944 : decode (pm_mb 211) 944 = .ok (.iconst 0, 1) := by decide +kernel
theorem dc211_945 : decode (pm_mb 211) 945 = .ok (.ireturn, 1) := by decide +kernel
theorem dc211_946 : decode (pm_mb 211) 946 = .ok (.aload_n 1, 1) := by decide +kernel
theorem dc211_947 : decode (pm_mb 211) 947 = .ok (.aload_n 0, 1) := by decide +kernel
theorem dc211_948 : decode (pm_mb 211) 948 = .ok (.iload_n 3, 1) := by decide +kernel
theorem dc211_949 : decode (pm_mb 211) 949 = .ok (.iconst 1, 1) := by decide +kernel
theorem dc211_950 : decode (pm_mb 211) 950 = .ok (.iadd, 1) := by decide +kernel
theorem dc211_951 : decode (pm_mb 211) 951 = .ok (.iaload, 1) := by decide +kernel
theorem dc211_952 : decode (pm_mb 211) 952 = .ok (.aload_n 0, 1) := by decide +kernel
theorem dc211_953 : decode (pm_mb 211) 953 = .ok (.iload_n 3, 1) := by decide +kernel
theorem dc211_954 : decode (pm_mb 211) 954 = .ok (.iconst 2, 1) := by decide +kernel
theorem dc211_955 : decode (pm_mb 211) 955 = .ok (.iadd, 1) := by decide +kernel
theorem dc211_956 : decode (pm_mb 211) 956 = .ok (.iaload, 1) := by decide +kernel
theorem dc211_957 : decode (pm_mb 211) 957 = .ok (.invokevirtual 118, 3) := by decide +kernel
theorem dc211_960 : decode (pm_mb 211) 960 = .ok (.aload_n 2, 1) := by decide +kernel
theorem dc211_961 : decode (pm_mb 211) 961 = .ok (.aload_n 0, 1) := by decide +kernel
theorem dc211_962 : decode (pm_mb 211) 962 = .ok (.iload_n 3, 1) := by decide +kernel
theorem dc211_963 : decode (pm_mb 211) 963 = .ok (.iconst 1, 1) := by decide +kernel
theorem dc211_964 : decode (pm_mb 211) 964 = .ok (.iadd, 1) := by decide +kernel
theorem dc211_965 : decode (pm_mb 211) 965 = .ok (.iaload, 1) := by decide +kernel
theorem dc211_966 : decode (pm_mb 211) 966 = .ok (.aload_n 0, 1) := by decide +kernel
theorem dc211_967 : decode (pm_mb 211) 967 = .ok (.iload_n 3, 1) := by decide +kernel
theorem dc211_968 : decode (pm_mb 211) 968 = .ok (.iconst 2, 1) := by decide +kernel
theorem dc211_969 : decode (pm_mb 211) 969 = .ok (.iadd, 1) := by decide +kernel
theorem dc211_970 : decode (pm_mb 211) 970 = .ok (.iaload, 1) := by decide +kernel
theorem dc211_971 : decode (pm_mb 211) 971 = .ok (.invokevirtual 121, 3) := by decide +kernel
theorem dc211_974 : decode (pm_mb 211) 974 = .ok (.if_icmp .eq 97, 3) := by decide +kernel
theorem dc211_977 : decode (pm_mb 211) 977 = .ok (.iconst 0, 1) := by decide +kernel
theorem dc211_978 : decode (pm_mb 211) 978 = .ok (.ireturn, 1) := by decide +kernel
theorem dc211_979 : decode (pm_mb 211) 979 = .ok (.aload_n 1, 1) := by decide +kernel
theorem dc211_980 : decode (pm_mb 211) 980 = .ok (.aload_n 0, 1) := by decide +kernel
theorem dc211_981 : decode (pm_mb 211) 981 = .ok (.iload_n 3, 1) := by decide +kernel
theorem dc211_982 : decode (pm_mb 211) 982 = .ok (.iconst 1, 1) := by decide +kernel
theorem dc211_983 : decode (pm_mb 211) 983 = .ok (.iadd, 1) := by decide +kernel
theorem dc211_984 : decode (pm_mb 211) 984 = .ok (.iaload, 1) := by decide +kernel
theorem dc211_985 : decode (pm_mb 211) 985 = .ok (.aload_n 0, 1) := by decide +kernel
theorem dc211_986 : decode (pm_mb 211) 986 = .ok (.iload_n 3, 1) := by decide +kernel
theorem dc211_987 : decode (pm_mb 211) 987 = .ok (.iconst 2, 1) := by decide +kernel
theorem dc211_988 : decode (pm_mb 211) 988 = .ok (.iadd, 1) := by decide +kernel
theorem dc211_989 : decode (pm_mb 211) 989 = .ok (.iaload, 1) := by decide +kernel
theorem dc211_990 : decode (pm_mb 211) 990 = .ok (.invokevirtual 122, 3) := by decide +kernel
theorem dc211_993 : decode (pm_mb 211) 993 = .ok (.aload_n 2, 1) := by decide +kernel
theorem dc211_994 : decode (pm_mb 211) 994 = .ok (.aload_n 0, 1) := by decide +kernel
theorem dc211_995 : decode (pm_mb 211) 995 = .ok (.iload_n 3, 1) := by decide +kernel
theorem dc211_996 : decode (pm_mb 211) 996 = .ok (.iconst 1, 1) := by decide +kernel
theorem dc211_997 : decode (pm_mb 211) 997 = .ok (.iadd, 1) := by decide +kernel
theorem dc211_998 : decode (pm_mb 211) 998 = .ok (.iaload, 1) := by decide +kernel
theorem dc211_999 : decode (pm_mb 211) 999 = .ok (.aload_n 0, 1) := by decide +kernel
theorem dc211_1000 : decode (pm_mb 211) 1000 = .ok (.iload_n 3, 1) := by decide +kernel
theorem dc211_1001 : decode (pm_mb 211) 1001 = .ok (.iconst 2, 1) := by decide +kernel
theorem dc211_1002 : decode (pm_mb 211) 1002 = .ok (.iadd, 1) := by decide +kernel
theorem dc211_1003 : decode (pm_mb 211) 1003 = .ok (.iaload, 1) := by decide +kernel
theorem dc211_1004 : decode (pm_mb 211) 1004 = .ok (.invokevirtual 125, 3) := by decide +kernel
theorem dc211_1007 : decode (pm_mb 211) 1007 = .ok (.if_icmp .eq 64, 3) := by decide +kernel
theorem dc211_1010 : decode (pm_mb 211) 1010 = .ok (.iconst 0, 1) := by decide +kernel
theorem dc211_1011 : decode (pm_mb 211) 1011 = .ok (.ireturn, 1) := by decide +kernel
theorem dc211_1012 : decode (pm_mb 211) 1012 = .ok (.aload_n 1, 1) := by decide +kernel
theorem dc211_1013 : decode (pm_mb 211) 1013 = .ok (.aload_n 0, 1) := by decide +kernel
theorem dc211_1014 : decode (pm_mb 211) 1014 = .ok (.iload_n 3, 1) := by decide +kernel
theorem dc211_1015 : decode (pm_mb 211) 1015 = .ok (.iconst 1, 1) := by decide +kernel
theorem dc211_1016 : decode (pm_mb 211) 1016 = .ok (.iadd, 1) := by decide +kernel
theorem dc211_1017 : decode (pm_mb 211) 1017 = .ok (.iaload, 1) := by decide +kernel
theorem dc211_1018 : decode (pm_mb 211) 1018 = .ok (.invokevirtual 126, 3) := by decide +kernel
theorem dc211_1021 : decode (pm_mb 211) 1021 = .ok (.aload_n 2, 1) := by decide +kernel
theorem dc211_1022 : decode (pm_mb 211) 1022 = .ok (.aload_n 0, 1) := by decide +kernel
theorem dc211_1023 : decode (pm_mb 211) 1023 = .ok (.iload_n 3, 1) := by decide +kernel
theorem dc211_1024 : decode (pm_mb 211) 1024 = .ok (.iconst 1, 1) := by decide +kernel
theorem dc211_1025 : decode (pm_mb 211) 1025 = .ok (.iadd, 1) := by decide +kernel
theorem dc211_1026 : decode (pm_mb 211) 1026 = .ok (.iaload, 1) := by decide +kernel
theorem dc211_1027 : decode (pm_mb 211) 1027 = .ok (.invokevirtual 129, 3) := by decide +kernel
theorem dc211_1030 : decode (pm_mb 211) 1030 = .ok (.if_icmp .eq 41, 3) := by decide +kernel
theorem dc211_1033 : decode (pm_mb 211) 1033 = .ok (.iconst 0, 1) := by decide +kernel
theorem dc211_1034 : decode (pm_mb 211) 1034 = .ok (.ireturn, 1) := by decide +kernel
theorem dc211_1035 : decode (pm_mb 211) 1035 = .ok (.aload_n 1, 1) := by decide +kernel
theorem dc211_1036 : decode (pm_mb 211) 1036 = .ok (.aload_n 0, 1) := by decide +kernel
theorem dc211_1037 : decode (pm_mb 211) 1037 = .ok (.iload_n 3, 1) := by decide +kernel
theorem dc211_1038 : decode (pm_mb 211) 1038 = .ok (.iconst 1, 1) := by decide +kernel
theorem dc211_1039 : decode (pm_mb 211) 1039 = .ok (.iadd, 1) := by decide +kernel
theorem dc211_1040 : decode (pm_mb 211) 1040 = .ok (.iaload, 1) := by decide +kernel
theorem dc211_1041 : decode (pm_mb 211) 1041 = .ok (.invokevirtual 130, 3) := by decide +kernel
theorem dc211_1044 : decode (pm_mb 211) 1044 = .ok (.aload_n 2, 1) := by decide +kernel
theorem dc211_1045 : decode (pm_mb 211) 1045 = .ok (.aload_n 0, 1) := by decide +kernel
theorem dc211_1046 : decode (pm_mb 211) 1046 = .ok (.iload_n 3, 1) := by decide +kernel
theorem dc211_1047 : decode (pm_mb 211) 1047 = .ok (.iconst 1, 1) := by decide +kernel
theorem dc211_1048 : decode (pm_mb 211) 1048 = .ok (.iadd, 1) := by decide +kernel
theorem dc211_1049 : decode (pm_mb 211) 1049 = .ok (.iaload, 1) := by decide +kernel
theorem dc211_1050 : decode (pm_mb 211) 1050 = .ok (.invokevirtual 133, 3) := by decide +kernel
theorem dc211_1053 : decode (pm_mb 211) 1053 = .ok (.if_icmp .eq 18, 3) := by decide +kernel
theorem dc211_1056 : decode (pm_mb 211) 1056 = .ok (.iconst 0, 1) := by decide +kernel
theorem dc211_1057 : decode (pm_mb 211) 1057 = .ok (.ireturn, 1) := by decide +kernel
theorem dc211_1058 : decode (pm_mb 211) 1058 = .ok (.aload_n 1, 1) := by decide +kernel
theorem dc211_1059 : decode (pm_mb 211) 1059 = .ok (.invokevirtual 134, 3) := by decide +kernel
theorem dc211_1062 : decode (pm_mb 211) 1062 = .ok (.aload_n 2, 1) := by decide +kernel
theorem dc211_1063 : decode (pm_mb 211) 1063 = .ok (.invokevirtual 137, 3) := by decide +kernel
theorem dc211_1066 : decode (pm_mb 211) 1066 = .ok (.if_icmp .eq 5, 3) := by decide +kernel
theorem dc211_1069 : decode (pm_mb 211) 1069 = .ok (.iconst 0, 1) := by decide +kernel
theorem dc211_1070 : decode (pm_mb 211) 1070 = .ok (.ireturn, 1) := by decide +kernel
theorem dc211_1071 : decode (pm_mb 211) 1071 = .ok (.iinc 3 6, 3) := by decide +kernel
theorem dc211_1074 : decode (pm_mb 211) 1074 = .ok (.goto (-1056), 3) := by decide +kernel
theorem dc211_1077 : decode (pm_mb 211) 1077 = .ok (.iconst 1, 1) := by decide +kernel
theorem dc211_1078 : decode (pm_mb 211) 1078 = .ok (.ireturn, 1) := by decide +kernel
theorem b211_18 {X : pm_X} {d : Nat} {x3 : Int32} {g : pm_G} {iv : pm_V} (hg : pm_xg g) (hX : X.1 < 2147483648) : pm_at X d 211 (18, [some (.ref 1300), some (.ref 0), some (.ref 32), some (.int x3)], [], g, iv) = if ((Int32.ofNat X.1) - 6) < x3 then pm_at X d 211 (1077, [some (.ref 1300), some (.ref 0), some (.ref 32), some (.int x3)], [], g, iv) else pm_at X d 211 (27, [some (.ref 1300), some (.ref 0), some (.ref 32), some (.int x3)], [], g, iv) := by
  refine (at_iload_n dc211_18 rfl).trans ?_
  refine (at_aload_n dc211_19 rfl).trans ?_
  refine (at_aln dc211_20 (pm_xS hg) hX).trans ?_
  refine (at_bipush (v := 6) dc211_21 (by decide)).trans ?_
  refine (at_isub dc211_23).trans ?_
  exact at_icmp_gt (t := 1077) dc211_24 (by decide)
theorem b211_27_c0 {X : pm_X} {d : Nat} {x3 : Int32} {g : pm_G} {iv : pm_V} (hg : pm_xg g) (hX : X.1 < 2147483648) (i1 : vp_in x3 X.1) (hx : ((X.2 (x3).toNatClampNeg) &&& 31) = 0) : pm_at X d 211 (27, [some (.ref 1300), some (.ref 0), some (.ref 32), some (.int x3)], [], g, iv) = pm_at X d 211 (164, [some (.ref 1300), some (.ref 0), some (.ref 32), some (.int x3)], [], g, iv) := by
  refine (at_aload_n dc211_27 rfl).trans ?_
  refine (at_iload_n dc211_28 rfl).trans ?_
  refine (at_xald dc211_29 (pm_xS hg) i1).trans ?_
  refine (at_bipush (v := 31) dc211_30 (by decide)).trans ?_
  refine (at_iand dc211_32).trans ?_
  rw [hx]
  exact at_tswI (t := 164) dc211_33 (by decide) rfl (by decide)
theorem b211_27_c1 {X : pm_X} {d : Nat} {x3 : Int32} {g : pm_G} {iv : pm_V} (hg : pm_xg g) (hX : X.1 < 2147483648) (i1 : vp_in x3 X.1) (hx : ((X.2 (x3).toNatClampNeg) &&& 31) = 1) : pm_at X d 211 (27, [some (.ref 1300), some (.ref 0), some (.ref 32), some (.int x3)], [], g, iv) = pm_at X d 211 (207, [some (.ref 1300), some (.ref 0), some (.ref 32), some (.int x3)], [], g, iv) := by
  refine (at_aload_n dc211_27 rfl).trans ?_
  refine (at_iload_n dc211_28 rfl).trans ?_
  refine (at_xald dc211_29 (pm_xS hg) i1).trans ?_
  refine (at_bipush (v := 31) dc211_30 (by decide)).trans ?_
  refine (at_iand dc211_32).trans ?_
  rw [hx]
  exact at_tswI (t := 207) dc211_33 (by decide) rfl (by decide)
theorem b211_27_c2 {X : pm_X} {d : Nat} {x3 : Int32} {g : pm_G} {iv : pm_V} (hg : pm_xg g) (hX : X.1 < 2147483648) (i1 : vp_in x3 X.1) (hx : ((X.2 (x3).toNatClampNeg) &&& 31) = 2) : pm_at X d 211 (27, [some (.ref 1300), some (.ref 0), some (.ref 32), some (.int x3)], [], g, iv) = pm_at X d 211 (250, [some (.ref 1300), some (.ref 0), some (.ref 32), some (.int x3)], [], g, iv) := by
  refine (at_aload_n dc211_27 rfl).trans ?_
  refine (at_iload_n dc211_28 rfl).trans ?_
  refine (at_xald dc211_29 (pm_xS hg) i1).trans ?_
  refine (at_bipush (v := 31) dc211_30 (by decide)).trans ?_
  refine (at_iand dc211_32).trans ?_
  rw [hx]
  exact at_tswI (t := 250) dc211_33 (by decide) rfl (by decide)
theorem b211_27_c3 {X : pm_X} {d : Nat} {x3 : Int32} {g : pm_G} {iv : pm_V} (hg : pm_xg g) (hX : X.1 < 2147483648) (i1 : vp_in x3 X.1) (hx : ((X.2 (x3).toNatClampNeg) &&& 31) = 3) : pm_at X d 211 (27, [some (.ref 1300), some (.ref 0), some (.ref 32), some (.int x3)], [], g, iv) = pm_at X d 211 (313, [some (.ref 1300), some (.ref 0), some (.ref 32), some (.int x3)], [], g, iv) := by
  refine (at_aload_n dc211_27 rfl).trans ?_
  refine (at_iload_n dc211_28 rfl).trans ?_
  refine (at_xald dc211_29 (pm_xS hg) i1).trans ?_
  refine (at_bipush (v := 31) dc211_30 (by decide)).trans ?_
  refine (at_iand dc211_32).trans ?_
  rw [hx]
  exact at_tswI (t := 313) dc211_33 (by decide) rfl (by decide)
theorem b211_27_c4 {X : pm_X} {d : Nat} {x3 : Int32} {g : pm_G} {iv : pm_V} (hg : pm_xg g) (hX : X.1 < 2147483648) (i1 : vp_in x3 X.1) (hx : ((X.2 (x3).toNatClampNeg) &&& 31) = 4) : pm_at X d 211 (27, [some (.ref 1300), some (.ref 0), some (.ref 32), some (.int x3)], [], g, iv) = pm_at X d 211 (336, [some (.ref 1300), some (.ref 0), some (.ref 32), some (.int x3)], [], g, iv) := by
  refine (at_aload_n dc211_27 rfl).trans ?_
  refine (at_iload_n dc211_28 rfl).trans ?_
  refine (at_xald dc211_29 (pm_xS hg) i1).trans ?_
  refine (at_bipush (v := 31) dc211_30 (by decide)).trans ?_
  refine (at_iand dc211_32).trans ?_
  rw [hx]
  exact at_tswI (t := 336) dc211_33 (by decide) rfl (by decide)
theorem b211_27_c5 {X : pm_X} {d : Nat} {x3 : Int32} {g : pm_G} {iv : pm_V} (hg : pm_xg g) (hX : X.1 < 2147483648) (i1 : vp_in x3 X.1) (hx : ((X.2 (x3).toNatClampNeg) &&& 31) = 5) : pm_at X d 211 (27, [some (.ref 1300), some (.ref 0), some (.ref 32), some (.int x3)], [], g, iv) = pm_at X d 211 (399, [some (.ref 1300), some (.ref 0), some (.ref 32), some (.int x3)], [], g, iv) := by
  refine (at_aload_n dc211_27 rfl).trans ?_
  refine (at_iload_n dc211_28 rfl).trans ?_
  refine (at_xald dc211_29 (pm_xS hg) i1).trans ?_
  refine (at_bipush (v := 31) dc211_30 (by decide)).trans ?_
  refine (at_iand dc211_32).trans ?_
  rw [hx]
  exact at_tswI (t := 399) dc211_33 (by decide) rfl (by decide)
theorem b211_27_c6 {X : pm_X} {d : Nat} {x3 : Int32} {g : pm_G} {iv : pm_V} (hg : pm_xg g) (hX : X.1 < 2147483648) (i1 : vp_in x3 X.1) (hx : ((X.2 (x3).toNatClampNeg) &&& 31) = 6) : pm_at X d 211 (27, [some (.ref 1300), some (.ref 0), some (.ref 32), some (.int x3)], [], g, iv) = pm_at X d 211 (412, [some (.ref 1300), some (.ref 0), some (.ref 32), some (.int x3)], [], g, iv) := by
  refine (at_aload_n dc211_27 rfl).trans ?_
  refine (at_iload_n dc211_28 rfl).trans ?_
  refine (at_xald dc211_29 (pm_xS hg) i1).trans ?_
  refine (at_bipush (v := 31) dc211_30 (by decide)).trans ?_
  refine (at_iand dc211_32).trans ?_
  rw [hx]
  exact at_tswI (t := 412) dc211_33 (by decide) rfl (by decide)
theorem b211_27_c7 {X : pm_X} {d : Nat} {x3 : Int32} {g : pm_G} {iv : pm_V} (hg : pm_xg g) (hX : X.1 < 2147483648) (i1 : vp_in x3 X.1) (hx : ((X.2 (x3).toNatClampNeg) &&& 31) = 7) : pm_at X d 211 (27, [some (.ref 1300), some (.ref 0), some (.ref 32), some (.int x3)], [], g, iv) = pm_at X d 211 (425, [some (.ref 1300), some (.ref 0), some (.ref 32), some (.int x3)], [], g, iv) := by
  refine (at_aload_n dc211_27 rfl).trans ?_
  refine (at_iload_n dc211_28 rfl).trans ?_
  refine (at_xald dc211_29 (pm_xS hg) i1).trans ?_
  refine (at_bipush (v := 31) dc211_30 (by decide)).trans ?_
  refine (at_iand dc211_32).trans ?_
  rw [hx]
  exact at_tswI (t := 425) dc211_33 (by decide) rfl (by decide)
theorem b211_27_c8 {X : pm_X} {d : Nat} {x3 : Int32} {g : pm_G} {iv : pm_V} (hg : pm_xg g) (hX : X.1 < 2147483648) (i1 : vp_in x3 X.1) (hx : ((X.2 (x3).toNatClampNeg) &&& 31) = 8) : pm_at X d 211 (27, [some (.ref 1300), some (.ref 0), some (.ref 32), some (.int x3)], [], g, iv) = pm_at X d 211 (438, [some (.ref 1300), some (.ref 0), some (.ref 32), some (.int x3)], [], g, iv) := by
  refine (at_aload_n dc211_27 rfl).trans ?_
  refine (at_iload_n dc211_28 rfl).trans ?_
  refine (at_xald dc211_29 (pm_xS hg) i1).trans ?_
  refine (at_bipush (v := 31) dc211_30 (by decide)).trans ?_
  refine (at_iand dc211_32).trans ?_
  rw [hx]
  exact at_tswI (t := 438) dc211_33 (by decide) rfl (by decide)
theorem b211_27_c9 {X : pm_X} {d : Nat} {x3 : Int32} {g : pm_G} {iv : pm_V} (hg : pm_xg g) (hX : X.1 < 2147483648) (i1 : vp_in x3 X.1) (hx : ((X.2 (x3).toNatClampNeg) &&& 31) = 9) : pm_at X d 211 (27, [some (.ref 1300), some (.ref 0), some (.ref 32), some (.int x3)], [], g, iv) = pm_at X d 211 (471, [some (.ref 1300), some (.ref 0), some (.ref 32), some (.int x3)], [], g, iv) := by
  refine (at_aload_n dc211_27 rfl).trans ?_
  refine (at_iload_n dc211_28 rfl).trans ?_
  refine (at_xald dc211_29 (pm_xS hg) i1).trans ?_
  refine (at_bipush (v := 31) dc211_30 (by decide)).trans ?_
  refine (at_iand dc211_32).trans ?_
  rw [hx]
  exact at_tswI (t := 471) dc211_33 (by decide) rfl (by decide)
theorem b211_27_c10 {X : pm_X} {d : Nat} {x3 : Int32} {g : pm_G} {iv : pm_V} (hg : pm_xg g) (hX : X.1 < 2147483648) (i1 : vp_in x3 X.1) (hx : ((X.2 (x3).toNatClampNeg) &&& 31) = 10) : pm_at X d 211 (27, [some (.ref 1300), some (.ref 0), some (.ref 32), some (.int x3)], [], g, iv) = pm_at X d 211 (504, [some (.ref 1300), some (.ref 0), some (.ref 32), some (.int x3)], [], g, iv) := by
  refine (at_aload_n dc211_27 rfl).trans ?_
  refine (at_iload_n dc211_28 rfl).trans ?_
  refine (at_xald dc211_29 (pm_xS hg) i1).trans ?_
  refine (at_bipush (v := 31) dc211_30 (by decide)).trans ?_
  refine (at_iand dc211_32).trans ?_
  rw [hx]
  exact at_tswI (t := 504) dc211_33 (by decide) rfl (by decide)
theorem b211_27_c11 {X : pm_X} {d : Nat} {x3 : Int32} {g : pm_G} {iv : pm_V} (hg : pm_xg g) (hX : X.1 < 2147483648) (i1 : vp_in x3 X.1) (hx : ((X.2 (x3).toNatClampNeg) &&& 31) = 11) : pm_at X d 211 (27, [some (.ref 1300), some (.ref 0), some (.ref 32), some (.int x3)], [], g, iv) = pm_at X d 211 (547, [some (.ref 1300), some (.ref 0), some (.ref 32), some (.int x3)], [], g, iv) := by
  refine (at_aload_n dc211_27 rfl).trans ?_
  refine (at_iload_n dc211_28 rfl).trans ?_
  refine (at_xald dc211_29 (pm_xS hg) i1).trans ?_
  refine (at_bipush (v := 31) dc211_30 (by decide)).trans ?_
  refine (at_iand dc211_32).trans ?_
  rw [hx]
  exact at_tswI (t := 547) dc211_33 (by decide) rfl (by decide)
theorem b211_27_c12 {X : pm_X} {d : Nat} {x3 : Int32} {g : pm_G} {iv : pm_V} (hg : pm_xg g) (hX : X.1 < 2147483648) (i1 : vp_in x3 X.1) (hx : ((X.2 (x3).toNatClampNeg) &&& 31) = 12) : pm_at X d 211 (27, [some (.ref 1300), some (.ref 0), some (.ref 32), some (.int x3)], [], g, iv) = pm_at X d 211 (560, [some (.ref 1300), some (.ref 0), some (.ref 32), some (.int x3)], [], g, iv) := by
  refine (at_aload_n dc211_27 rfl).trans ?_
  refine (at_iload_n dc211_28 rfl).trans ?_
  refine (at_xald dc211_29 (pm_xS hg) i1).trans ?_
  refine (at_bipush (v := 31) dc211_30 (by decide)).trans ?_
  refine (at_iand dc211_32).trans ?_
  rw [hx]
  exact at_tswI (t := 560) dc211_33 (by decide) rfl (by decide)
theorem b211_27_c13 {X : pm_X} {d : Nat} {x3 : Int32} {g : pm_G} {iv : pm_V} (hg : pm_xg g) (hX : X.1 < 2147483648) (i1 : vp_in x3 X.1) (hx : ((X.2 (x3).toNatClampNeg) &&& 31) = 13) : pm_at X d 211 (27, [some (.ref 1300), some (.ref 0), some (.ref 32), some (.int x3)], [], g, iv) = pm_at X d 211 (593, [some (.ref 1300), some (.ref 0), some (.ref 32), some (.int x3)], [], g, iv) := by
  refine (at_aload_n dc211_27 rfl).trans ?_
  refine (at_iload_n dc211_28 rfl).trans ?_
  refine (at_xald dc211_29 (pm_xS hg) i1).trans ?_
  refine (at_bipush (v := 31) dc211_30 (by decide)).trans ?_
  refine (at_iand dc211_32).trans ?_
  rw [hx]
  exact at_tswI (t := 593) dc211_33 (by decide) rfl (by decide)
theorem b211_27_c14 {X : pm_X} {d : Nat} {x3 : Int32} {g : pm_G} {iv : pm_V} (hg : pm_xg g) (hX : X.1 < 2147483648) (i1 : vp_in x3 X.1) (hx : ((X.2 (x3).toNatClampNeg) &&& 31) = 14) : pm_at X d 211 (27, [some (.ref 1300), some (.ref 0), some (.ref 32), some (.int x3)], [], g, iv) = pm_at X d 211 (626, [some (.ref 1300), some (.ref 0), some (.ref 32), some (.int x3)], [], g, iv) := by
  refine (at_aload_n dc211_27 rfl).trans ?_
  refine (at_iload_n dc211_28 rfl).trans ?_
  refine (at_xald dc211_29 (pm_xS hg) i1).trans ?_
  refine (at_bipush (v := 31) dc211_30 (by decide)).trans ?_
  refine (at_iand dc211_32).trans ?_
  rw [hx]
  exact at_tswI (t := 626) dc211_33 (by decide) rfl (by decide)
theorem b211_27_c15 {X : pm_X} {d : Nat} {x3 : Int32} {g : pm_G} {iv : pm_V} (hg : pm_xg g) (hX : X.1 < 2147483648) (i1 : vp_in x3 X.1) (hx : ((X.2 (x3).toNatClampNeg) &&& 31) = 15) : pm_at X d 211 (27, [some (.ref 1300), some (.ref 0), some (.ref 32), some (.int x3)], [], g, iv) = pm_at X d 211 (669, [some (.ref 1300), some (.ref 0), some (.ref 32), some (.int x3)], [], g, iv) := by
  refine (at_aload_n dc211_27 rfl).trans ?_
  refine (at_iload_n dc211_28 rfl).trans ?_
  refine (at_xald dc211_29 (pm_xS hg) i1).trans ?_
  refine (at_bipush (v := 31) dc211_30 (by decide)).trans ?_
  refine (at_iand dc211_32).trans ?_
  rw [hx]
  exact at_tswI (t := 669) dc211_33 (by decide) rfl (by decide)
theorem b211_27_c16 {X : pm_X} {d : Nat} {x3 : Int32} {g : pm_G} {iv : pm_V} (hg : pm_xg g) (hX : X.1 < 2147483648) (i1 : vp_in x3 X.1) (hx : ((X.2 (x3).toNatClampNeg) &&& 31) = 16) : pm_at X d 211 (27, [some (.ref 1300), some (.ref 0), some (.ref 32), some (.int x3)], [], g, iv) = pm_at X d 211 (692, [some (.ref 1300), some (.ref 0), some (.ref 32), some (.int x3)], [], g, iv) := by
  refine (at_aload_n dc211_27 rfl).trans ?_
  refine (at_iload_n dc211_28 rfl).trans ?_
  refine (at_xald dc211_29 (pm_xS hg) i1).trans ?_
  refine (at_bipush (v := 31) dc211_30 (by decide)).trans ?_
  refine (at_iand dc211_32).trans ?_
  rw [hx]
  exact at_tswI (t := 692) dc211_33 (by decide) rfl (by decide)
theorem b211_27_c17 {X : pm_X} {d : Nat} {x3 : Int32} {g : pm_G} {iv : pm_V} (hg : pm_xg g) (hX : X.1 < 2147483648) (i1 : vp_in x3 X.1) (hx : ((X.2 (x3).toNatClampNeg) &&& 31) = 17) : pm_at X d 211 (27, [some (.ref 1300), some (.ref 0), some (.ref 32), some (.int x3)], [], g, iv) = pm_at X d 211 (735, [some (.ref 1300), some (.ref 0), some (.ref 32), some (.int x3)], [], g, iv) := by
  refine (at_aload_n dc211_27 rfl).trans ?_
  refine (at_iload_n dc211_28 rfl).trans ?_
  refine (at_xald dc211_29 (pm_xS hg) i1).trans ?_
  refine (at_bipush (v := 31) dc211_30 (by decide)).trans ?_
  refine (at_iand dc211_32).trans ?_
  rw [hx]
  exact at_tswI (t := 735) dc211_33 (by decide) rfl (by decide)
theorem b211_27_c18 {X : pm_X} {d : Nat} {x3 : Int32} {g : pm_G} {iv : pm_V} (hg : pm_xg g) (hX : X.1 < 2147483648) (i1 : vp_in x3 X.1) (hx : ((X.2 (x3).toNatClampNeg) &&& 31) = 18) : pm_at X d 211 (27, [some (.ref 1300), some (.ref 0), some (.ref 32), some (.int x3)], [], g, iv) = pm_at X d 211 (788, [some (.ref 1300), some (.ref 0), some (.ref 32), some (.int x3)], [], g, iv) := by
  refine (at_aload_n dc211_27 rfl).trans ?_
  refine (at_iload_n dc211_28 rfl).trans ?_
  refine (at_xald dc211_29 (pm_xS hg) i1).trans ?_
  refine (at_bipush (v := 31) dc211_30 (by decide)).trans ?_
  refine (at_iand dc211_32).trans ?_
  rw [hx]
  exact at_tswI (t := 788) dc211_33 (by decide) rfl (by decide)
theorem b211_27_c19 {X : pm_X} {d : Nat} {x3 : Int32} {g : pm_G} {iv : pm_V} (hg : pm_xg g) (hX : X.1 < 2147483648) (i1 : vp_in x3 X.1) (hx : ((X.2 (x3).toNatClampNeg) &&& 31) = 19) : pm_at X d 211 (27, [some (.ref 1300), some (.ref 0), some (.ref 32), some (.int x3)], [], g, iv) = pm_at X d 211 (811, [some (.ref 1300), some (.ref 0), some (.ref 32), some (.int x3)], [], g, iv) := by
  refine (at_aload_n dc211_27 rfl).trans ?_
  refine (at_iload_n dc211_28 rfl).trans ?_
  refine (at_xald dc211_29 (pm_xS hg) i1).trans ?_
  refine (at_bipush (v := 31) dc211_30 (by decide)).trans ?_
  refine (at_iand dc211_32).trans ?_
  rw [hx]
  exact at_tswI (t := 811) dc211_33 (by decide) rfl (by decide)
theorem b211_27_c20 {X : pm_X} {d : Nat} {x3 : Int32} {g : pm_G} {iv : pm_V} (hg : pm_xg g) (hX : X.1 < 2147483648) (i1 : vp_in x3 X.1) (hx : ((X.2 (x3).toNatClampNeg) &&& 31) = 20) : pm_at X d 211 (27, [some (.ref 1300), some (.ref 0), some (.ref 32), some (.int x3)], [], g, iv) = pm_at X d 211 (854, [some (.ref 1300), some (.ref 0), some (.ref 32), some (.int x3)], [], g, iv) := by
  refine (at_aload_n dc211_27 rfl).trans ?_
  refine (at_iload_n dc211_28 rfl).trans ?_
  refine (at_xald dc211_29 (pm_xS hg) i1).trans ?_
  refine (at_bipush (v := 31) dc211_30 (by decide)).trans ?_
  refine (at_iand dc211_32).trans ?_
  rw [hx]
  exact at_tswI (t := 854) dc211_33 (by decide) rfl (by decide)
theorem b211_27_c21 {X : pm_X} {d : Nat} {x3 : Int32} {g : pm_G} {iv : pm_V} (hg : pm_xg g) (hX : X.1 < 2147483648) (i1 : vp_in x3 X.1) (hx : ((X.2 (x3).toNatClampNeg) &&& 31) = 21) : pm_at X d 211 (27, [some (.ref 1300), some (.ref 0), some (.ref 32), some (.int x3)], [], g, iv) = pm_at X d 211 (877, [some (.ref 1300), some (.ref 0), some (.ref 32), some (.int x3)], [], g, iv) := by
  refine (at_aload_n dc211_27 rfl).trans ?_
  refine (at_iload_n dc211_28 rfl).trans ?_
  refine (at_xald dc211_29 (pm_xS hg) i1).trans ?_
  refine (at_bipush (v := 31) dc211_30 (by decide)).trans ?_
  refine (at_iand dc211_32).trans ?_
  rw [hx]
  exact at_tswI (t := 877) dc211_33 (by decide) rfl (by decide)
theorem b211_27_c22 {X : pm_X} {d : Nat} {x3 : Int32} {g : pm_G} {iv : pm_V} (hg : pm_xg g) (hX : X.1 < 2147483648) (i1 : vp_in x3 X.1) (hx : ((X.2 (x3).toNatClampNeg) &&& 31) = 22) : pm_at X d 211 (27, [some (.ref 1300), some (.ref 0), some (.ref 32), some (.int x3)], [], g, iv) = pm_at X d 211 (900, [some (.ref 1300), some (.ref 0), some (.ref 32), some (.int x3)], [], g, iv) := by
  refine (at_aload_n dc211_27 rfl).trans ?_
  refine (at_iload_n dc211_28 rfl).trans ?_
  refine (at_xald dc211_29 (pm_xS hg) i1).trans ?_
  refine (at_bipush (v := 31) dc211_30 (by decide)).trans ?_
  refine (at_iand dc211_32).trans ?_
  rw [hx]
  exact at_tswI (t := 900) dc211_33 (by decide) rfl (by decide)
theorem b211_27_c23 {X : pm_X} {d : Nat} {x3 : Int32} {g : pm_G} {iv : pm_V} (hg : pm_xg g) (hX : X.1 < 2147483648) (i1 : vp_in x3 X.1) (hx : ((X.2 (x3).toNatClampNeg) &&& 31) = 23) : pm_at X d 211 (27, [some (.ref 1300), some (.ref 0), some (.ref 32), some (.int x3)], [], g, iv) = pm_at X d 211 (923, [some (.ref 1300), some (.ref 0), some (.ref 32), some (.int x3)], [], g, iv) := by
  refine (at_aload_n dc211_27 rfl).trans ?_
  refine (at_iload_n dc211_28 rfl).trans ?_
  refine (at_xald dc211_29 (pm_xS hg) i1).trans ?_
  refine (at_bipush (v := 31) dc211_30 (by decide)).trans ?_
  refine (at_iand dc211_32).trans ?_
  rw [hx]
  exact at_tswI (t := 923) dc211_33 (by decide) rfl (by decide)
theorem b211_27_c24 {X : pm_X} {d : Nat} {x3 : Int32} {g : pm_G} {iv : pm_V} (hg : pm_xg g) (hX : X.1 < 2147483648) (i1 : vp_in x3 X.1) (hx : ((X.2 (x3).toNatClampNeg) &&& 31) = 24) : pm_at X d 211 (27, [some (.ref 1300), some (.ref 0), some (.ref 32), some (.int x3)], [], g, iv) = pm_at X d 211 (946, [some (.ref 1300), some (.ref 0), some (.ref 32), some (.int x3)], [], g, iv) := by
  refine (at_aload_n dc211_27 rfl).trans ?_
  refine (at_iload_n dc211_28 rfl).trans ?_
  refine (at_xald dc211_29 (pm_xS hg) i1).trans ?_
  refine (at_bipush (v := 31) dc211_30 (by decide)).trans ?_
  refine (at_iand dc211_32).trans ?_
  rw [hx]
  exact at_tswI (t := 946) dc211_33 (by decide) rfl (by decide)
theorem b211_27_c25 {X : pm_X} {d : Nat} {x3 : Int32} {g : pm_G} {iv : pm_V} (hg : pm_xg g) (hX : X.1 < 2147483648) (i1 : vp_in x3 X.1) (hx : ((X.2 (x3).toNatClampNeg) &&& 31) = 25) : pm_at X d 211 (27, [some (.ref 1300), some (.ref 0), some (.ref 32), some (.int x3)], [], g, iv) = pm_at X d 211 (979, [some (.ref 1300), some (.ref 0), some (.ref 32), some (.int x3)], [], g, iv) := by
  refine (at_aload_n dc211_27 rfl).trans ?_
  refine (at_iload_n dc211_28 rfl).trans ?_
  refine (at_xald dc211_29 (pm_xS hg) i1).trans ?_
  refine (at_bipush (v := 31) dc211_30 (by decide)).trans ?_
  refine (at_iand dc211_32).trans ?_
  rw [hx]
  exact at_tswI (t := 979) dc211_33 (by decide) rfl (by decide)
theorem b211_27_c26 {X : pm_X} {d : Nat} {x3 : Int32} {g : pm_G} {iv : pm_V} (hg : pm_xg g) (hX : X.1 < 2147483648) (i1 : vp_in x3 X.1) (hx : ((X.2 (x3).toNatClampNeg) &&& 31) = 26) : pm_at X d 211 (27, [some (.ref 1300), some (.ref 0), some (.ref 32), some (.int x3)], [], g, iv) = pm_at X d 211 (1012, [some (.ref 1300), some (.ref 0), some (.ref 32), some (.int x3)], [], g, iv) := by
  refine (at_aload_n dc211_27 rfl).trans ?_
  refine (at_iload_n dc211_28 rfl).trans ?_
  refine (at_xald dc211_29 (pm_xS hg) i1).trans ?_
  refine (at_bipush (v := 31) dc211_30 (by decide)).trans ?_
  refine (at_iand dc211_32).trans ?_
  rw [hx]
  exact at_tswI (t := 1012) dc211_33 (by decide) rfl (by decide)
theorem b211_27_c27 {X : pm_X} {d : Nat} {x3 : Int32} {g : pm_G} {iv : pm_V} (hg : pm_xg g) (hX : X.1 < 2147483648) (i1 : vp_in x3 X.1) (hx : ((X.2 (x3).toNatClampNeg) &&& 31) = 27) : pm_at X d 211 (27, [some (.ref 1300), some (.ref 0), some (.ref 32), some (.int x3)], [], g, iv) = pm_at X d 211 (1035, [some (.ref 1300), some (.ref 0), some (.ref 32), some (.int x3)], [], g, iv) := by
  refine (at_aload_n dc211_27 rfl).trans ?_
  refine (at_iload_n dc211_28 rfl).trans ?_
  refine (at_xald dc211_29 (pm_xS hg) i1).trans ?_
  refine (at_bipush (v := 31) dc211_30 (by decide)).trans ?_
  refine (at_iand dc211_32).trans ?_
  rw [hx]
  exact at_tswI (t := 1035) dc211_33 (by decide) rfl (by decide)
theorem b211_27_c28 {X : pm_X} {d : Nat} {x3 : Int32} {g : pm_G} {iv : pm_V} (hg : pm_xg g) (hX : X.1 < 2147483648) (i1 : vp_in x3 X.1) (hx : ((X.2 (x3).toNatClampNeg) &&& 31) = 28) : pm_at X d 211 (27, [some (.ref 1300), some (.ref 0), some (.ref 32), some (.int x3)], [], g, iv) = pm_at X d 211 (1058, [some (.ref 1300), some (.ref 0), some (.ref 32), some (.int x3)], [], g, iv) := by
  refine (at_aload_n dc211_27 rfl).trans ?_
  refine (at_iload_n dc211_28 rfl).trans ?_
  refine (at_xald dc211_29 (pm_xS hg) i1).trans ?_
  refine (at_bipush (v := 31) dc211_30 (by decide)).trans ?_
  refine (at_iand dc211_32).trans ?_
  rw [hx]
  exact at_tswI (t := 1058) dc211_33 (by decide) rfl (by decide)
theorem b211_27_df {X : pm_X} {d : Nat} {x3 : Int32} {g : pm_G} {iv : pm_V} (hg : pm_xg g) (hX : X.1 < 2147483648) (i1 : vp_in x3 X.1) (hx : (((X.2 (x3).toNatClampNeg) &&& 31)).toInt < 0 ∨ 28 < (((X.2 (x3).toNatClampNeg) &&& 31)).toInt) : pm_at X d 211 (27, [some (.ref 1300), some (.ref 0), some (.ref 32), some (.int x3)], [], g, iv) = pm_at X d 211 (1071, [some (.ref 1300), some (.ref 0), some (.ref 32), some (.int x3)], [], g, iv) := by
  refine (at_aload_n dc211_27 rfl).trans ?_
  refine (at_iload_n dc211_28 rfl).trans ?_
  refine (at_xald dc211_29 (pm_xS hg) i1).trans ?_
  refine (at_bipush (v := 31) dc211_30 (by decide)).trans ?_
  refine (at_iand dc211_32).trans ?_
  exact at_tswO (t := 1071) dc211_33 hx (by decide)
theorem b211_164 {X : pm_X} {d : Nat} {x3 : Int32} {g : pm_G} {iv : pm_V} (hL : pm_lay g) (hg : pm_xg g) (hX : X.1 < 2147483648) (i1 : vp_in ((x3 + 1)) X.1) (i2 : vp_in ((x3 + 2)) X.1) (i3 : vp_in ((x3 + 3)) X.1) : pm_at X d 211 (164, [some (.ref 1300), some (.ref 0), some (.ref 32), some (.int x3)], [], g, iv) = pm_then X d 211 183 [some (.ref 1300), some (.ref 0), some (.ref 32), some (.int x3)] [] (pm_c X d 90 [.ref 0, .int (X.2 ((x3 + 1)).toNatClampNeg), .int (X.2 ((x3 + 2)).toNatClampNeg), .int (X.2 ((x3 + 3)).toNatClampNeg)] g iv) := by
  refine (at_aload_n dc211_164 rfl).trans ?_
  refine (at_aload_n dc211_165 rfl).trans ?_
  refine (at_iload_n dc211_166 rfl).trans ?_
  refine (at_iconst (v := 1) dc211_167 rfl).trans ?_
  refine (at_iadd dc211_168).trans ?_
  refine (at_xald dc211_169 (pm_xS hg) i1).trans ?_
  refine (at_aload_n dc211_170 rfl).trans ?_
  refine (at_iload_n dc211_171 rfl).trans ?_
  refine (at_iconst (v := 2) dc211_172 rfl).trans ?_
  refine (at_iadd dc211_173).trans ?_
  refine (at_xald dc211_174 (pm_xS hg) i2).trans ?_
  refine (at_aload_n dc211_175 rfl).trans ?_
  refine (at_iload_n dc211_176 rfl).trans ?_
  refine (at_iconst (v := 3) dc211_177 rfl).trans ?_
  refine (at_iadd dc211_178).trans ?_
  refine (at_xald dc211_179 (pm_xS hg) i3).trans ?_
  exact at_inv dc211_180 mc211 lm7_13 rfl rfl (Nat.le_of_ble_eq_true rfl) (Or.inl ⟨(ly0 hL), by decide⟩)
theorem b211_183 {X : pm_X} {d : Nat} {x3 : Int32} {s0 : Int32} {g : pm_G} {iv : pm_V} (hL : pm_lay g) (hg : pm_xg g) (hX : X.1 < 2147483648) (i1 : vp_in ((x3 + 1)) X.1) (i2 : vp_in ((x3 + 2)) X.1) (i3 : vp_in ((x3 + 3)) X.1) : pm_at X d 211 (183, [some (.ref 1300), some (.ref 0), some (.ref 32), some (.int x3)], [.int s0], g, iv) = pm_then X d 211 202 [some (.ref 1300), some (.ref 0), some (.ref 32), some (.int x3)] [.int s0] (pm_c X d 132 [.ref 32, .int (X.2 ((x3 + 1)).toNatClampNeg), .int (X.2 ((x3 + 2)).toNatClampNeg), .int (X.2 ((x3 + 3)).toNatClampNeg)] g iv) := by
  refine (at_aload_n dc211_183 rfl).trans ?_
  refine (at_aload_n dc211_184 rfl).trans ?_
  refine (at_iload_n dc211_185 rfl).trans ?_
  refine (at_iconst (v := 1) dc211_186 rfl).trans ?_
  refine (at_iadd dc211_187).trans ?_
  refine (at_xald dc211_188 (pm_xS hg) i1).trans ?_
  refine (at_aload_n dc211_189 rfl).trans ?_
  refine (at_iload_n dc211_190 rfl).trans ?_
  refine (at_iconst (v := 2) dc211_191 rfl).trans ?_
  refine (at_iadd dc211_192).trans ?_
  refine (at_xald dc211_193 (pm_xS hg) i2).trans ?_
  refine (at_aload_n dc211_194 rfl).trans ?_
  refine (at_iload_n dc211_195 rfl).trans ?_
  refine (at_iconst (v := 3) dc211_196 rfl).trans ?_
  refine (at_iadd dc211_197).trans ?_
  refine (at_xald dc211_198 (pm_xS hg) i3).trans ?_
  exact at_inv dc211_199 mc211 lm7_17 rfl rfl (Nat.le_of_ble_eq_true rfl) (Or.inl ⟨(ly32 hL), by decide⟩)
theorem b211_202 {X : pm_X} {d : Nat} {x3 : Int32} {s0 : Int32} {s1 : Int32} {g : pm_G} {iv : pm_V}  : pm_at X d 211 (202, [some (.ref 1300), some (.ref 0), some (.ref 32), some (.int x3)], [.int s0, .int s1], g, iv) = if s1 = s0 then pm_at X d 211 (1071, [some (.ref 1300), some (.ref 0), some (.ref 32), some (.int x3)], [], g, iv) else pm_at X d 211 (205, [some (.ref 1300), some (.ref 0), some (.ref 32), some (.int x3)], [], g, iv) := by
  exact at_icmp_eq (t := 1071) dc211_202 (by decide)
theorem b211_205 {X : pm_X} {d : Nat} {x3 : Int32} {g : pm_G} {iv : pm_V}  : pm_at X d 211 (205, [some (.ref 1300), some (.ref 0), some (.ref 32), some (.int x3)], [], g, iv) = some (some (.int 0), g, iv) := by
  refine (at_iconst (v := 0) dc211_205 rfl).trans ?_
  exact at_zret dc211_206 mr211 (by decide)
theorem b211_207 {X : pm_X} {d : Nat} {x3 : Int32} {g : pm_G} {iv : pm_V} (hL : pm_lay g) (hg : pm_xg g) (hX : X.1 < 2147483648) (i1 : vp_in ((x3 + 1)) X.1) (i2 : vp_in ((x3 + 2)) X.1) (i3 : vp_in ((x3 + 3)) X.1) : pm_at X d 211 (207, [some (.ref 1300), some (.ref 0), some (.ref 32), some (.int x3)], [], g, iv) = pm_then X d 211 226 [some (.ref 1300), some (.ref 0), some (.ref 32), some (.int x3)] [] (pm_c X d 91 [.ref 0, .int (X.2 ((x3 + 1)).toNatClampNeg), .int (X.2 ((x3 + 2)).toNatClampNeg), .int (X.2 ((x3 + 3)).toNatClampNeg)] g iv) := by
  refine (at_aload_n dc211_207 rfl).trans ?_
  refine (at_aload_n dc211_208 rfl).trans ?_
  refine (at_iload_n dc211_209 rfl).trans ?_
  refine (at_iconst (v := 1) dc211_210 rfl).trans ?_
  refine (at_iadd dc211_211).trans ?_
  refine (at_xald dc211_212 (pm_xS hg) i1).trans ?_
  refine (at_aload_n dc211_213 rfl).trans ?_
  refine (at_iload_n dc211_214 rfl).trans ?_
  refine (at_iconst (v := 2) dc211_215 rfl).trans ?_
  refine (at_iadd dc211_216).trans ?_
  refine (at_xald dc211_217 (pm_xS hg) i2).trans ?_
  refine (at_aload_n dc211_218 rfl).trans ?_
  refine (at_iload_n dc211_219 rfl).trans ?_
  refine (at_iconst (v := 3) dc211_220 rfl).trans ?_
  refine (at_iadd dc211_221).trans ?_
  refine (at_xald dc211_222 (pm_xS hg) i3).trans ?_
  exact at_inv dc211_223 mc211 lm7_18 rfl rfl (Nat.le_of_ble_eq_true rfl) (Or.inl ⟨(ly0 hL), by decide⟩)
theorem b211_226 {X : pm_X} {d : Nat} {x3 : Int32} {s0 : Int32} {g : pm_G} {iv : pm_V} (hL : pm_lay g) (hg : pm_xg g) (hX : X.1 < 2147483648) (i1 : vp_in ((x3 + 1)) X.1) (i2 : vp_in ((x3 + 2)) X.1) (i3 : vp_in ((x3 + 3)) X.1) : pm_at X d 211 (226, [some (.ref 1300), some (.ref 0), some (.ref 32), some (.int x3)], [.int s0], g, iv) = pm_then X d 211 245 [some (.ref 1300), some (.ref 0), some (.ref 32), some (.int x3)] [.int s0] (pm_c X d 133 [.ref 32, .int (X.2 ((x3 + 1)).toNatClampNeg), .int (X.2 ((x3 + 2)).toNatClampNeg), .int (X.2 ((x3 + 3)).toNatClampNeg)] g iv) := by
  refine (at_aload_n dc211_226 rfl).trans ?_
  refine (at_aload_n dc211_227 rfl).trans ?_
  refine (at_iload_n dc211_228 rfl).trans ?_
  refine (at_iconst (v := 1) dc211_229 rfl).trans ?_
  refine (at_iadd dc211_230).trans ?_
  refine (at_xald dc211_231 (pm_xS hg) i1).trans ?_
  refine (at_aload_n dc211_232 rfl).trans ?_
  refine (at_iload_n dc211_233 rfl).trans ?_
  refine (at_iconst (v := 2) dc211_234 rfl).trans ?_
  refine (at_iadd dc211_235).trans ?_
  refine (at_xald dc211_236 (pm_xS hg) i2).trans ?_
  refine (at_aload_n dc211_237 rfl).trans ?_
  refine (at_iload_n dc211_238 rfl).trans ?_
  refine (at_iconst (v := 3) dc211_239 rfl).trans ?_
  refine (at_iadd dc211_240).trans ?_
  refine (at_xald dc211_241 (pm_xS hg) i3).trans ?_
  exact at_inv dc211_242 mc211 lm7_21 rfl rfl (Nat.le_of_ble_eq_true rfl) (Or.inl ⟨(ly32 hL), by decide⟩)
theorem b211_245 {X : pm_X} {d : Nat} {x3 : Int32} {s0 : Int32} {s1 : Int32} {g : pm_G} {iv : pm_V}  : pm_at X d 211 (245, [some (.ref 1300), some (.ref 0), some (.ref 32), some (.int x3)], [.int s0, .int s1], g, iv) = if s1 = s0 then pm_at X d 211 (1071, [some (.ref 1300), some (.ref 0), some (.ref 32), some (.int x3)], [], g, iv) else pm_at X d 211 (248, [some (.ref 1300), some (.ref 0), some (.ref 32), some (.int x3)], [], g, iv) := by
  exact at_icmp_eq (t := 1071) dc211_245 (by decide)
theorem b211_248 {X : pm_X} {d : Nat} {x3 : Int32} {g : pm_G} {iv : pm_V}  : pm_at X d 211 (248, [some (.ref 1300), some (.ref 0), some (.ref 32), some (.int x3)], [], g, iv) = some (some (.int 0), g, iv) := by
  refine (at_iconst (v := 0) dc211_248 rfl).trans ?_
  exact at_zret dc211_249 mr211 (by decide)
theorem b211_250 {X : pm_X} {d : Nat} {x3 : Int32} {g : pm_G} {iv : pm_V} (hL : pm_lay g) (hg : pm_xg g) (hX : X.1 < 2147483648) (i1 : vp_in ((x3 + 1)) X.1) (i2 : vp_in ((x3 + 2)) X.1) (i3 : vp_in ((x3 + 3)) X.1) (i4 : vp_in ((x3 + 4)) X.1) (i5 : vp_in ((x3 + 5)) X.1) : pm_at X d 211 (250, [some (.ref 1300), some (.ref 0), some (.ref 32), some (.int x3)], [], g, iv) = pm_then X d 211 279 [some (.ref 1300), some (.ref 0), some (.ref 32), some (.int x3)] [] (pm_c X d 92 [.ref 0, .int (X.2 ((x3 + 1)).toNatClampNeg), .int (X.2 ((x3 + 2)).toNatClampNeg), .int (X.2 ((x3 + 3)).toNatClampNeg), .int (X.2 ((x3 + 4)).toNatClampNeg), .int (X.2 ((x3 + 5)).toNatClampNeg)] g iv) := by
  refine (at_aload_n dc211_250 rfl).trans ?_
  refine (at_aload_n dc211_251 rfl).trans ?_
  refine (at_iload_n dc211_252 rfl).trans ?_
  refine (at_iconst (v := 1) dc211_253 rfl).trans ?_
  refine (at_iadd dc211_254).trans ?_
  refine (at_xald dc211_255 (pm_xS hg) i1).trans ?_
  refine (at_aload_n dc211_256 rfl).trans ?_
  refine (at_iload_n dc211_257 rfl).trans ?_
  refine (at_iconst (v := 2) dc211_258 rfl).trans ?_
  refine (at_iadd dc211_259).trans ?_
  refine (at_xald dc211_260 (pm_xS hg) i2).trans ?_
  refine (at_aload_n dc211_261 rfl).trans ?_
  refine (at_iload_n dc211_262 rfl).trans ?_
  refine (at_iconst (v := 3) dc211_263 rfl).trans ?_
  refine (at_iadd dc211_264).trans ?_
  refine (at_xald dc211_265 (pm_xS hg) i3).trans ?_
  refine (at_aload_n dc211_266 rfl).trans ?_
  refine (at_iload_n dc211_267 rfl).trans ?_
  refine (at_iconst (v := 4) dc211_268 rfl).trans ?_
  refine (at_iadd dc211_269).trans ?_
  refine (at_xald dc211_270 (pm_xS hg) i4).trans ?_
  refine (at_aload_n dc211_271 rfl).trans ?_
  refine (at_iload_n dc211_272 rfl).trans ?_
  refine (at_iconst (v := 5) dc211_273 rfl).trans ?_
  refine (at_iadd dc211_274).trans ?_
  refine (at_xald dc211_275 (pm_xS hg) i5).trans ?_
  exact at_inv dc211_276 mc211 lm7_22 rfl rfl (Nat.le_of_ble_eq_true rfl) (Or.inl ⟨(ly0 hL), by decide⟩)
theorem b211_279 {X : pm_X} {d : Nat} {x3 : Int32} {s0 : Int32} {g : pm_G} {iv : pm_V} (hL : pm_lay g) (hg : pm_xg g) (hX : X.1 < 2147483648) (i1 : vp_in ((x3 + 1)) X.1) (i2 : vp_in ((x3 + 2)) X.1) (i3 : vp_in ((x3 + 3)) X.1) (i4 : vp_in ((x3 + 4)) X.1) (i5 : vp_in ((x3 + 5)) X.1) : pm_at X d 211 (279, [some (.ref 1300), some (.ref 0), some (.ref 32), some (.int x3)], [.int s0], g, iv) = pm_then X d 211 308 [some (.ref 1300), some (.ref 0), some (.ref 32), some (.int x3)] [.int s0] (pm_c X d 134 [.ref 32, .int (X.2 ((x3 + 1)).toNatClampNeg), .int (X.2 ((x3 + 2)).toNatClampNeg), .int (X.2 ((x3 + 3)).toNatClampNeg), .int (X.2 ((x3 + 4)).toNatClampNeg), .int (X.2 ((x3 + 5)).toNatClampNeg)] g iv) := by
  refine (at_aload_n dc211_279 rfl).trans ?_
  refine (at_aload_n dc211_280 rfl).trans ?_
  refine (at_iload_n dc211_281 rfl).trans ?_
  refine (at_iconst (v := 1) dc211_282 rfl).trans ?_
  refine (at_iadd dc211_283).trans ?_
  refine (at_xald dc211_284 (pm_xS hg) i1).trans ?_
  refine (at_aload_n dc211_285 rfl).trans ?_
  refine (at_iload_n dc211_286 rfl).trans ?_
  refine (at_iconst (v := 2) dc211_287 rfl).trans ?_
  refine (at_iadd dc211_288).trans ?_
  refine (at_xald dc211_289 (pm_xS hg) i2).trans ?_
  refine (at_aload_n dc211_290 rfl).trans ?_
  refine (at_iload_n dc211_291 rfl).trans ?_
  refine (at_iconst (v := 3) dc211_292 rfl).trans ?_
  refine (at_iadd dc211_293).trans ?_
  refine (at_xald dc211_294 (pm_xS hg) i3).trans ?_
  refine (at_aload_n dc211_295 rfl).trans ?_
  refine (at_iload_n dc211_296 rfl).trans ?_
  refine (at_iconst (v := 4) dc211_297 rfl).trans ?_
  refine (at_iadd dc211_298).trans ?_
  refine (at_xald dc211_299 (pm_xS hg) i4).trans ?_
  refine (at_aload_n dc211_300 rfl).trans ?_
  refine (at_iload_n dc211_301 rfl).trans ?_
  refine (at_iconst (v := 5) dc211_302 rfl).trans ?_
  refine (at_iadd dc211_303).trans ?_
  refine (at_xald dc211_304 (pm_xS hg) i5).trans ?_
  exact at_inv dc211_305 mc211 lm7_26 rfl rfl (Nat.le_of_ble_eq_true rfl) (Or.inl ⟨(ly32 hL), by decide⟩)
theorem b211_308 {X : pm_X} {d : Nat} {x3 : Int32} {s0 : Int32} {s1 : Int32} {g : pm_G} {iv : pm_V}  : pm_at X d 211 (308, [some (.ref 1300), some (.ref 0), some (.ref 32), some (.int x3)], [.int s0, .int s1], g, iv) = if s1 = s0 then pm_at X d 211 (1071, [some (.ref 1300), some (.ref 0), some (.ref 32), some (.int x3)], [], g, iv) else pm_at X d 211 (311, [some (.ref 1300), some (.ref 0), some (.ref 32), some (.int x3)], [], g, iv) := by
  exact at_icmp_eq (t := 1071) dc211_308 (by decide)
theorem b211_311 {X : pm_X} {d : Nat} {x3 : Int32} {g : pm_G} {iv : pm_V}  : pm_at X d 211 (311, [some (.ref 1300), some (.ref 0), some (.ref 32), some (.int x3)], [], g, iv) = some (some (.int 0), g, iv) := by
  refine (at_iconst (v := 0) dc211_311 rfl).trans ?_
  exact at_zret dc211_312 mr211 (by decide)
theorem b211_313 {X : pm_X} {d : Nat} {x3 : Int32} {g : pm_G} {iv : pm_V} (hL : pm_lay g) (hg : pm_xg g) (hX : X.1 < 2147483648) (i1 : vp_in ((x3 + 1)) X.1) : pm_at X d 211 (313, [some (.ref 1300), some (.ref 0), some (.ref 32), some (.int x3)], [], g, iv) = pm_then X d 211 322 [some (.ref 1300), some (.ref 0), some (.ref 32), some (.int x3)] [] (pm_c X d 93 [.ref 0, .int (X.2 ((x3 + 1)).toNatClampNeg)] g iv) := by
  refine (at_aload_n dc211_313 rfl).trans ?_
  refine (at_aload_n dc211_314 rfl).trans ?_
  refine (at_iload_n dc211_315 rfl).trans ?_
  refine (at_iconst (v := 1) dc211_316 rfl).trans ?_
  refine (at_iadd dc211_317).trans ?_
  refine (at_xald dc211_318 (pm_xS hg) i1).trans ?_
  exact at_inv dc211_319 mc211 lm7_27 rfl rfl (Nat.le_of_ble_eq_true rfl) (Or.inl ⟨(ly0 hL), by decide⟩)
theorem b211_322 {X : pm_X} {d : Nat} {x3 : Int32} {s0 : Int32} {g : pm_G} {iv : pm_V} (hL : pm_lay g) (hg : pm_xg g) (hX : X.1 < 2147483648) (i1 : vp_in ((x3 + 1)) X.1) : pm_at X d 211 (322, [some (.ref 1300), some (.ref 0), some (.ref 32), some (.int x3)], [.int s0], g, iv) = pm_then X d 211 331 [some (.ref 1300), some (.ref 0), some (.ref 32), some (.int x3)] [.int s0] (pm_c X d 135 [.ref 32, .int (X.2 ((x3 + 1)).toNatClampNeg)] g iv) := by
  refine (at_aload_n dc211_322 rfl).trans ?_
  refine (at_aload_n dc211_323 rfl).trans ?_
  refine (at_iload_n dc211_324 rfl).trans ?_
  refine (at_iconst (v := 1) dc211_325 rfl).trans ?_
  refine (at_iadd dc211_326).trans ?_
  refine (at_xald dc211_327 (pm_xS hg) i1).trans ?_
  exact at_inv dc211_328 mc211 lm7_31 rfl rfl (Nat.le_of_ble_eq_true rfl) (Or.inl ⟨(ly32 hL), by decide⟩)
theorem b211_331 {X : pm_X} {d : Nat} {x3 : Int32} {s0 : Int32} {s1 : Int32} {g : pm_G} {iv : pm_V}  : pm_at X d 211 (331, [some (.ref 1300), some (.ref 0), some (.ref 32), some (.int x3)], [.int s0, .int s1], g, iv) = if s1 = s0 then pm_at X d 211 (1071, [some (.ref 1300), some (.ref 0), some (.ref 32), some (.int x3)], [], g, iv) else pm_at X d 211 (334, [some (.ref 1300), some (.ref 0), some (.ref 32), some (.int x3)], [], g, iv) := by
  exact at_icmp_eq (t := 1071) dc211_331 (by decide)
theorem b211_334 {X : pm_X} {d : Nat} {x3 : Int32} {g : pm_G} {iv : pm_V}  : pm_at X d 211 (334, [some (.ref 1300), some (.ref 0), some (.ref 32), some (.int x3)], [], g, iv) = some (some (.int 0), g, iv) := by
  refine (at_iconst (v := 0) dc211_334 rfl).trans ?_
  exact at_zret dc211_335 mr211 (by decide)
theorem b211_336 {X : pm_X} {d : Nat} {x3 : Int32} {g : pm_G} {iv : pm_V} (hL : pm_lay g) (hg : pm_xg g) (hX : X.1 < 2147483648) (i1 : vp_in ((x3 + 1)) X.1) (i2 : vp_in ((x3 + 2)) X.1) (i3 : vp_in ((x3 + 3)) X.1) : pm_at X d 211 (336, [some (.ref 1300), some (.ref 0), some (.ref 32), some (.int x3)], [], g, iv) = pm_then X d 211 365 [some (.ref 1300), some (.ref 0), some (.ref 32), some (.int x3)] [] (pm_c X d 94 [.ref 0, .long ((((X.2 ((x3 + 1)).toNatClampNeg) : Int32).toInt64 <<< ((32 : Int32).toInt64 &&& 63)) ||| (((X.2 ((x3 + 2)).toNatClampNeg) : Int32).toInt64 &&& 4294967295)), .int (X.2 ((x3 + 3)).toNatClampNeg)] g iv) := by
  refine (at_aload_n dc211_336 rfl).trans ?_
  refine (at_aload_n dc211_337 rfl).trans ?_
  refine (at_iload_n dc211_338 rfl).trans ?_
  refine (at_iconst (v := 1) dc211_339 rfl).trans ?_
  refine (at_iadd dc211_340).trans ?_
  refine (at_xald dc211_341 (pm_xS hg) i1).trans ?_
  refine (at_i2l dc211_342).trans ?_
  refine (at_bipush (v := 32) dc211_343 (by decide)).trans ?_
  refine (at_lshl dc211_345).trans ?_
  refine (at_aload_n dc211_346 rfl).trans ?_
  refine (at_iload_n dc211_347 rfl).trans ?_
  refine (at_iconst (v := 2) dc211_348 rfl).trans ?_
  refine (at_iadd dc211_349).trans ?_
  refine (at_xald dc211_350 (pm_xS hg) i2).trans ?_
  refine (at_i2l dc211_351).trans ?_
  refine (at_ldc2 dc211_352 mc211 ll7_32).trans ?_
  refine (at_land dc211_355).trans ?_
  refine (at_lor dc211_356).trans ?_
  refine (at_aload_n dc211_357 rfl).trans ?_
  refine (at_iload_n dc211_358 rfl).trans ?_
  refine (at_iconst (v := 3) dc211_359 rfl).trans ?_
  refine (at_iadd dc211_360).trans ?_
  refine (at_xald dc211_361 (pm_xS hg) i3).trans ?_
  exact at_inv dc211_362 mc211 lm7_34 rfl rfl (Nat.le_of_ble_eq_true rfl) (Or.inl ⟨(ly0 hL), by decide⟩)
theorem b211_365 {X : pm_X} {d : Nat} {x3 : Int32} {s0 : Int32} {g : pm_G} {iv : pm_V} (hL : pm_lay g) (hg : pm_xg g) (hX : X.1 < 2147483648) (i1 : vp_in ((x3 + 1)) X.1) (i2 : vp_in ((x3 + 2)) X.1) (i3 : vp_in ((x3 + 3)) X.1) : pm_at X d 211 (365, [some (.ref 1300), some (.ref 0), some (.ref 32), some (.int x3)], [.int s0], g, iv) = pm_then X d 211 394 [some (.ref 1300), some (.ref 0), some (.ref 32), some (.int x3)] [.int s0] (pm_c X d 136 [.ref 32, .long ((((X.2 ((x3 + 1)).toNatClampNeg) : Int32).toInt64 <<< ((32 : Int32).toInt64 &&& 63)) ||| (((X.2 ((x3 + 2)).toNatClampNeg) : Int32).toInt64 &&& 4294967295)), .int (X.2 ((x3 + 3)).toNatClampNeg)] g iv) := by
  refine (at_aload_n dc211_365 rfl).trans ?_
  refine (at_aload_n dc211_366 rfl).trans ?_
  refine (at_iload_n dc211_367 rfl).trans ?_
  refine (at_iconst (v := 1) dc211_368 rfl).trans ?_
  refine (at_iadd dc211_369).trans ?_
  refine (at_xald dc211_370 (pm_xS hg) i1).trans ?_
  refine (at_i2l dc211_371).trans ?_
  refine (at_bipush (v := 32) dc211_372 (by decide)).trans ?_
  refine (at_lshl dc211_374).trans ?_
  refine (at_aload_n dc211_375 rfl).trans ?_
  refine (at_iload_n dc211_376 rfl).trans ?_
  refine (at_iconst (v := 2) dc211_377 rfl).trans ?_
  refine (at_iadd dc211_378).trans ?_
  refine (at_xald dc211_379 (pm_xS hg) i2).trans ?_
  refine (at_i2l dc211_380).trans ?_
  refine (at_ldc2 dc211_381 mc211 ll7_32).trans ?_
  refine (at_land dc211_384).trans ?_
  refine (at_lor dc211_385).trans ?_
  refine (at_aload_n dc211_386 rfl).trans ?_
  refine (at_iload_n dc211_387 rfl).trans ?_
  refine (at_iconst (v := 3) dc211_388 rfl).trans ?_
  refine (at_iadd dc211_389).trans ?_
  refine (at_xald dc211_390 (pm_xS hg) i3).trans ?_
  exact at_inv dc211_391 mc211 lm7_38 rfl rfl (Nat.le_of_ble_eq_true rfl) (Or.inl ⟨(ly32 hL), by decide⟩)
theorem b211_394 {X : pm_X} {d : Nat} {x3 : Int32} {s0 : Int32} {s1 : Int32} {g : pm_G} {iv : pm_V}  : pm_at X d 211 (394, [some (.ref 1300), some (.ref 0), some (.ref 32), some (.int x3)], [.int s0, .int s1], g, iv) = if s1 = s0 then pm_at X d 211 (1071, [some (.ref 1300), some (.ref 0), some (.ref 32), some (.int x3)], [], g, iv) else pm_at X d 211 (397, [some (.ref 1300), some (.ref 0), some (.ref 32), some (.int x3)], [], g, iv) := by
  exact at_icmp_eq (t := 1071) dc211_394 (by decide)
theorem b211_397 {X : pm_X} {d : Nat} {x3 : Int32} {g : pm_G} {iv : pm_V}  : pm_at X d 211 (397, [some (.ref 1300), some (.ref 0), some (.ref 32), some (.int x3)], [], g, iv) = some (some (.int 0), g, iv) := by
  refine (at_iconst (v := 0) dc211_397 rfl).trans ?_
  exact at_zret dc211_398 mr211 (by decide)
theorem b211_399 {X : pm_X} {d : Nat} {x3 : Int32} {g : pm_G} {iv : pm_V} (hL : pm_lay g) : pm_at X d 211 (399, [some (.ref 1300), some (.ref 0), some (.ref 32), some (.int x3)], [], g, iv) = pm_then X d 211 403 [some (.ref 1300), some (.ref 0), some (.ref 32), some (.int x3)] [] (pm_c X d 95 [.ref 0] g iv) := by
  refine (at_aload_n dc211_399 rfl).trans ?_
  exact at_inv dc211_400 mc211 lm7_39 rfl rfl (Nat.le_of_ble_eq_true rfl) (Or.inl ⟨(ly0 hL), by decide⟩)
theorem b211_403 {X : pm_X} {d : Nat} {x3 : Int32} {s0 : Int32} {g : pm_G} {iv : pm_V} (hL : pm_lay g) : pm_at X d 211 (403, [some (.ref 1300), some (.ref 0), some (.ref 32), some (.int x3)], [.int s0], g, iv) = pm_then X d 211 407 [some (.ref 1300), some (.ref 0), some (.ref 32), some (.int x3)] [.int s0] (pm_c X d 153 [.ref 32] g iv) := by
  refine (at_aload_n dc211_403 rfl).trans ?_
  exact at_inv dc211_404 mc211 lm7_43 rfl rfl (Nat.le_of_ble_eq_true rfl) (Or.inl ⟨(ly32 hL), by decide⟩)
theorem b211_407 {X : pm_X} {d : Nat} {x3 : Int32} {s0 : Int32} {s1 : Int32} {g : pm_G} {iv : pm_V}  : pm_at X d 211 (407, [some (.ref 1300), some (.ref 0), some (.ref 32), some (.int x3)], [.int s0, .int s1], g, iv) = if s1 = s0 then pm_at X d 211 (1071, [some (.ref 1300), some (.ref 0), some (.ref 32), some (.int x3)], [], g, iv) else pm_at X d 211 (410, [some (.ref 1300), some (.ref 0), some (.ref 32), some (.int x3)], [], g, iv) := by
  exact at_icmp_eq (t := 1071) dc211_407 (by decide)
theorem b211_410 {X : pm_X} {d : Nat} {x3 : Int32} {g : pm_G} {iv : pm_V}  : pm_at X d 211 (410, [some (.ref 1300), some (.ref 0), some (.ref 32), some (.int x3)], [], g, iv) = some (some (.int 0), g, iv) := by
  refine (at_iconst (v := 0) dc211_410 rfl).trans ?_
  exact at_zret dc211_411 mr211 (by decide)
theorem b211_412 {X : pm_X} {d : Nat} {x3 : Int32} {g : pm_G} {iv : pm_V} (hL : pm_lay g) : pm_at X d 211 (412, [some (.ref 1300), some (.ref 0), some (.ref 32), some (.int x3)], [], g, iv) = pm_then X d 211 416 [some (.ref 1300), some (.ref 0), some (.ref 32), some (.int x3)] [] (pm_c X d 96 [.ref 0] g iv) := by
  refine (at_aload_n dc211_412 rfl).trans ?_
  exact at_inv dc211_413 mc211 lm7_44 rfl rfl (Nat.le_of_ble_eq_true rfl) (Or.inl ⟨(ly0 hL), by decide⟩)
theorem b211_416 {X : pm_X} {d : Nat} {x3 : Int32} {s0 : Int32} {g : pm_G} {iv : pm_V} (hL : pm_lay g) : pm_at X d 211 (416, [some (.ref 1300), some (.ref 0), some (.ref 32), some (.int x3)], [.int s0], g, iv) = pm_then X d 211 420 [some (.ref 1300), some (.ref 0), some (.ref 32), some (.int x3)] [.int s0] (pm_c X d 154 [.ref 32] g iv) := by
  refine (at_aload_n dc211_416 rfl).trans ?_
  exact at_inv dc211_417 mc211 lm7_47 rfl rfl (Nat.le_of_ble_eq_true rfl) (Or.inl ⟨(ly32 hL), by decide⟩)
theorem b211_420 {X : pm_X} {d : Nat} {x3 : Int32} {s0 : Int32} {s1 : Int32} {g : pm_G} {iv : pm_V}  : pm_at X d 211 (420, [some (.ref 1300), some (.ref 0), some (.ref 32), some (.int x3)], [.int s0, .int s1], g, iv) = if s1 = s0 then pm_at X d 211 (1071, [some (.ref 1300), some (.ref 0), some (.ref 32), some (.int x3)], [], g, iv) else pm_at X d 211 (423, [some (.ref 1300), some (.ref 0), some (.ref 32), some (.int x3)], [], g, iv) := by
  exact at_icmp_eq (t := 1071) dc211_420 (by decide)
theorem b211_423 {X : pm_X} {d : Nat} {x3 : Int32} {g : pm_G} {iv : pm_V}  : pm_at X d 211 (423, [some (.ref 1300), some (.ref 0), some (.ref 32), some (.int x3)], [], g, iv) = some (some (.int 0), g, iv) := by
  refine (at_iconst (v := 0) dc211_423 rfl).trans ?_
  exact at_zret dc211_424 mr211 (by decide)
theorem b211_425 {X : pm_X} {d : Nat} {x3 : Int32} {g : pm_G} {iv : pm_V} (hL : pm_lay g) : pm_at X d 211 (425, [some (.ref 1300), some (.ref 0), some (.ref 32), some (.int x3)], [], g, iv) = pm_then X d 211 429 [some (.ref 1300), some (.ref 0), some (.ref 32), some (.int x3)] [] (pm_c X d 97 [.ref 0] g iv) := by
  refine (at_aload_n dc211_425 rfl).trans ?_
  exact at_inv dc211_426 mc211 lm7_48 rfl rfl (Nat.le_of_ble_eq_true rfl) (Or.inl ⟨(ly0 hL), by decide⟩)
theorem b211_429 {X : pm_X} {d : Nat} {x3 : Int32} {s0 : Int32} {g : pm_G} {iv : pm_V} (hL : pm_lay g) : pm_at X d 211 (429, [some (.ref 1300), some (.ref 0), some (.ref 32), some (.int x3)], [.int s0], g, iv) = pm_then X d 211 433 [some (.ref 1300), some (.ref 0), some (.ref 32), some (.int x3)] [.int s0] (pm_c X d 167 [.ref 32] g iv) := by
  refine (at_aload_n dc211_429 rfl).trans ?_
  exact at_inv dc211_430 mc211 lm7_51 rfl rfl (Nat.le_of_ble_eq_true rfl) (Or.inl ⟨(ly32 hL), by decide⟩)
theorem b211_433 {X : pm_X} {d : Nat} {x3 : Int32} {s0 : Int32} {s1 : Int32} {g : pm_G} {iv : pm_V}  : pm_at X d 211 (433, [some (.ref 1300), some (.ref 0), some (.ref 32), some (.int x3)], [.int s0, .int s1], g, iv) = if s1 = s0 then pm_at X d 211 (1071, [some (.ref 1300), some (.ref 0), some (.ref 32), some (.int x3)], [], g, iv) else pm_at X d 211 (436, [some (.ref 1300), some (.ref 0), some (.ref 32), some (.int x3)], [], g, iv) := by
  exact at_icmp_eq (t := 1071) dc211_433 (by decide)
theorem b211_436 {X : pm_X} {d : Nat} {x3 : Int32} {g : pm_G} {iv : pm_V}  : pm_at X d 211 (436, [some (.ref 1300), some (.ref 0), some (.ref 32), some (.int x3)], [], g, iv) = some (some (.int 0), g, iv) := by
  refine (at_iconst (v := 0) dc211_436 rfl).trans ?_
  exact at_zret dc211_437 mr211 (by decide)
theorem b211_438 {X : pm_X} {d : Nat} {x3 : Int32} {g : pm_G} {iv : pm_V} (hL : pm_lay g) (hg : pm_xg g) (hX : X.1 < 2147483648) (i1 : vp_in ((x3 + 1)) X.1) (i2 : vp_in ((x3 + 2)) X.1) : pm_at X d 211 (438, [some (.ref 1300), some (.ref 0), some (.ref 32), some (.int x3)], [], g, iv) = pm_then X d 211 452 [some (.ref 1300), some (.ref 0), some (.ref 32), some (.int x3)] [] (pm_c X d 98 [.ref 0, .int (X.2 ((x3 + 1)).toNatClampNeg), .int (X.2 ((x3 + 2)).toNatClampNeg)] g iv) := by
  refine (at_aload_n dc211_438 rfl).trans ?_
  refine (at_aload_n dc211_439 rfl).trans ?_
  refine (at_iload_n dc211_440 rfl).trans ?_
  refine (at_iconst (v := 1) dc211_441 rfl).trans ?_
  refine (at_iadd dc211_442).trans ?_
  refine (at_xald dc211_443 (pm_xS hg) i1).trans ?_
  refine (at_aload_n dc211_444 rfl).trans ?_
  refine (at_iload_n dc211_445 rfl).trans ?_
  refine (at_iconst (v := 2) dc211_446 rfl).trans ?_
  refine (at_iadd dc211_447).trans ?_
  refine (at_xald dc211_448 (pm_xS hg) i2).trans ?_
  exact at_inv dc211_449 mc211 lm7_52 rfl rfl (Nat.le_of_ble_eq_true rfl) (Or.inl ⟨(ly0 hL), by decide⟩)
theorem b211_452 {X : pm_X} {d : Nat} {x3 : Int32} {s0 : Int32} {g : pm_G} {iv : pm_V} (hL : pm_lay g) (hg : pm_xg g) (hX : X.1 < 2147483648) (i1 : vp_in ((x3 + 1)) X.1) (i2 : vp_in ((x3 + 2)) X.1) : pm_at X d 211 (452, [some (.ref 1300), some (.ref 0), some (.ref 32), some (.int x3)], [.int s0], g, iv) = pm_then X d 211 466 [some (.ref 1300), some (.ref 0), some (.ref 32), some (.int x3)] [.int s0] (pm_c X d 168 [.ref 32, .int (X.2 ((x3 + 1)).toNatClampNeg), .int (X.2 ((x3 + 2)).toNatClampNeg)] g iv) := by
  refine (at_aload_n dc211_452 rfl).trans ?_
  refine (at_aload_n dc211_453 rfl).trans ?_
  refine (at_iload_n dc211_454 rfl).trans ?_
  refine (at_iconst (v := 1) dc211_455 rfl).trans ?_
  refine (at_iadd dc211_456).trans ?_
  refine (at_xald dc211_457 (pm_xS hg) i1).trans ?_
  refine (at_aload_n dc211_458 rfl).trans ?_
  refine (at_iload_n dc211_459 rfl).trans ?_
  refine (at_iconst (v := 2) dc211_460 rfl).trans ?_
  refine (at_iadd dc211_461).trans ?_
  refine (at_xald dc211_462 (pm_xS hg) i2).trans ?_
  exact at_inv dc211_463 mc211 lm7_56 rfl rfl (Nat.le_of_ble_eq_true rfl) (Or.inl ⟨(ly32 hL), by decide⟩)
theorem b211_466 {X : pm_X} {d : Nat} {x3 : Int32} {s0 : Int32} {s1 : Int32} {g : pm_G} {iv : pm_V}  : pm_at X d 211 (466, [some (.ref 1300), some (.ref 0), some (.ref 32), some (.int x3)], [.int s0, .int s1], g, iv) = if s1 = s0 then pm_at X d 211 (1071, [some (.ref 1300), some (.ref 0), some (.ref 32), some (.int x3)], [], g, iv) else pm_at X d 211 (469, [some (.ref 1300), some (.ref 0), some (.ref 32), some (.int x3)], [], g, iv) := by
  exact at_icmp_eq (t := 1071) dc211_466 (by decide)
theorem b211_469 {X : pm_X} {d : Nat} {x3 : Int32} {g : pm_G} {iv : pm_V}  : pm_at X d 211 (469, [some (.ref 1300), some (.ref 0), some (.ref 32), some (.int x3)], [], g, iv) = some (some (.int 0), g, iv) := by
  refine (at_iconst (v := 0) dc211_469 rfl).trans ?_
  exact at_zret dc211_470 mr211 (by decide)
theorem b211_471 {X : pm_X} {d : Nat} {x3 : Int32} {g : pm_G} {iv : pm_V} (hL : pm_lay g) (hg : pm_xg g) (hX : X.1 < 2147483648) (i1 : vp_in ((x3 + 1)) X.1) (i2 : vp_in ((x3 + 2)) X.1) : pm_at X d 211 (471, [some (.ref 1300), some (.ref 0), some (.ref 32), some (.int x3)], [], g, iv) = pm_then X d 211 485 [some (.ref 1300), some (.ref 0), some (.ref 32), some (.int x3)] [] (pm_c X d 99 [.ref 0, .int (X.2 ((x3 + 1)).toNatClampNeg), .int (X.2 ((x3 + 2)).toNatClampNeg)] g iv) := by
  refine (at_aload_n dc211_471 rfl).trans ?_
  refine (at_aload_n dc211_472 rfl).trans ?_
  refine (at_iload_n dc211_473 rfl).trans ?_
  refine (at_iconst (v := 1) dc211_474 rfl).trans ?_
  refine (at_iadd dc211_475).trans ?_
  refine (at_xald dc211_476 (pm_xS hg) i1).trans ?_
  refine (at_aload_n dc211_477 rfl).trans ?_
  refine (at_iload_n dc211_478 rfl).trans ?_
  refine (at_iconst (v := 2) dc211_479 rfl).trans ?_
  refine (at_iadd dc211_480).trans ?_
  refine (at_xald dc211_481 (pm_xS hg) i2).trans ?_
  exact at_inv dc211_482 mc211 lm7_57 rfl rfl (Nat.le_of_ble_eq_true rfl) (Or.inl ⟨(ly0 hL), by decide⟩)
theorem b211_485 {X : pm_X} {d : Nat} {x3 : Int32} {s0 : Int32} {g : pm_G} {iv : pm_V} (hL : pm_lay g) (hg : pm_xg g) (hX : X.1 < 2147483648) (i1 : vp_in ((x3 + 1)) X.1) (i2 : vp_in ((x3 + 2)) X.1) : pm_at X d 211 (485, [some (.ref 1300), some (.ref 0), some (.ref 32), some (.int x3)], [.int s0], g, iv) = pm_then X d 211 499 [some (.ref 1300), some (.ref 0), some (.ref 32), some (.int x3)] [.int s0] (pm_c X d 170 [.ref 32, .int (X.2 ((x3 + 1)).toNatClampNeg), .int (X.2 ((x3 + 2)).toNatClampNeg)] g iv) := by
  refine (at_aload_n dc211_485 rfl).trans ?_
  refine (at_aload_n dc211_486 rfl).trans ?_
  refine (at_iload_n dc211_487 rfl).trans ?_
  refine (at_iconst (v := 1) dc211_488 rfl).trans ?_
  refine (at_iadd dc211_489).trans ?_
  refine (at_xald dc211_490 (pm_xS hg) i1).trans ?_
  refine (at_aload_n dc211_491 rfl).trans ?_
  refine (at_iload_n dc211_492 rfl).trans ?_
  refine (at_iconst (v := 2) dc211_493 rfl).trans ?_
  refine (at_iadd dc211_494).trans ?_
  refine (at_xald dc211_495 (pm_xS hg) i2).trans ?_
  exact at_inv dc211_496 mc211 lm7_60 rfl rfl (Nat.le_of_ble_eq_true rfl) (Or.inl ⟨(ly32 hL), by decide⟩)
theorem b211_499 {X : pm_X} {d : Nat} {x3 : Int32} {s0 : Int32} {s1 : Int32} {g : pm_G} {iv : pm_V}  : pm_at X d 211 (499, [some (.ref 1300), some (.ref 0), some (.ref 32), some (.int x3)], [.int s0, .int s1], g, iv) = if s1 = s0 then pm_at X d 211 (1071, [some (.ref 1300), some (.ref 0), some (.ref 32), some (.int x3)], [], g, iv) else pm_at X d 211 (502, [some (.ref 1300), some (.ref 0), some (.ref 32), some (.int x3)], [], g, iv) := by
  exact at_icmp_eq (t := 1071) dc211_499 (by decide)
theorem b211_502 {X : pm_X} {d : Nat} {x3 : Int32} {g : pm_G} {iv : pm_V}  : pm_at X d 211 (502, [some (.ref 1300), some (.ref 0), some (.ref 32), some (.int x3)], [], g, iv) = some (some (.int 0), g, iv) := by
  refine (at_iconst (v := 0) dc211_502 rfl).trans ?_
  exact at_zret dc211_503 mr211 (by decide)
theorem b211_504 {X : pm_X} {d : Nat} {x3 : Int32} {g : pm_G} {iv : pm_V} (hL : pm_lay g) (hg : pm_xg g) (hX : X.1 < 2147483648) (i1 : vp_in ((x3 + 1)) X.1) (i2 : vp_in ((x3 + 2)) X.1) (i3 : vp_in ((x3 + 3)) X.1) : pm_at X d 211 (504, [some (.ref 1300), some (.ref 0), some (.ref 32), some (.int x3)], [], g, iv) = pm_then X d 211 523 [some (.ref 1300), some (.ref 0), some (.ref 32), some (.int x3)] [] (pm_c X d 100 [.ref 0, .int (X.2 ((x3 + 1)).toNatClampNeg), .int (X.2 ((x3 + 2)).toNatClampNeg), .int (X.2 ((x3 + 3)).toNatClampNeg)] g iv) := by
  refine (at_aload_n dc211_504 rfl).trans ?_
  refine (at_aload_n dc211_505 rfl).trans ?_
  refine (at_iload_n dc211_506 rfl).trans ?_
  refine (at_iconst (v := 1) dc211_507 rfl).trans ?_
  refine (at_iadd dc211_508).trans ?_
  refine (at_xald dc211_509 (pm_xS hg) i1).trans ?_
  refine (at_aload_n dc211_510 rfl).trans ?_
  refine (at_iload_n dc211_511 rfl).trans ?_
  refine (at_iconst (v := 2) dc211_512 rfl).trans ?_
  refine (at_iadd dc211_513).trans ?_
  refine (at_xald dc211_514 (pm_xS hg) i2).trans ?_
  refine (at_aload_n dc211_515 rfl).trans ?_
  refine (at_iload_n dc211_516 rfl).trans ?_
  refine (at_iconst (v := 3) dc211_517 rfl).trans ?_
  refine (at_iadd dc211_518).trans ?_
  refine (at_xald dc211_519 (pm_xS hg) i3).trans ?_
  exact at_inv dc211_520 mc211 lm7_61 rfl rfl (Nat.le_of_ble_eq_true rfl) (Or.inl ⟨(ly0 hL), by decide⟩)
theorem b211_523 {X : pm_X} {d : Nat} {x3 : Int32} {s0 : Int32} {g : pm_G} {iv : pm_V} (hL : pm_lay g) (hg : pm_xg g) (hX : X.1 < 2147483648) (i1 : vp_in ((x3 + 1)) X.1) (i2 : vp_in ((x3 + 2)) X.1) (i3 : vp_in ((x3 + 3)) X.1) : pm_at X d 211 (523, [some (.ref 1300), some (.ref 0), some (.ref 32), some (.int x3)], [.int s0], g, iv) = pm_then X d 211 542 [some (.ref 1300), some (.ref 0), some (.ref 32), some (.int x3)] [.int s0] (pm_c X d 171 [.ref 32, .int (X.2 ((x3 + 1)).toNatClampNeg), .int (X.2 ((x3 + 2)).toNatClampNeg), .int (X.2 ((x3 + 3)).toNatClampNeg)] g iv) := by
  refine (at_aload_n dc211_523 rfl).trans ?_
  refine (at_aload_n dc211_524 rfl).trans ?_
  refine (at_iload_n dc211_525 rfl).trans ?_
  refine (at_iconst (v := 1) dc211_526 rfl).trans ?_
  refine (at_iadd dc211_527).trans ?_
  refine (at_xald dc211_528 (pm_xS hg) i1).trans ?_
  refine (at_aload_n dc211_529 rfl).trans ?_
  refine (at_iload_n dc211_530 rfl).trans ?_
  refine (at_iconst (v := 2) dc211_531 rfl).trans ?_
  refine (at_iadd dc211_532).trans ?_
  refine (at_xald dc211_533 (pm_xS hg) i2).trans ?_
  refine (at_aload_n dc211_534 rfl).trans ?_
  refine (at_iload_n dc211_535 rfl).trans ?_
  refine (at_iconst (v := 3) dc211_536 rfl).trans ?_
  refine (at_iadd dc211_537).trans ?_
  refine (at_xald dc211_538 (pm_xS hg) i3).trans ?_
  exact at_inv dc211_539 mc211 lm7_64 rfl rfl (Nat.le_of_ble_eq_true rfl) (Or.inl ⟨(ly32 hL), by decide⟩)
theorem b211_542 {X : pm_X} {d : Nat} {x3 : Int32} {s0 : Int32} {s1 : Int32} {g : pm_G} {iv : pm_V}  : pm_at X d 211 (542, [some (.ref 1300), some (.ref 0), some (.ref 32), some (.int x3)], [.int s0, .int s1], g, iv) = if s1 = s0 then pm_at X d 211 (1071, [some (.ref 1300), some (.ref 0), some (.ref 32), some (.int x3)], [], g, iv) else pm_at X d 211 (545, [some (.ref 1300), some (.ref 0), some (.ref 32), some (.int x3)], [], g, iv) := by
  exact at_icmp_eq (t := 1071) dc211_542 (by decide)
theorem b211_545 {X : pm_X} {d : Nat} {x3 : Int32} {g : pm_G} {iv : pm_V}  : pm_at X d 211 (545, [some (.ref 1300), some (.ref 0), some (.ref 32), some (.int x3)], [], g, iv) = some (some (.int 0), g, iv) := by
  refine (at_iconst (v := 0) dc211_545 rfl).trans ?_
  exact at_zret dc211_546 mr211 (by decide)
theorem b211_547 {X : pm_X} {d : Nat} {x3 : Int32} {g : pm_G} {iv : pm_V} (hL : pm_lay g) : pm_at X d 211 (547, [some (.ref 1300), some (.ref 0), some (.ref 32), some (.int x3)], [], g, iv) = pm_then X d 211 551 [some (.ref 1300), some (.ref 0), some (.ref 32), some (.int x3)] [] (pm_c X d 101 [.ref 0] g iv) := by
  refine (at_aload_n dc211_547 rfl).trans ?_
  exact at_inv dc211_548 mc211 lm7_65 rfl rfl (Nat.le_of_ble_eq_true rfl) (Or.inl ⟨(ly0 hL), by decide⟩)
theorem b211_551 {X : pm_X} {d : Nat} {x3 : Int32} {s0 : Int32} {g : pm_G} {iv : pm_V} (hL : pm_lay g) : pm_at X d 211 (551, [some (.ref 1300), some (.ref 0), some (.ref 32), some (.int x3)], [.int s0], g, iv) = pm_then X d 211 555 [some (.ref 1300), some (.ref 0), some (.ref 32), some (.int x3)] [.int s0] (pm_c X d 172 [.ref 32] g iv) := by
  refine (at_aload_n dc211_551 rfl).trans ?_
  exact at_inv dc211_552 mc211 lm7_68 rfl rfl (Nat.le_of_ble_eq_true rfl) (Or.inl ⟨(ly32 hL), by decide⟩)
theorem b211_555 {X : pm_X} {d : Nat} {x3 : Int32} {s0 : Int32} {s1 : Int32} {g : pm_G} {iv : pm_V}  : pm_at X d 211 (555, [some (.ref 1300), some (.ref 0), some (.ref 32), some (.int x3)], [.int s0, .int s1], g, iv) = if s1 = s0 then pm_at X d 211 (1071, [some (.ref 1300), some (.ref 0), some (.ref 32), some (.int x3)], [], g, iv) else pm_at X d 211 (558, [some (.ref 1300), some (.ref 0), some (.ref 32), some (.int x3)], [], g, iv) := by
  exact at_icmp_eq (t := 1071) dc211_555 (by decide)
theorem b211_558 {X : pm_X} {d : Nat} {x3 : Int32} {g : pm_G} {iv : pm_V}  : pm_at X d 211 (558, [some (.ref 1300), some (.ref 0), some (.ref 32), some (.int x3)], [], g, iv) = some (some (.int 0), g, iv) := by
  refine (at_iconst (v := 0) dc211_558 rfl).trans ?_
  exact at_zret dc211_559 mr211 (by decide)
theorem b211_560 {X : pm_X} {d : Nat} {x3 : Int32} {g : pm_G} {iv : pm_V} (hL : pm_lay g) (hg : pm_xg g) (hX : X.1 < 2147483648) (i1 : vp_in ((x3 + 1)) X.1) (i2 : vp_in ((x3 + 2)) X.1) : pm_at X d 211 (560, [some (.ref 1300), some (.ref 0), some (.ref 32), some (.int x3)], [], g, iv) = pm_then X d 211 574 [some (.ref 1300), some (.ref 0), some (.ref 32), some (.int x3)] [] (pm_c X d 102 [.ref 0, .int (X.2 ((x3 + 1)).toNatClampNeg), .int (X.2 ((x3 + 2)).toNatClampNeg)] g iv) := by
  refine (at_aload_n dc211_560 rfl).trans ?_
  refine (at_aload_n dc211_561 rfl).trans ?_
  refine (at_iload_n dc211_562 rfl).trans ?_
  refine (at_iconst (v := 1) dc211_563 rfl).trans ?_
  refine (at_iadd dc211_564).trans ?_
  refine (at_xald dc211_565 (pm_xS hg) i1).trans ?_
  refine (at_aload_n dc211_566 rfl).trans ?_
  refine (at_iload_n dc211_567 rfl).trans ?_
  refine (at_iconst (v := 2) dc211_568 rfl).trans ?_
  refine (at_iadd dc211_569).trans ?_
  refine (at_xald dc211_570 (pm_xS hg) i2).trans ?_
  exact at_inv dc211_571 mc211 lm7_69 rfl rfl (Nat.le_of_ble_eq_true rfl) (Or.inl ⟨(ly0 hL), by decide⟩)
theorem b211_574 {X : pm_X} {d : Nat} {x3 : Int32} {s0 : Int32} {g : pm_G} {iv : pm_V} (hL : pm_lay g) (hg : pm_xg g) (hX : X.1 < 2147483648) (i1 : vp_in ((x3 + 1)) X.1) (i2 : vp_in ((x3 + 2)) X.1) : pm_at X d 211 (574, [some (.ref 1300), some (.ref 0), some (.ref 32), some (.int x3)], [.int s0], g, iv) = pm_then X d 211 588 [some (.ref 1300), some (.ref 0), some (.ref 32), some (.int x3)] [.int s0] (pm_c X d 174 [.ref 32, .int (X.2 ((x3 + 1)).toNatClampNeg), .int (X.2 ((x3 + 2)).toNatClampNeg)] g iv) := by
  refine (at_aload_n dc211_574 rfl).trans ?_
  refine (at_aload_n dc211_575 rfl).trans ?_
  refine (at_iload_n dc211_576 rfl).trans ?_
  refine (at_iconst (v := 1) dc211_577 rfl).trans ?_
  refine (at_iadd dc211_578).trans ?_
  refine (at_xald dc211_579 (pm_xS hg) i1).trans ?_
  refine (at_aload_n dc211_580 rfl).trans ?_
  refine (at_iload_n dc211_581 rfl).trans ?_
  refine (at_iconst (v := 2) dc211_582 rfl).trans ?_
  refine (at_iadd dc211_583).trans ?_
  refine (at_xald dc211_584 (pm_xS hg) i2).trans ?_
  exact at_inv dc211_585 mc211 lm7_72 rfl rfl (Nat.le_of_ble_eq_true rfl) (Or.inl ⟨(ly32 hL), by decide⟩)
theorem b211_588 {X : pm_X} {d : Nat} {x3 : Int32} {s0 : Int32} {s1 : Int32} {g : pm_G} {iv : pm_V}  : pm_at X d 211 (588, [some (.ref 1300), some (.ref 0), some (.ref 32), some (.int x3)], [.int s0, .int s1], g, iv) = if s1 = s0 then pm_at X d 211 (1071, [some (.ref 1300), some (.ref 0), some (.ref 32), some (.int x3)], [], g, iv) else pm_at X d 211 (591, [some (.ref 1300), some (.ref 0), some (.ref 32), some (.int x3)], [], g, iv) := by
  exact at_icmp_eq (t := 1071) dc211_588 (by decide)
theorem b211_591 {X : pm_X} {d : Nat} {x3 : Int32} {g : pm_G} {iv : pm_V}  : pm_at X d 211 (591, [some (.ref 1300), some (.ref 0), some (.ref 32), some (.int x3)], [], g, iv) = some (some (.int 0), g, iv) := by
  refine (at_iconst (v := 0) dc211_591 rfl).trans ?_
  exact at_zret dc211_592 mr211 (by decide)
theorem b211_593 {X : pm_X} {d : Nat} {x3 : Int32} {g : pm_G} {iv : pm_V} (hL : pm_lay g) (hg : pm_xg g) (hX : X.1 < 2147483648) (i1 : vp_in ((x3 + 1)) X.1) (i2 : vp_in ((x3 + 2)) X.1) : pm_at X d 211 (593, [some (.ref 1300), some (.ref 0), some (.ref 32), some (.int x3)], [], g, iv) = pm_then X d 211 607 [some (.ref 1300), some (.ref 0), some (.ref 32), some (.int x3)] [] (pm_c X d 103 [.ref 0, .int (X.2 ((x3 + 1)).toNatClampNeg), .int (X.2 ((x3 + 2)).toNatClampNeg)] g iv) := by
  refine (at_aload_n dc211_593 rfl).trans ?_
  refine (at_aload_n dc211_594 rfl).trans ?_
  refine (at_iload_n dc211_595 rfl).trans ?_
  refine (at_iconst (v := 1) dc211_596 rfl).trans ?_
  refine (at_iadd dc211_597).trans ?_
  refine (at_xald dc211_598 (pm_xS hg) i1).trans ?_
  refine (at_aload_n dc211_599 rfl).trans ?_
  refine (at_iload_n dc211_600 rfl).trans ?_
  refine (at_iconst (v := 2) dc211_601 rfl).trans ?_
  refine (at_iadd dc211_602).trans ?_
  refine (at_xald dc211_603 (pm_xS hg) i2).trans ?_
  exact at_inv dc211_604 mc211 lm7_73 rfl rfl (Nat.le_of_ble_eq_true rfl) (Or.inl ⟨(ly0 hL), by decide⟩)
theorem b211_607 {X : pm_X} {d : Nat} {x3 : Int32} {s0 : Int32} {g : pm_G} {iv : pm_V} (hL : pm_lay g) (hg : pm_xg g) (hX : X.1 < 2147483648) (i1 : vp_in ((x3 + 1)) X.1) (i2 : vp_in ((x3 + 2)) X.1) : pm_at X d 211 (607, [some (.ref 1300), some (.ref 0), some (.ref 32), some (.int x3)], [.int s0], g, iv) = pm_then X d 211 621 [some (.ref 1300), some (.ref 0), some (.ref 32), some (.int x3)] [.int s0] (pm_c X d 175 [.ref 32, .int (X.2 ((x3 + 1)).toNatClampNeg), .int (X.2 ((x3 + 2)).toNatClampNeg)] g iv) := by
  refine (at_aload_n dc211_607 rfl).trans ?_
  refine (at_aload_n dc211_608 rfl).trans ?_
  refine (at_iload_n dc211_609 rfl).trans ?_
  refine (at_iconst (v := 1) dc211_610 rfl).trans ?_
  refine (at_iadd dc211_611).trans ?_
  refine (at_xald dc211_612 (pm_xS hg) i1).trans ?_
  refine (at_aload_n dc211_613 rfl).trans ?_
  refine (at_iload_n dc211_614 rfl).trans ?_
  refine (at_iconst (v := 2) dc211_615 rfl).trans ?_
  refine (at_iadd dc211_616).trans ?_
  refine (at_xald dc211_617 (pm_xS hg) i2).trans ?_
  exact at_inv dc211_618 mc211 lm7_76 rfl rfl (Nat.le_of_ble_eq_true rfl) (Or.inl ⟨(ly32 hL), by decide⟩)
theorem b211_621 {X : pm_X} {d : Nat} {x3 : Int32} {s0 : Int32} {s1 : Int32} {g : pm_G} {iv : pm_V}  : pm_at X d 211 (621, [some (.ref 1300), some (.ref 0), some (.ref 32), some (.int x3)], [.int s0, .int s1], g, iv) = if s1 = s0 then pm_at X d 211 (1071, [some (.ref 1300), some (.ref 0), some (.ref 32), some (.int x3)], [], g, iv) else pm_at X d 211 (624, [some (.ref 1300), some (.ref 0), some (.ref 32), some (.int x3)], [], g, iv) := by
  exact at_icmp_eq (t := 1071) dc211_621 (by decide)
theorem b211_624 {X : pm_X} {d : Nat} {x3 : Int32} {g : pm_G} {iv : pm_V}  : pm_at X d 211 (624, [some (.ref 1300), some (.ref 0), some (.ref 32), some (.int x3)], [], g, iv) = some (some (.int 0), g, iv) := by
  refine (at_iconst (v := 0) dc211_624 rfl).trans ?_
  exact at_zret dc211_625 mr211 (by decide)
theorem b211_626 {X : pm_X} {d : Nat} {x3 : Int32} {g : pm_G} {iv : pm_V} (hL : pm_lay g) (hg : pm_xg g) (hX : X.1 < 2147483648) (i1 : vp_in ((x3 + 1)) X.1) (i2 : vp_in ((x3 + 2)) X.1) (i3 : vp_in ((x3 + 3)) X.1) : pm_at X d 211 (626, [some (.ref 1300), some (.ref 0), some (.ref 32), some (.int x3)], [], g, iv) = pm_then X d 211 645 [some (.ref 1300), some (.ref 0), some (.ref 32), some (.int x3)] [] (pm_c X d 104 [.ref 0, .int (X.2 ((x3 + 1)).toNatClampNeg), .int (X.2 ((x3 + 2)).toNatClampNeg), .int (X.2 ((x3 + 3)).toNatClampNeg)] g iv) := by
  refine (at_aload_n dc211_626 rfl).trans ?_
  refine (at_aload_n dc211_627 rfl).trans ?_
  refine (at_iload_n dc211_628 rfl).trans ?_
  refine (at_iconst (v := 1) dc211_629 rfl).trans ?_
  refine (at_iadd dc211_630).trans ?_
  refine (at_xald dc211_631 (pm_xS hg) i1).trans ?_
  refine (at_aload_n dc211_632 rfl).trans ?_
  refine (at_iload_n dc211_633 rfl).trans ?_
  refine (at_iconst (v := 2) dc211_634 rfl).trans ?_
  refine (at_iadd dc211_635).trans ?_
  refine (at_xald dc211_636 (pm_xS hg) i2).trans ?_
  refine (at_aload_n dc211_637 rfl).trans ?_
  refine (at_iload_n dc211_638 rfl).trans ?_
  refine (at_iconst (v := 3) dc211_639 rfl).trans ?_
  refine (at_iadd dc211_640).trans ?_
  refine (at_xald dc211_641 (pm_xS hg) i3).trans ?_
  exact at_inv dc211_642 mc211 lm7_77 rfl rfl (Nat.le_of_ble_eq_true rfl) (Or.inl ⟨(ly0 hL), by decide⟩)
theorem b211_645 {X : pm_X} {d : Nat} {x3 : Int32} {s0 : Int32} {g : pm_G} {iv : pm_V} (hL : pm_lay g) (hg : pm_xg g) (hX : X.1 < 2147483648) (i1 : vp_in ((x3 + 1)) X.1) (i2 : vp_in ((x3 + 2)) X.1) (i3 : vp_in ((x3 + 3)) X.1) : pm_at X d 211 (645, [some (.ref 1300), some (.ref 0), some (.ref 32), some (.int x3)], [.int s0], g, iv) = pm_then X d 211 664 [some (.ref 1300), some (.ref 0), some (.ref 32), some (.int x3)] [.int s0] (pm_c X d 177 [.ref 32, .int (X.2 ((x3 + 1)).toNatClampNeg), .int (X.2 ((x3 + 2)).toNatClampNeg), .int (X.2 ((x3 + 3)).toNatClampNeg)] g iv) := by
  refine (at_aload_n dc211_645 rfl).trans ?_
  refine (at_aload_n dc211_646 rfl).trans ?_
  refine (at_iload_n dc211_647 rfl).trans ?_
  refine (at_iconst (v := 1) dc211_648 rfl).trans ?_
  refine (at_iadd dc211_649).trans ?_
  refine (at_xald dc211_650 (pm_xS hg) i1).trans ?_
  refine (at_aload_n dc211_651 rfl).trans ?_
  refine (at_iload_n dc211_652 rfl).trans ?_
  refine (at_iconst (v := 2) dc211_653 rfl).trans ?_
  refine (at_iadd dc211_654).trans ?_
  refine (at_xald dc211_655 (pm_xS hg) i2).trans ?_
  refine (at_aload_n dc211_656 rfl).trans ?_
  refine (at_iload_n dc211_657 rfl).trans ?_
  refine (at_iconst (v := 3) dc211_658 rfl).trans ?_
  refine (at_iadd dc211_659).trans ?_
  refine (at_xald dc211_660 (pm_xS hg) i3).trans ?_
  exact at_inv dc211_661 mc211 lm7_80 rfl rfl (Nat.le_of_ble_eq_true rfl) (Or.inl ⟨(ly32 hL), by decide⟩)
theorem b211_664 {X : pm_X} {d : Nat} {x3 : Int32} {s0 : Int32} {s1 : Int32} {g : pm_G} {iv : pm_V}  : pm_at X d 211 (664, [some (.ref 1300), some (.ref 0), some (.ref 32), some (.int x3)], [.int s0, .int s1], g, iv) = if s1 = s0 then pm_at X d 211 (1071, [some (.ref 1300), some (.ref 0), some (.ref 32), some (.int x3)], [], g, iv) else pm_at X d 211 (667, [some (.ref 1300), some (.ref 0), some (.ref 32), some (.int x3)], [], g, iv) := by
  exact at_icmp_eq (t := 1071) dc211_664 (by decide)
theorem b211_667 {X : pm_X} {d : Nat} {x3 : Int32} {g : pm_G} {iv : pm_V}  : pm_at X d 211 (667, [some (.ref 1300), some (.ref 0), some (.ref 32), some (.int x3)], [], g, iv) = some (some (.int 0), g, iv) := by
  refine (at_iconst (v := 0) dc211_667 rfl).trans ?_
  exact at_zret dc211_668 mr211 (by decide)
theorem b211_669 {X : pm_X} {d : Nat} {x3 : Int32} {g : pm_G} {iv : pm_V} (hL : pm_lay g) (hg : pm_xg g) (hX : X.1 < 2147483648) (i1 : vp_in ((x3 + 1)) X.1) : pm_at X d 211 (669, [some (.ref 1300), some (.ref 0), some (.ref 32), some (.int x3)], [], g, iv) = pm_then X d 211 678 [some (.ref 1300), some (.ref 0), some (.ref 32), some (.int x3)] [] (pm_c X d 105 [.ref 0, .int (X.2 ((x3 + 1)).toNatClampNeg)] g iv) := by
  refine (at_aload_n dc211_669 rfl).trans ?_
  refine (at_aload_n dc211_670 rfl).trans ?_
  refine (at_iload_n dc211_671 rfl).trans ?_
  refine (at_iconst (v := 1) dc211_672 rfl).trans ?_
  refine (at_iadd dc211_673).trans ?_
  refine (at_xald dc211_674 (pm_xS hg) i1).trans ?_
  exact at_inv dc211_675 mc211 lm7_81 rfl rfl (Nat.le_of_ble_eq_true rfl) (Or.inl ⟨(ly0 hL), by decide⟩)
theorem b211_678 {X : pm_X} {d : Nat} {x3 : Int32} {s0 : Int32} {g : pm_G} {iv : pm_V} (hL : pm_lay g) (hg : pm_xg g) (hX : X.1 < 2147483648) (i1 : vp_in ((x3 + 1)) X.1) : pm_at X d 211 (678, [some (.ref 1300), some (.ref 0), some (.ref 32), some (.int x3)], [.int s0], g, iv) = pm_then X d 211 687 [some (.ref 1300), some (.ref 0), some (.ref 32), some (.int x3)] [.int s0] (pm_c X d 178 [.ref 32, .int (X.2 ((x3 + 1)).toNatClampNeg)] g iv) := by
  refine (at_aload_n dc211_678 rfl).trans ?_
  refine (at_aload_n dc211_679 rfl).trans ?_
  refine (at_iload_n dc211_680 rfl).trans ?_
  refine (at_iconst (v := 1) dc211_681 rfl).trans ?_
  refine (at_iadd dc211_682).trans ?_
  refine (at_xald dc211_683 (pm_xS hg) i1).trans ?_
  exact at_inv dc211_684 mc211 lm7_84 rfl rfl (Nat.le_of_ble_eq_true rfl) (Or.inl ⟨(ly32 hL), by decide⟩)
theorem b211_687 {X : pm_X} {d : Nat} {x3 : Int32} {s0 : Int32} {s1 : Int32} {g : pm_G} {iv : pm_V}  : pm_at X d 211 (687, [some (.ref 1300), some (.ref 0), some (.ref 32), some (.int x3)], [.int s0, .int s1], g, iv) = if s1 = s0 then pm_at X d 211 (1071, [some (.ref 1300), some (.ref 0), some (.ref 32), some (.int x3)], [], g, iv) else pm_at X d 211 (690, [some (.ref 1300), some (.ref 0), some (.ref 32), some (.int x3)], [], g, iv) := by
  exact at_icmp_eq (t := 1071) dc211_687 (by decide)
theorem b211_690 {X : pm_X} {d : Nat} {x3 : Int32} {g : pm_G} {iv : pm_V}  : pm_at X d 211 (690, [some (.ref 1300), some (.ref 0), some (.ref 32), some (.int x3)], [], g, iv) = some (some (.int 0), g, iv) := by
  refine (at_iconst (v := 0) dc211_690 rfl).trans ?_
  exact at_zret dc211_691 mr211 (by decide)
theorem b211_692 {X : pm_X} {d : Nat} {x3 : Int32} {g : pm_G} {iv : pm_V} (hL : pm_lay g) (hg : pm_xg g) (hX : X.1 < 2147483648) (i1 : vp_in ((x3 + 1)) X.1) (i2 : vp_in ((x3 + 2)) X.1) (i3 : vp_in ((x3 + 3)) X.1) : pm_at X d 211 (692, [some (.ref 1300), some (.ref 0), some (.ref 32), some (.int x3)], [], g, iv) = pm_then X d 211 711 [some (.ref 1300), some (.ref 0), some (.ref 32), some (.int x3)] [] (pm_c X d 106 [.ref 0, .int (X.2 ((x3 + 1)).toNatClampNeg), .int (X.2 ((x3 + 2)).toNatClampNeg), .int (X.2 ((x3 + 3)).toNatClampNeg)] g iv) := by
  refine (at_aload_n dc211_692 rfl).trans ?_
  refine (at_aload_n dc211_693 rfl).trans ?_
  refine (at_iload_n dc211_694 rfl).trans ?_
  refine (at_iconst (v := 1) dc211_695 rfl).trans ?_
  refine (at_iadd dc211_696).trans ?_
  refine (at_xald dc211_697 (pm_xS hg) i1).trans ?_
  refine (at_aload_n dc211_698 rfl).trans ?_
  refine (at_iload_n dc211_699 rfl).trans ?_
  refine (at_iconst (v := 2) dc211_700 rfl).trans ?_
  refine (at_iadd dc211_701).trans ?_
  refine (at_xald dc211_702 (pm_xS hg) i2).trans ?_
  refine (at_aload_n dc211_703 rfl).trans ?_
  refine (at_iload_n dc211_704 rfl).trans ?_
  refine (at_iconst (v := 3) dc211_705 rfl).trans ?_
  refine (at_iadd dc211_706).trans ?_
  refine (at_xald dc211_707 (pm_xS hg) i3).trans ?_
  exact at_inv dc211_708 mc211 lm7_85 rfl rfl (Nat.le_of_ble_eq_true rfl) (Or.inl ⟨(ly0 hL), by decide⟩)
theorem b211_711 {X : pm_X} {d : Nat} {x3 : Int32} {s0 : Int32} {g : pm_G} {iv : pm_V} (hL : pm_lay g) (hg : pm_xg g) (hX : X.1 < 2147483648) (i1 : vp_in ((x3 + 1)) X.1) (i2 : vp_in ((x3 + 2)) X.1) (i3 : vp_in ((x3 + 3)) X.1) : pm_at X d 211 (711, [some (.ref 1300), some (.ref 0), some (.ref 32), some (.int x3)], [.int s0], g, iv) = pm_then X d 211 730 [some (.ref 1300), some (.ref 0), some (.ref 32), some (.int x3)] [.int s0] (pm_c X d 180 [.ref 32, .int (X.2 ((x3 + 1)).toNatClampNeg), .int (X.2 ((x3 + 2)).toNatClampNeg), .int (X.2 ((x3 + 3)).toNatClampNeg)] g iv) := by
  refine (at_aload_n dc211_711 rfl).trans ?_
  refine (at_aload_n dc211_712 rfl).trans ?_
  refine (at_iload_n dc211_713 rfl).trans ?_
  refine (at_iconst (v := 1) dc211_714 rfl).trans ?_
  refine (at_iadd dc211_715).trans ?_
  refine (at_xald dc211_716 (pm_xS hg) i1).trans ?_
  refine (at_aload_n dc211_717 rfl).trans ?_
  refine (at_iload_n dc211_718 rfl).trans ?_
  refine (at_iconst (v := 2) dc211_719 rfl).trans ?_
  refine (at_iadd dc211_720).trans ?_
  refine (at_xald dc211_721 (pm_xS hg) i2).trans ?_
  refine (at_aload_n dc211_722 rfl).trans ?_
  refine (at_iload_n dc211_723 rfl).trans ?_
  refine (at_iconst (v := 3) dc211_724 rfl).trans ?_
  refine (at_iadd dc211_725).trans ?_
  refine (at_xald dc211_726 (pm_xS hg) i3).trans ?_
  exact at_inv dc211_727 mc211 lm7_88 rfl rfl (Nat.le_of_ble_eq_true rfl) (Or.inl ⟨(ly32 hL), by decide⟩)
theorem b211_730 {X : pm_X} {d : Nat} {x3 : Int32} {s0 : Int32} {s1 : Int32} {g : pm_G} {iv : pm_V}  : pm_at X d 211 (730, [some (.ref 1300), some (.ref 0), some (.ref 32), some (.int x3)], [.int s0, .int s1], g, iv) = if s1 = s0 then pm_at X d 211 (1071, [some (.ref 1300), some (.ref 0), some (.ref 32), some (.int x3)], [], g, iv) else pm_at X d 211 (733, [some (.ref 1300), some (.ref 0), some (.ref 32), some (.int x3)], [], g, iv) := by
  exact at_icmp_eq (t := 1071) dc211_730 (by decide)
theorem b211_733 {X : pm_X} {d : Nat} {x3 : Int32} {g : pm_G} {iv : pm_V}  : pm_at X d 211 (733, [some (.ref 1300), some (.ref 0), some (.ref 32), some (.int x3)], [], g, iv) = some (some (.int 0), g, iv) := by
  refine (at_iconst (v := 0) dc211_733 rfl).trans ?_
  exact at_zret dc211_734 mr211 (by decide)
theorem b211_735 {X : pm_X} {d : Nat} {x3 : Int32} {g : pm_G} {iv : pm_V} (hL : pm_lay g) (hg : pm_xg g) (hX : X.1 < 2147483648) (i1 : vp_in ((x3 + 1)) X.1) (i2 : vp_in ((x3 + 2)) X.1) (i3 : vp_in ((x3 + 3)) X.1) (i4 : vp_in ((x3 + 4)) X.1) : pm_at X d 211 (735, [some (.ref 1300), some (.ref 0), some (.ref 32), some (.int x3)], [], g, iv) = pm_then X d 211 759 [some (.ref 1300), some (.ref 0), some (.ref 32), some (.int x3)] [] (pm_c X d 107 [.ref 0, .int (X.2 ((x3 + 1)).toNatClampNeg), .int (X.2 ((x3 + 2)).toNatClampNeg), .int (X.2 ((x3 + 3)).toNatClampNeg), .int (X.2 ((x3 + 4)).toNatClampNeg)] g iv) := by
  refine (at_aload_n dc211_735 rfl).trans ?_
  refine (at_aload_n dc211_736 rfl).trans ?_
  refine (at_iload_n dc211_737 rfl).trans ?_
  refine (at_iconst (v := 1) dc211_738 rfl).trans ?_
  refine (at_iadd dc211_739).trans ?_
  refine (at_xald dc211_740 (pm_xS hg) i1).trans ?_
  refine (at_aload_n dc211_741 rfl).trans ?_
  refine (at_iload_n dc211_742 rfl).trans ?_
  refine (at_iconst (v := 2) dc211_743 rfl).trans ?_
  refine (at_iadd dc211_744).trans ?_
  refine (at_xald dc211_745 (pm_xS hg) i2).trans ?_
  refine (at_aload_n dc211_746 rfl).trans ?_
  refine (at_iload_n dc211_747 rfl).trans ?_
  refine (at_iconst (v := 3) dc211_748 rfl).trans ?_
  refine (at_iadd dc211_749).trans ?_
  refine (at_xald dc211_750 (pm_xS hg) i3).trans ?_
  refine (at_aload_n dc211_751 rfl).trans ?_
  refine (at_iload_n dc211_752 rfl).trans ?_
  refine (at_iconst (v := 4) dc211_753 rfl).trans ?_
  refine (at_iadd dc211_754).trans ?_
  refine (at_xald dc211_755 (pm_xS hg) i4).trans ?_
  exact at_inv dc211_756 mc211 lm7_89 rfl rfl (Nat.le_of_ble_eq_true rfl) (Or.inl ⟨(ly0 hL), by decide⟩)
theorem b211_759 {X : pm_X} {d : Nat} {x3 : Int32} {s0 : Int32} {g : pm_G} {iv : pm_V} (hL : pm_lay g) (hg : pm_xg g) (hX : X.1 < 2147483648) (i1 : vp_in ((x3 + 1)) X.1) (i2 : vp_in ((x3 + 2)) X.1) (i3 : vp_in ((x3 + 3)) X.1) (i4 : vp_in ((x3 + 4)) X.1) : pm_at X d 211 (759, [some (.ref 1300), some (.ref 0), some (.ref 32), some (.int x3)], [.int s0], g, iv) = pm_then X d 211 783 [some (.ref 1300), some (.ref 0), some (.ref 32), some (.int x3)] [.int s0] (pm_c X d 182 [.ref 32, .int (X.2 ((x3 + 1)).toNatClampNeg), .int (X.2 ((x3 + 2)).toNatClampNeg), .int (X.2 ((x3 + 3)).toNatClampNeg), .int (X.2 ((x3 + 4)).toNatClampNeg)] g iv) := by
  refine (at_aload_n dc211_759 rfl).trans ?_
  refine (at_aload_n dc211_760 rfl).trans ?_
  refine (at_iload_n dc211_761 rfl).trans ?_
  refine (at_iconst (v := 1) dc211_762 rfl).trans ?_
  refine (at_iadd dc211_763).trans ?_
  refine (at_xald dc211_764 (pm_xS hg) i1).trans ?_
  refine (at_aload_n dc211_765 rfl).trans ?_
  refine (at_iload_n dc211_766 rfl).trans ?_
  refine (at_iconst (v := 2) dc211_767 rfl).trans ?_
  refine (at_iadd dc211_768).trans ?_
  refine (at_xald dc211_769 (pm_xS hg) i2).trans ?_
  refine (at_aload_n dc211_770 rfl).trans ?_
  refine (at_iload_n dc211_771 rfl).trans ?_
  refine (at_iconst (v := 3) dc211_772 rfl).trans ?_
  refine (at_iadd dc211_773).trans ?_
  refine (at_xald dc211_774 (pm_xS hg) i3).trans ?_
  refine (at_aload_n dc211_775 rfl).trans ?_
  refine (at_iload_n dc211_776 rfl).trans ?_
  refine (at_iconst (v := 4) dc211_777 rfl).trans ?_
  refine (at_iadd dc211_778).trans ?_
  refine (at_xald dc211_779 (pm_xS hg) i4).trans ?_
  exact at_inv dc211_780 mc211 lm7_93 rfl rfl (Nat.le_of_ble_eq_true rfl) (Or.inl ⟨(ly32 hL), by decide⟩)
theorem b211_783 {X : pm_X} {d : Nat} {x3 : Int32} {s0 : Int32} {s1 : Int32} {g : pm_G} {iv : pm_V}  : pm_at X d 211 (783, [some (.ref 1300), some (.ref 0), some (.ref 32), some (.int x3)], [.int s0, .int s1], g, iv) = if s1 = s0 then pm_at X d 211 (1071, [some (.ref 1300), some (.ref 0), some (.ref 32), some (.int x3)], [], g, iv) else pm_at X d 211 (786, [some (.ref 1300), some (.ref 0), some (.ref 32), some (.int x3)], [], g, iv) := by
  exact at_icmp_eq (t := 1071) dc211_783 (by decide)
theorem b211_786 {X : pm_X} {d : Nat} {x3 : Int32} {g : pm_G} {iv : pm_V}  : pm_at X d 211 (786, [some (.ref 1300), some (.ref 0), some (.ref 32), some (.int x3)], [], g, iv) = some (some (.int 0), g, iv) := by
  refine (at_iconst (v := 0) dc211_786 rfl).trans ?_
  exact at_zret dc211_787 mr211 (by decide)
theorem b211_788 {X : pm_X} {d : Nat} {x3 : Int32} {g : pm_G} {iv : pm_V} (hL : pm_lay g) (hg : pm_xg g) (hX : X.1 < 2147483648) (i1 : vp_in ((x3 + 1)) X.1) : pm_at X d 211 (788, [some (.ref 1300), some (.ref 0), some (.ref 32), some (.int x3)], [], g, iv) = pm_then X d 211 797 [some (.ref 1300), some (.ref 0), some (.ref 32), some (.int x3)] [] (pm_c X d 108 [.ref 0, .int (X.2 ((x3 + 1)).toNatClampNeg)] g iv) := by
  refine (at_aload_n dc211_788 rfl).trans ?_
  refine (at_aload_n dc211_789 rfl).trans ?_
  refine (at_iload_n dc211_790 rfl).trans ?_
  refine (at_iconst (v := 1) dc211_791 rfl).trans ?_
  refine (at_iadd dc211_792).trans ?_
  refine (at_xald dc211_793 (pm_xS hg) i1).trans ?_
  exact at_inv dc211_794 mc211 lm7_94 rfl rfl (Nat.le_of_ble_eq_true rfl) (Or.inl ⟨(ly0 hL), by decide⟩)
theorem b211_797 {X : pm_X} {d : Nat} {x3 : Int32} {s0 : Int32} {g : pm_G} {iv : pm_V} (hL : pm_lay g) (hg : pm_xg g) (hX : X.1 < 2147483648) (i1 : vp_in ((x3 + 1)) X.1) : pm_at X d 211 (797, [some (.ref 1300), some (.ref 0), some (.ref 32), some (.int x3)], [.int s0], g, iv) = pm_then X d 211 806 [some (.ref 1300), some (.ref 0), some (.ref 32), some (.int x3)] [.int s0] (pm_c X d 183 [.ref 32, .int (X.2 ((x3 + 1)).toNatClampNeg)] g iv) := by
  refine (at_aload_n dc211_797 rfl).trans ?_
  refine (at_aload_n dc211_798 rfl).trans ?_
  refine (at_iload_n dc211_799 rfl).trans ?_
  refine (at_iconst (v := 1) dc211_800 rfl).trans ?_
  refine (at_iadd dc211_801).trans ?_
  refine (at_xald dc211_802 (pm_xS hg) i1).trans ?_
  exact at_inv dc211_803 mc211 lm7_97 rfl rfl (Nat.le_of_ble_eq_true rfl) (Or.inl ⟨(ly32 hL), by decide⟩)
theorem b211_806 {X : pm_X} {d : Nat} {x3 : Int32} {s0 : Int32} {s1 : Int32} {g : pm_G} {iv : pm_V}  : pm_at X d 211 (806, [some (.ref 1300), some (.ref 0), some (.ref 32), some (.int x3)], [.int s0, .int s1], g, iv) = if s1 = s0 then pm_at X d 211 (1071, [some (.ref 1300), some (.ref 0), some (.ref 32), some (.int x3)], [], g, iv) else pm_at X d 211 (809, [some (.ref 1300), some (.ref 0), some (.ref 32), some (.int x3)], [], g, iv) := by
  exact at_icmp_eq (t := 1071) dc211_806 (by decide)
theorem b211_809 {X : pm_X} {d : Nat} {x3 : Int32} {g : pm_G} {iv : pm_V}  : pm_at X d 211 (809, [some (.ref 1300), some (.ref 0), some (.ref 32), some (.int x3)], [], g, iv) = some (some (.int 0), g, iv) := by
  refine (at_iconst (v := 0) dc211_809 rfl).trans ?_
  exact at_zret dc211_810 mr211 (by decide)
theorem b211_811 {X : pm_X} {d : Nat} {x3 : Int32} {g : pm_G} {iv : pm_V} (hL : pm_lay g) (hg : pm_xg g) (hX : X.1 < 2147483648) (i1 : vp_in ((x3 + 1)) X.1) (i2 : vp_in ((x3 + 2)) X.1) (i3 : vp_in ((x3 + 3)) X.1) : pm_at X d 211 (811, [some (.ref 1300), some (.ref 0), some (.ref 32), some (.int x3)], [], g, iv) = pm_then X d 211 830 [some (.ref 1300), some (.ref 0), some (.ref 32), some (.int x3)] [] (pm_c X d 109 [.ref 0, .int (X.2 ((x3 + 1)).toNatClampNeg), .int (X.2 ((x3 + 2)).toNatClampNeg), .int (X.2 ((x3 + 3)).toNatClampNeg)] g iv) := by
  refine (at_aload_n dc211_811 rfl).trans ?_
  refine (at_aload_n dc211_812 rfl).trans ?_
  refine (at_iload_n dc211_813 rfl).trans ?_
  refine (at_iconst (v := 1) dc211_814 rfl).trans ?_
  refine (at_iadd dc211_815).trans ?_
  refine (at_xald dc211_816 (pm_xS hg) i1).trans ?_
  refine (at_aload_n dc211_817 rfl).trans ?_
  refine (at_iload_n dc211_818 rfl).trans ?_
  refine (at_iconst (v := 2) dc211_819 rfl).trans ?_
  refine (at_iadd dc211_820).trans ?_
  refine (at_xald dc211_821 (pm_xS hg) i2).trans ?_
  refine (at_aload_n dc211_822 rfl).trans ?_
  refine (at_iload_n dc211_823 rfl).trans ?_
  refine (at_iconst (v := 3) dc211_824 rfl).trans ?_
  refine (at_iadd dc211_825).trans ?_
  refine (at_xald dc211_826 (pm_xS hg) i3).trans ?_
  exact at_inv dc211_827 mc211 lm7_98 rfl rfl (Nat.le_of_ble_eq_true rfl) (Or.inl ⟨(ly0 hL), by decide⟩)
theorem b211_830 {X : pm_X} {d : Nat} {x3 : Int32} {s0 : Int32} {g : pm_G} {iv : pm_V} (hL : pm_lay g) (hg : pm_xg g) (hX : X.1 < 2147483648) (i1 : vp_in ((x3 + 1)) X.1) (i2 : vp_in ((x3 + 2)) X.1) (i3 : vp_in ((x3 + 3)) X.1) : pm_at X d 211 (830, [some (.ref 1300), some (.ref 0), some (.ref 32), some (.int x3)], [.int s0], g, iv) = pm_then X d 211 849 [some (.ref 1300), some (.ref 0), some (.ref 32), some (.int x3)] [.int s0] (pm_c X d 185 [.ref 32, .int (X.2 ((x3 + 1)).toNatClampNeg), .int (X.2 ((x3 + 2)).toNatClampNeg), .int (X.2 ((x3 + 3)).toNatClampNeg)] g iv) := by
  refine (at_aload_n dc211_830 rfl).trans ?_
  refine (at_aload_n dc211_831 rfl).trans ?_
  refine (at_iload_n dc211_832 rfl).trans ?_
  refine (at_iconst (v := 1) dc211_833 rfl).trans ?_
  refine (at_iadd dc211_834).trans ?_
  refine (at_xald dc211_835 (pm_xS hg) i1).trans ?_
  refine (at_aload_n dc211_836 rfl).trans ?_
  refine (at_iload_n dc211_837 rfl).trans ?_
  refine (at_iconst (v := 2) dc211_838 rfl).trans ?_
  refine (at_iadd dc211_839).trans ?_
  refine (at_xald dc211_840 (pm_xS hg) i2).trans ?_
  refine (at_aload_n dc211_841 rfl).trans ?_
  refine (at_iload_n dc211_842 rfl).trans ?_
  refine (at_iconst (v := 3) dc211_843 rfl).trans ?_
  refine (at_iadd dc211_844).trans ?_
  refine (at_xald dc211_845 (pm_xS hg) i3).trans ?_
  exact at_inv dc211_846 mc211 lm7_101 rfl rfl (Nat.le_of_ble_eq_true rfl) (Or.inl ⟨(ly32 hL), by decide⟩)
theorem b211_849 {X : pm_X} {d : Nat} {x3 : Int32} {s0 : Int32} {s1 : Int32} {g : pm_G} {iv : pm_V}  : pm_at X d 211 (849, [some (.ref 1300), some (.ref 0), some (.ref 32), some (.int x3)], [.int s0, .int s1], g, iv) = if s1 = s0 then pm_at X d 211 (1071, [some (.ref 1300), some (.ref 0), some (.ref 32), some (.int x3)], [], g, iv) else pm_at X d 211 (852, [some (.ref 1300), some (.ref 0), some (.ref 32), some (.int x3)], [], g, iv) := by
  exact at_icmp_eq (t := 1071) dc211_849 (by decide)
theorem b211_852 {X : pm_X} {d : Nat} {x3 : Int32} {g : pm_G} {iv : pm_V}  : pm_at X d 211 (852, [some (.ref 1300), some (.ref 0), some (.ref 32), some (.int x3)], [], g, iv) = some (some (.int 0), g, iv) := by
  refine (at_iconst (v := 0) dc211_852 rfl).trans ?_
  exact at_zret dc211_853 mr211 (by decide)
theorem b211_854 {X : pm_X} {d : Nat} {x3 : Int32} {g : pm_G} {iv : pm_V} (hL : pm_lay g) (hg : pm_xg g) (hX : X.1 < 2147483648) (i1 : vp_in ((x3 + 1)) X.1) : pm_at X d 211 (854, [some (.ref 1300), some (.ref 0), some (.ref 32), some (.int x3)], [], g, iv) = pm_then X d 211 863 [some (.ref 1300), some (.ref 0), some (.ref 32), some (.int x3)] [] (pm_c X d 110 [.ref 0, .int (X.2 ((x3 + 1)).toNatClampNeg)] g iv) := by
  refine (at_aload_n dc211_854 rfl).trans ?_
  refine (at_aload_n dc211_855 rfl).trans ?_
  refine (at_iload_n dc211_856 rfl).trans ?_
  refine (at_iconst (v := 1) dc211_857 rfl).trans ?_
  refine (at_iadd dc211_858).trans ?_
  refine (at_xald dc211_859 (pm_xS hg) i1).trans ?_
  exact at_inv dc211_860 mc211 lm7_102 rfl rfl (Nat.le_of_ble_eq_true rfl) (Or.inl ⟨(ly0 hL), by decide⟩)
theorem b211_863 {X : pm_X} {d : Nat} {x3 : Int32} {s0 : Int32} {g : pm_G} {iv : pm_V} (hL : pm_lay g) (hg : pm_xg g) (hX : X.1 < 2147483648) (i1 : vp_in ((x3 + 1)) X.1) : pm_at X d 211 (863, [some (.ref 1300), some (.ref 0), some (.ref 32), some (.int x3)], [.int s0], g, iv) = pm_then X d 211 872 [some (.ref 1300), some (.ref 0), some (.ref 32), some (.int x3)] [.int s0] (pm_c X d 186 [.ref 32, .int (X.2 ((x3 + 1)).toNatClampNeg)] g iv) := by
  refine (at_aload_n dc211_863 rfl).trans ?_
  refine (at_aload_n dc211_864 rfl).trans ?_
  refine (at_iload_n dc211_865 rfl).trans ?_
  refine (at_iconst (v := 1) dc211_866 rfl).trans ?_
  refine (at_iadd dc211_867).trans ?_
  refine (at_xald dc211_868 (pm_xS hg) i1).trans ?_
  exact at_inv dc211_869 mc211 lm7_105 rfl rfl (Nat.le_of_ble_eq_true rfl) (Or.inl ⟨(ly32 hL), by decide⟩)
theorem b211_872 {X : pm_X} {d : Nat} {x3 : Int32} {s0 : Int32} {s1 : Int32} {g : pm_G} {iv : pm_V}  : pm_at X d 211 (872, [some (.ref 1300), some (.ref 0), some (.ref 32), some (.int x3)], [.int s0, .int s1], g, iv) = if s1 = s0 then pm_at X d 211 (1071, [some (.ref 1300), some (.ref 0), some (.ref 32), some (.int x3)], [], g, iv) else pm_at X d 211 (875, [some (.ref 1300), some (.ref 0), some (.ref 32), some (.int x3)], [], g, iv) := by
  exact at_icmp_eq (t := 1071) dc211_872 (by decide)
theorem b211_875 {X : pm_X} {d : Nat} {x3 : Int32} {g : pm_G} {iv : pm_V}  : pm_at X d 211 (875, [some (.ref 1300), some (.ref 0), some (.ref 32), some (.int x3)], [], g, iv) = some (some (.int 0), g, iv) := by
  refine (at_iconst (v := 0) dc211_875 rfl).trans ?_
  exact at_zret dc211_876 mr211 (by decide)
theorem b211_877 {X : pm_X} {d : Nat} {x3 : Int32} {g : pm_G} {iv : pm_V} (hL : pm_lay g) (hg : pm_xg g) (hX : X.1 < 2147483648) (i1 : vp_in ((x3 + 1)) X.1) : pm_at X d 211 (877, [some (.ref 1300), some (.ref 0), some (.ref 32), some (.int x3)], [], g, iv) = pm_then X d 211 886 [some (.ref 1300), some (.ref 0), some (.ref 32), some (.int x3)] [] (pm_c X d 111 [.ref 0, .int (X.2 ((x3 + 1)).toNatClampNeg)] g iv) := by
  refine (at_aload_n dc211_877 rfl).trans ?_
  refine (at_aload_n dc211_878 rfl).trans ?_
  refine (at_iload_n dc211_879 rfl).trans ?_
  refine (at_iconst (v := 1) dc211_880 rfl).trans ?_
  refine (at_iadd dc211_881).trans ?_
  refine (at_xald dc211_882 (pm_xS hg) i1).trans ?_
  exact at_inv dc211_883 mc211 lm7_106 rfl rfl (Nat.le_of_ble_eq_true rfl) (Or.inl ⟨(ly0 hL), by decide⟩)
theorem b211_886 {X : pm_X} {d : Nat} {x3 : Int32} {s0 : Int32} {g : pm_G} {iv : pm_V} (hL : pm_lay g) (hg : pm_xg g) (hX : X.1 < 2147483648) (i1 : vp_in ((x3 + 1)) X.1) : pm_at X d 211 (886, [some (.ref 1300), some (.ref 0), some (.ref 32), some (.int x3)], [.int s0], g, iv) = pm_then X d 211 895 [some (.ref 1300), some (.ref 0), some (.ref 32), some (.int x3)] [.int s0] (pm_c X d 188 [.ref 32, .int (X.2 ((x3 + 1)).toNatClampNeg)] g iv) := by
  refine (at_aload_n dc211_886 rfl).trans ?_
  refine (at_aload_n dc211_887 rfl).trans ?_
  refine (at_iload_n dc211_888 rfl).trans ?_
  refine (at_iconst (v := 1) dc211_889 rfl).trans ?_
  refine (at_iadd dc211_890).trans ?_
  refine (at_xald dc211_891 (pm_xS hg) i1).trans ?_
  exact at_inv dc211_892 mc211 lm7_109 rfl rfl (Nat.le_of_ble_eq_true rfl) (Or.inl ⟨(ly32 hL), by decide⟩)
theorem b211_895 {X : pm_X} {d : Nat} {x3 : Int32} {s0 : Int32} {s1 : Int32} {g : pm_G} {iv : pm_V}  : pm_at X d 211 (895, [some (.ref 1300), some (.ref 0), some (.ref 32), some (.int x3)], [.int s0, .int s1], g, iv) = if s1 = s0 then pm_at X d 211 (1071, [some (.ref 1300), some (.ref 0), some (.ref 32), some (.int x3)], [], g, iv) else pm_at X d 211 (898, [some (.ref 1300), some (.ref 0), some (.ref 32), some (.int x3)], [], g, iv) := by
  exact at_icmp_eq (t := 1071) dc211_895 (by decide)
theorem b211_898 {X : pm_X} {d : Nat} {x3 : Int32} {g : pm_G} {iv : pm_V}  : pm_at X d 211 (898, [some (.ref 1300), some (.ref 0), some (.ref 32), some (.int x3)], [], g, iv) = some (some (.int 0), g, iv) := by
  refine (at_iconst (v := 0) dc211_898 rfl).trans ?_
  exact at_zret dc211_899 mr211 (by decide)
theorem b211_900 {X : pm_X} {d : Nat} {x3 : Int32} {g : pm_G} {iv : pm_V} (hL : pm_lay g) (hg : pm_xg g) (hX : X.1 < 2147483648) (i1 : vp_in ((x3 + 1)) X.1) : pm_at X d 211 (900, [some (.ref 1300), some (.ref 0), some (.ref 32), some (.int x3)], [], g, iv) = pm_then X d 211 909 [some (.ref 1300), some (.ref 0), some (.ref 32), some (.int x3)] [] (pm_c X d 112 [.ref 0, .int (X.2 ((x3 + 1)).toNatClampNeg)] g iv) := by
  refine (at_aload_n dc211_900 rfl).trans ?_
  refine (at_aload_n dc211_901 rfl).trans ?_
  refine (at_iload_n dc211_902 rfl).trans ?_
  refine (at_iconst (v := 1) dc211_903 rfl).trans ?_
  refine (at_iadd dc211_904).trans ?_
  refine (at_xald dc211_905 (pm_xS hg) i1).trans ?_
  exact at_inv dc211_906 mc211 lm7_110 rfl rfl (Nat.le_of_ble_eq_true rfl) (Or.inl ⟨(ly0 hL), by decide⟩)
theorem b211_909 {X : pm_X} {d : Nat} {x3 : Int32} {s0 : Int32} {g : pm_G} {iv : pm_V} (hL : pm_lay g) (hg : pm_xg g) (hX : X.1 < 2147483648) (i1 : vp_in ((x3 + 1)) X.1) : pm_at X d 211 (909, [some (.ref 1300), some (.ref 0), some (.ref 32), some (.int x3)], [.int s0], g, iv) = pm_then X d 211 918 [some (.ref 1300), some (.ref 0), some (.ref 32), some (.int x3)] [.int s0] (pm_c X d 189 [.ref 32, .int (X.2 ((x3 + 1)).toNatClampNeg)] g iv) := by
  refine (at_aload_n dc211_909 rfl).trans ?_
  refine (at_aload_n dc211_910 rfl).trans ?_
  refine (at_iload_n dc211_911 rfl).trans ?_
  refine (at_iconst (v := 1) dc211_912 rfl).trans ?_
  refine (at_iadd dc211_913).trans ?_
  refine (at_xald dc211_914 (pm_xS hg) i1).trans ?_
  exact at_inv dc211_915 mc211 lm7_113 rfl rfl (Nat.le_of_ble_eq_true rfl) (Or.inl ⟨(ly32 hL), by decide⟩)
theorem b211_918 {X : pm_X} {d : Nat} {x3 : Int32} {s0 : Int32} {s1 : Int32} {g : pm_G} {iv : pm_V}  : pm_at X d 211 (918, [some (.ref 1300), some (.ref 0), some (.ref 32), some (.int x3)], [.int s0, .int s1], g, iv) = if s1 = s0 then pm_at X d 211 (1071, [some (.ref 1300), some (.ref 0), some (.ref 32), some (.int x3)], [], g, iv) else pm_at X d 211 (921, [some (.ref 1300), some (.ref 0), some (.ref 32), some (.int x3)], [], g, iv) := by
  exact at_icmp_eq (t := 1071) dc211_918 (by decide)
theorem b211_921 {X : pm_X} {d : Nat} {x3 : Int32} {g : pm_G} {iv : pm_V}  : pm_at X d 211 (921, [some (.ref 1300), some (.ref 0), some (.ref 32), some (.int x3)], [], g, iv) = some (some (.int 0), g, iv) := by
  refine (at_iconst (v := 0) dc211_921 rfl).trans ?_
  exact at_zret dc211_922 mr211 (by decide)
theorem b211_923 {X : pm_X} {d : Nat} {x3 : Int32} {g : pm_G} {iv : pm_V} (hL : pm_lay g) (hg : pm_xg g) (hX : X.1 < 2147483648) (i1 : vp_in ((x3 + 1)) X.1) : pm_at X d 211 (923, [some (.ref 1300), some (.ref 0), some (.ref 32), some (.int x3)], [], g, iv) = pm_then X d 211 932 [some (.ref 1300), some (.ref 0), some (.ref 32), some (.int x3)] [] (pm_c X d 113 [.ref 0, .int (X.2 ((x3 + 1)).toNatClampNeg)] g iv) := by
  refine (at_aload_n dc211_923 rfl).trans ?_
  refine (at_aload_n dc211_924 rfl).trans ?_
  refine (at_iload_n dc211_925 rfl).trans ?_
  refine (at_iconst (v := 1) dc211_926 rfl).trans ?_
  refine (at_iadd dc211_927).trans ?_
  refine (at_xald dc211_928 (pm_xS hg) i1).trans ?_
  exact at_inv dc211_929 mc211 lm7_114 rfl rfl (Nat.le_of_ble_eq_true rfl) (Or.inl ⟨(ly0 hL), by decide⟩)
theorem b211_932 {X : pm_X} {d : Nat} {x3 : Int32} {s0 : Int32} {g : pm_G} {iv : pm_V} (hL : pm_lay g) (hg : pm_xg g) (hX : X.1 < 2147483648) (i1 : vp_in ((x3 + 1)) X.1) : pm_at X d 211 (932, [some (.ref 1300), some (.ref 0), some (.ref 32), some (.int x3)], [.int s0], g, iv) = pm_then X d 211 941 [some (.ref 1300), some (.ref 0), some (.ref 32), some (.int x3)] [.int s0] (pm_c X d 191 [.ref 32, .int (X.2 ((x3 + 1)).toNatClampNeg)] g iv) := by
  refine (at_aload_n dc211_932 rfl).trans ?_
  refine (at_aload_n dc211_933 rfl).trans ?_
  refine (at_iload_n dc211_934 rfl).trans ?_
  refine (at_iconst (v := 1) dc211_935 rfl).trans ?_
  refine (at_iadd dc211_936).trans ?_
  refine (at_xald dc211_937 (pm_xS hg) i1).trans ?_
  exact at_inv dc211_938 mc211 lm7_117 rfl rfl (Nat.le_of_ble_eq_true rfl) (Or.inl ⟨(ly32 hL), by decide⟩)
theorem b211_941 {X : pm_X} {d : Nat} {x3 : Int32} {s0 : Int32} {s1 : Int32} {g : pm_G} {iv : pm_V}  : pm_at X d 211 (941, [some (.ref 1300), some (.ref 0), some (.ref 32), some (.int x3)], [.int s0, .int s1], g, iv) = if s1 = s0 then pm_at X d 211 (1071, [some (.ref 1300), some (.ref 0), some (.ref 32), some (.int x3)], [], g, iv) else pm_at X d 211 (944, [some (.ref 1300), some (.ref 0), some (.ref 32), some (.int x3)], [], g, iv) := by
  exact at_icmp_eq (t := 1071) dc211_941 (by decide)
theorem b211_944 {X : pm_X} {d : Nat} {x3 : Int32} {g : pm_G} {iv : pm_V}  : pm_at X d 211 (944, [some (.ref 1300), some (.ref 0), some (.ref 32), some (.int x3)], [], g, iv) = some (some (.int 0), g, iv) := by
  refine (at_iconst (v := 0) dc211_944 rfl).trans ?_
  exact at_zret dc211_945 mr211 (by decide)
theorem b211_946 {X : pm_X} {d : Nat} {x3 : Int32} {g : pm_G} {iv : pm_V} (hL : pm_lay g) (hg : pm_xg g) (hX : X.1 < 2147483648) (i1 : vp_in ((x3 + 1)) X.1) (i2 : vp_in ((x3 + 2)) X.1) : pm_at X d 211 (946, [some (.ref 1300), some (.ref 0), some (.ref 32), some (.int x3)], [], g, iv) = pm_then X d 211 960 [some (.ref 1300), some (.ref 0), some (.ref 32), some (.int x3)] [] (pm_c X d 114 [.ref 0, .int (X.2 ((x3 + 1)).toNatClampNeg), .int (X.2 ((x3 + 2)).toNatClampNeg)] g iv) := by
  refine (at_aload_n dc211_946 rfl).trans ?_
  refine (at_aload_n dc211_947 rfl).trans ?_
  refine (at_iload_n dc211_948 rfl).trans ?_
  refine (at_iconst (v := 1) dc211_949 rfl).trans ?_
  refine (at_iadd dc211_950).trans ?_
  refine (at_xald dc211_951 (pm_xS hg) i1).trans ?_
  refine (at_aload_n dc211_952 rfl).trans ?_
  refine (at_iload_n dc211_953 rfl).trans ?_
  refine (at_iconst (v := 2) dc211_954 rfl).trans ?_
  refine (at_iadd dc211_955).trans ?_
  refine (at_xald dc211_956 (pm_xS hg) i2).trans ?_
  exact at_inv dc211_957 mc211 lm7_118 rfl rfl (Nat.le_of_ble_eq_true rfl) (Or.inl ⟨(ly0 hL), by decide⟩)
theorem b211_960 {X : pm_X} {d : Nat} {x3 : Int32} {s0 : Int32} {g : pm_G} {iv : pm_V} (hL : pm_lay g) (hg : pm_xg g) (hX : X.1 < 2147483648) (i1 : vp_in ((x3 + 1)) X.1) (i2 : vp_in ((x3 + 2)) X.1) : pm_at X d 211 (960, [some (.ref 1300), some (.ref 0), some (.ref 32), some (.int x3)], [.int s0], g, iv) = pm_then X d 211 974 [some (.ref 1300), some (.ref 0), some (.ref 32), some (.int x3)] [.int s0] (pm_c X d 192 [.ref 32, .int (X.2 ((x3 + 1)).toNatClampNeg), .int (X.2 ((x3 + 2)).toNatClampNeg)] g iv) := by
  refine (at_aload_n dc211_960 rfl).trans ?_
  refine (at_aload_n dc211_961 rfl).trans ?_
  refine (at_iload_n dc211_962 rfl).trans ?_
  refine (at_iconst (v := 1) dc211_963 rfl).trans ?_
  refine (at_iadd dc211_964).trans ?_
  refine (at_xald dc211_965 (pm_xS hg) i1).trans ?_
  refine (at_aload_n dc211_966 rfl).trans ?_
  refine (at_iload_n dc211_967 rfl).trans ?_
  refine (at_iconst (v := 2) dc211_968 rfl).trans ?_
  refine (at_iadd dc211_969).trans ?_
  refine (at_xald dc211_970 (pm_xS hg) i2).trans ?_
  exact at_inv dc211_971 mc211 lm7_121 rfl rfl (Nat.le_of_ble_eq_true rfl) (Or.inl ⟨(ly32 hL), by decide⟩)
theorem b211_974 {X : pm_X} {d : Nat} {x3 : Int32} {s0 : Int32} {s1 : Int32} {g : pm_G} {iv : pm_V}  : pm_at X d 211 (974, [some (.ref 1300), some (.ref 0), some (.ref 32), some (.int x3)], [.int s0, .int s1], g, iv) = if s1 = s0 then pm_at X d 211 (1071, [some (.ref 1300), some (.ref 0), some (.ref 32), some (.int x3)], [], g, iv) else pm_at X d 211 (977, [some (.ref 1300), some (.ref 0), some (.ref 32), some (.int x3)], [], g, iv) := by
  exact at_icmp_eq (t := 1071) dc211_974 (by decide)
theorem b211_977 {X : pm_X} {d : Nat} {x3 : Int32} {g : pm_G} {iv : pm_V}  : pm_at X d 211 (977, [some (.ref 1300), some (.ref 0), some (.ref 32), some (.int x3)], [], g, iv) = some (some (.int 0), g, iv) := by
  refine (at_iconst (v := 0) dc211_977 rfl).trans ?_
  exact at_zret dc211_978 mr211 (by decide)
theorem b211_979 {X : pm_X} {d : Nat} {x3 : Int32} {g : pm_G} {iv : pm_V} (hL : pm_lay g) (hg : pm_xg g) (hX : X.1 < 2147483648) (i1 : vp_in ((x3 + 1)) X.1) (i2 : vp_in ((x3 + 2)) X.1) : pm_at X d 211 (979, [some (.ref 1300), some (.ref 0), some (.ref 32), some (.int x3)], [], g, iv) = pm_then X d 211 993 [some (.ref 1300), some (.ref 0), some (.ref 32), some (.int x3)] [] (pm_c X d 115 [.ref 0, .int (X.2 ((x3 + 1)).toNatClampNeg), .int (X.2 ((x3 + 2)).toNatClampNeg)] g iv) := by
  refine (at_aload_n dc211_979 rfl).trans ?_
  refine (at_aload_n dc211_980 rfl).trans ?_
  refine (at_iload_n dc211_981 rfl).trans ?_
  refine (at_iconst (v := 1) dc211_982 rfl).trans ?_
  refine (at_iadd dc211_983).trans ?_
  refine (at_xald dc211_984 (pm_xS hg) i1).trans ?_
  refine (at_aload_n dc211_985 rfl).trans ?_
  refine (at_iload_n dc211_986 rfl).trans ?_
  refine (at_iconst (v := 2) dc211_987 rfl).trans ?_
  refine (at_iadd dc211_988).trans ?_
  refine (at_xald dc211_989 (pm_xS hg) i2).trans ?_
  exact at_inv dc211_990 mc211 lm7_122 rfl rfl (Nat.le_of_ble_eq_true rfl) (Or.inl ⟨(ly0 hL), by decide⟩)
theorem b211_993 {X : pm_X} {d : Nat} {x3 : Int32} {s0 : Int32} {g : pm_G} {iv : pm_V} (hL : pm_lay g) (hg : pm_xg g) (hX : X.1 < 2147483648) (i1 : vp_in ((x3 + 1)) X.1) (i2 : vp_in ((x3 + 2)) X.1) : pm_at X d 211 (993, [some (.ref 1300), some (.ref 0), some (.ref 32), some (.int x3)], [.int s0], g, iv) = pm_then X d 211 1007 [some (.ref 1300), some (.ref 0), some (.ref 32), some (.int x3)] [.int s0] (pm_c X d 198 [.ref 32, .int (X.2 ((x3 + 1)).toNatClampNeg), .int (X.2 ((x3 + 2)).toNatClampNeg)] g iv) := by
  refine (at_aload_n dc211_993 rfl).trans ?_
  refine (at_aload_n dc211_994 rfl).trans ?_
  refine (at_iload_n dc211_995 rfl).trans ?_
  refine (at_iconst (v := 1) dc211_996 rfl).trans ?_
  refine (at_iadd dc211_997).trans ?_
  refine (at_xald dc211_998 (pm_xS hg) i1).trans ?_
  refine (at_aload_n dc211_999 rfl).trans ?_
  refine (at_iload_n dc211_1000 rfl).trans ?_
  refine (at_iconst (v := 2) dc211_1001 rfl).trans ?_
  refine (at_iadd dc211_1002).trans ?_
  refine (at_xald dc211_1003 (pm_xS hg) i2).trans ?_
  exact at_inv dc211_1004 mc211 lm7_125 rfl rfl (Nat.le_of_ble_eq_true rfl) (Or.inl ⟨(ly32 hL), by decide⟩)
theorem b211_1007 {X : pm_X} {d : Nat} {x3 : Int32} {s0 : Int32} {s1 : Int32} {g : pm_G} {iv : pm_V}  : pm_at X d 211 (1007, [some (.ref 1300), some (.ref 0), some (.ref 32), some (.int x3)], [.int s0, .int s1], g, iv) = if s1 = s0 then pm_at X d 211 (1071, [some (.ref 1300), some (.ref 0), some (.ref 32), some (.int x3)], [], g, iv) else pm_at X d 211 (1010, [some (.ref 1300), some (.ref 0), some (.ref 32), some (.int x3)], [], g, iv) := by
  exact at_icmp_eq (t := 1071) dc211_1007 (by decide)
theorem b211_1010 {X : pm_X} {d : Nat} {x3 : Int32} {g : pm_G} {iv : pm_V}  : pm_at X d 211 (1010, [some (.ref 1300), some (.ref 0), some (.ref 32), some (.int x3)], [], g, iv) = some (some (.int 0), g, iv) := by
  refine (at_iconst (v := 0) dc211_1010 rfl).trans ?_
  exact at_zret dc211_1011 mr211 (by decide)
theorem b211_1012 {X : pm_X} {d : Nat} {x3 : Int32} {g : pm_G} {iv : pm_V} (hL : pm_lay g) (hg : pm_xg g) (hX : X.1 < 2147483648) (i1 : vp_in ((x3 + 1)) X.1) : pm_at X d 211 (1012, [some (.ref 1300), some (.ref 0), some (.ref 32), some (.int x3)], [], g, iv) = pm_then X d 211 1021 [some (.ref 1300), some (.ref 0), some (.ref 32), some (.int x3)] [] (pm_c X d 116 [.ref 0, .int (X.2 ((x3 + 1)).toNatClampNeg)] g iv) := by
  refine (at_aload_n dc211_1012 rfl).trans ?_
  refine (at_aload_n dc211_1013 rfl).trans ?_
  refine (at_iload_n dc211_1014 rfl).trans ?_
  refine (at_iconst (v := 1) dc211_1015 rfl).trans ?_
  refine (at_iadd dc211_1016).trans ?_
  refine (at_xald dc211_1017 (pm_xS hg) i1).trans ?_
  exact at_inv dc211_1018 mc211 lm7_126 rfl rfl (Nat.le_of_ble_eq_true rfl) (Or.inl ⟨(ly0 hL), by decide⟩)
theorem b211_1021 {X : pm_X} {d : Nat} {x3 : Int32} {s0 : Int32} {g : pm_G} {iv : pm_V} (hL : pm_lay g) (hg : pm_xg g) (hX : X.1 < 2147483648) (i1 : vp_in ((x3 + 1)) X.1) : pm_at X d 211 (1021, [some (.ref 1300), some (.ref 0), some (.ref 32), some (.int x3)], [.int s0], g, iv) = pm_then X d 211 1030 [some (.ref 1300), some (.ref 0), some (.ref 32), some (.int x3)] [.int s0] (pm_c X d 199 [.ref 32, .int (X.2 ((x3 + 1)).toNatClampNeg)] g iv) := by
  refine (at_aload_n dc211_1021 rfl).trans ?_
  refine (at_aload_n dc211_1022 rfl).trans ?_
  refine (at_iload_n dc211_1023 rfl).trans ?_
  refine (at_iconst (v := 1) dc211_1024 rfl).trans ?_
  refine (at_iadd dc211_1025).trans ?_
  refine (at_xald dc211_1026 (pm_xS hg) i1).trans ?_
  exact at_inv dc211_1027 mc211 lm7_129 rfl rfl (Nat.le_of_ble_eq_true rfl) (Or.inl ⟨(ly32 hL), by decide⟩)
theorem b211_1030 {X : pm_X} {d : Nat} {x3 : Int32} {s0 : Int32} {s1 : Int32} {g : pm_G} {iv : pm_V}  : pm_at X d 211 (1030, [some (.ref 1300), some (.ref 0), some (.ref 32), some (.int x3)], [.int s0, .int s1], g, iv) = if s1 = s0 then pm_at X d 211 (1071, [some (.ref 1300), some (.ref 0), some (.ref 32), some (.int x3)], [], g, iv) else pm_at X d 211 (1033, [some (.ref 1300), some (.ref 0), some (.ref 32), some (.int x3)], [], g, iv) := by
  exact at_icmp_eq (t := 1071) dc211_1030 (by decide)
theorem b211_1033 {X : pm_X} {d : Nat} {x3 : Int32} {g : pm_G} {iv : pm_V}  : pm_at X d 211 (1033, [some (.ref 1300), some (.ref 0), some (.ref 32), some (.int x3)], [], g, iv) = some (some (.int 0), g, iv) := by
  refine (at_iconst (v := 0) dc211_1033 rfl).trans ?_
  exact at_zret dc211_1034 mr211 (by decide)
theorem b211_1035 {X : pm_X} {d : Nat} {x3 : Int32} {g : pm_G} {iv : pm_V} (hL : pm_lay g) (hg : pm_xg g) (hX : X.1 < 2147483648) (i1 : vp_in ((x3 + 1)) X.1) : pm_at X d 211 (1035, [some (.ref 1300), some (.ref 0), some (.ref 32), some (.int x3)], [], g, iv) = pm_then X d 211 1044 [some (.ref 1300), some (.ref 0), some (.ref 32), some (.int x3)] [] (pm_c X d 117 [.ref 0, .int (X.2 ((x3 + 1)).toNatClampNeg)] g iv) := by
  refine (at_aload_n dc211_1035 rfl).trans ?_
  refine (at_aload_n dc211_1036 rfl).trans ?_
  refine (at_iload_n dc211_1037 rfl).trans ?_
  refine (at_iconst (v := 1) dc211_1038 rfl).trans ?_
  refine (at_iadd dc211_1039).trans ?_
  refine (at_xald dc211_1040 (pm_xS hg) i1).trans ?_
  exact at_inv dc211_1041 mc211 lm7_130 rfl rfl (Nat.le_of_ble_eq_true rfl) (Or.inl ⟨(ly0 hL), by decide⟩)
theorem b211_1044 {X : pm_X} {d : Nat} {x3 : Int32} {s0 : Int32} {g : pm_G} {iv : pm_V} (hL : pm_lay g) (hg : pm_xg g) (hX : X.1 < 2147483648) (i1 : vp_in ((x3 + 1)) X.1) : pm_at X d 211 (1044, [some (.ref 1300), some (.ref 0), some (.ref 32), some (.int x3)], [.int s0], g, iv) = pm_then X d 211 1053 [some (.ref 1300), some (.ref 0), some (.ref 32), some (.int x3)] [.int s0] (pm_c X d 200 [.ref 32, .int (X.2 ((x3 + 1)).toNatClampNeg)] g iv) := by
  refine (at_aload_n dc211_1044 rfl).trans ?_
  refine (at_aload_n dc211_1045 rfl).trans ?_
  refine (at_iload_n dc211_1046 rfl).trans ?_
  refine (at_iconst (v := 1) dc211_1047 rfl).trans ?_
  refine (at_iadd dc211_1048).trans ?_
  refine (at_xald dc211_1049 (pm_xS hg) i1).trans ?_
  exact at_inv dc211_1050 mc211 lm7_133 rfl rfl (Nat.le_of_ble_eq_true rfl) (Or.inl ⟨(ly32 hL), by decide⟩)
theorem b211_1053 {X : pm_X} {d : Nat} {x3 : Int32} {s0 : Int32} {s1 : Int32} {g : pm_G} {iv : pm_V}  : pm_at X d 211 (1053, [some (.ref 1300), some (.ref 0), some (.ref 32), some (.int x3)], [.int s0, .int s1], g, iv) = if s1 = s0 then pm_at X d 211 (1071, [some (.ref 1300), some (.ref 0), some (.ref 32), some (.int x3)], [], g, iv) else pm_at X d 211 (1056, [some (.ref 1300), some (.ref 0), some (.ref 32), some (.int x3)], [], g, iv) := by
  exact at_icmp_eq (t := 1071) dc211_1053 (by decide)
theorem b211_1056 {X : pm_X} {d : Nat} {x3 : Int32} {g : pm_G} {iv : pm_V}  : pm_at X d 211 (1056, [some (.ref 1300), some (.ref 0), some (.ref 32), some (.int x3)], [], g, iv) = some (some (.int 0), g, iv) := by
  refine (at_iconst (v := 0) dc211_1056 rfl).trans ?_
  exact at_zret dc211_1057 mr211 (by decide)
theorem b211_1058 {X : pm_X} {d : Nat} {x3 : Int32} {g : pm_G} {iv : pm_V} (hL : pm_lay g) : pm_at X d 211 (1058, [some (.ref 1300), some (.ref 0), some (.ref 32), some (.int x3)], [], g, iv) = pm_then X d 211 1062 [some (.ref 1300), some (.ref 0), some (.ref 32), some (.int x3)] [] (pm_c X d 118 [.ref 0] g iv) := by
  refine (at_aload_n dc211_1058 rfl).trans ?_
  exact at_inv dc211_1059 mc211 lm7_134 rfl rfl (Nat.le_of_ble_eq_true rfl) (Or.inl ⟨(ly0 hL), by decide⟩)
theorem b211_1062 {X : pm_X} {d : Nat} {x3 : Int32} {s0 : Int32} {g : pm_G} {iv : pm_V} (hL : pm_lay g) : pm_at X d 211 (1062, [some (.ref 1300), some (.ref 0), some (.ref 32), some (.int x3)], [.int s0], g, iv) = pm_then X d 211 1066 [some (.ref 1300), some (.ref 0), some (.ref 32), some (.int x3)] [.int s0] (pm_c X d 201 [.ref 32] g iv) := by
  refine (at_aload_n dc211_1062 rfl).trans ?_
  exact at_inv dc211_1063 mc211 lm7_137 rfl rfl (Nat.le_of_ble_eq_true rfl) (Or.inl ⟨(ly32 hL), by decide⟩)
theorem b211_1066 {X : pm_X} {d : Nat} {x3 : Int32} {s0 : Int32} {s1 : Int32} {g : pm_G} {iv : pm_V}  : pm_at X d 211 (1066, [some (.ref 1300), some (.ref 0), some (.ref 32), some (.int x3)], [.int s0, .int s1], g, iv) = if s1 = s0 then pm_at X d 211 (1071, [some (.ref 1300), some (.ref 0), some (.ref 32), some (.int x3)], [], g, iv) else pm_at X d 211 (1069, [some (.ref 1300), some (.ref 0), some (.ref 32), some (.int x3)], [], g, iv) := by
  exact at_icmp_eq (t := 1071) dc211_1066 (by decide)
theorem b211_1069 {X : pm_X} {d : Nat} {x3 : Int32} {g : pm_G} {iv : pm_V}  : pm_at X d 211 (1069, [some (.ref 1300), some (.ref 0), some (.ref 32), some (.int x3)], [], g, iv) = some (some (.int 0), g, iv) := by
  refine (at_iconst (v := 0) dc211_1069 rfl).trans ?_
  exact at_zret dc211_1070 mr211 (by decide)
theorem b211_1071 {X : pm_X} {d : Nat} {x3 : Int32} {g : pm_G} {iv : pm_V}  : pm_at X d 211 (1071, [some (.ref 1300), some (.ref 0), some (.ref 32), some (.int x3)], [], g, iv) = pm_at X d 211 (18, [some (.ref 1300), some (.ref 0), some (.ref 32), some (.int (x3 + 6))], [], g, iv) := by
  refine (at_iinc (v := 6) dc211_1071 rfl (by decide) rfl).trans ?_
  refine (at_goto (t := 18) dc211_1074 (by decide)).trans ?_
  rfl
theorem b211_1077 {X : pm_X} {d : Nat} {x3 : Int32} {g : pm_G} {iv : pm_V}  : pm_at X d 211 (1077, [some (.ref 1300), some (.ref 0), some (.ref 32), some (.int x3)], [], g, iv) = some (some (.int 1), g, iv) := by
  refine (at_iconst (v := 1) dc211_1077 rfl).trans ?_
  exact at_zret dc211_1078 mr211 (by decide)
