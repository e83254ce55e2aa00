theorem d_L_law_215 : decode code 215 = .ok (.iconst 0, 1) := by decide +kernel
theorem d_L_law_216 : decode code 216 = .ok (.ireturn, 1) := by decide +kernel
theorem d_L_law_217 : decode code 217 = .ok (.aload_n 1, 1) := by decide +kernel
theorem d_L_law_218 : decode code 218 = .ok (.aload_n 0, 1) := by decide +kernel
theorem d_L_law_219 : decode code 219 = .ok (.iload_n 3, 1) := by decide +kernel
theorem d_L_law_220 : decode code 220 = .ok (.iconst 1, 1) := by decide +kernel
theorem d_L_law_221 : decode code 221 = .ok (.iadd, 1) := by decide +kernel
theorem d_L_law_222 : decode code 222 = .ok (.iaload, 1) := by decide +kernel
theorem d_L_law_223 : decode code 223 = .ok (.i2l, 1) := by decide +kernel
theorem d_L_law_224 : decode code 224 = .ok (.bipush 32, 2) := by decide +kernel
theorem d_L_law_226 : decode code 226 = .ok (.lshl, 1) := by decide +kernel
theorem d_L_law_227 : decode code 227 = .ok (.aload_n 0, 1) := by decide +kernel
theorem d_L_law_228 : decode code 228 = .ok (.iload_n 3, 1) := by decide +kernel
theorem d_L_law_229 : decode code 229 = .ok (.iconst 2, 1) := by decide +kernel
theorem d_L_law_230 : decode code 230 = .ok (.iadd, 1) := by decide +kernel
theorem d_L_law_231 : decode code 231 = .ok (.iaload, 1) := by decide +kernel
theorem d_L_law_232 : decode code 232 = .ok (.i2l, 1) := by decide +kernel
theorem d_L_law_233 : decode code 233 = .ok (.ldc2_w 36, 3) := by decide +kernel
theorem d_L_law_236 : decode code 236 = .ok (.land, 1) := by decide +kernel
theorem d_L_law_237 : decode code 237 = .ok (.lor, 1) := by decide +kernel
theorem d_L_law_238 : decode code 238 = .ok (.invokevirtual 38, 3) := by decide +kernel
theorem d_L_law_241 : decode code 241 = .ok (.aload_n 2, 1) := by decide +kernel
theorem d_L_law_242 : decode code 242 = .ok (.aload_n 0, 1) := by decide +kernel
theorem d_L_law_243 : decode code 243 = .ok (.iload_n 3, 1) := by decide +kernel
theorem d_L_law_244 : decode code 244 = .ok (.iconst 1, 1) := by decide +kernel
theorem d_L_law_245 : decode code 245 = .ok (.iadd, 1) := by decide +kernel
theorem d_L_law_246 : decode code 246 = .ok (.iaload, 1) := by decide +kernel
theorem d_L_law_247 : decode code 247 = .ok (.i2l, 1) := by decide +kernel
theorem d_L_law_248 : decode code 248 = .ok (.bipush 32, 2) := by decide +kernel
theorem d_L_law_250 : decode code 250 = .ok (.lshl, 1) := by decide +kernel
theorem d_L_law_251 : decode code 251 = .ok (.aload_n 0, 1) := by decide +kernel
theorem d_L_law_252 : decode code 252 = .ok (.iload_n 3, 1) := by decide +kernel
theorem d_L_law_253 : decode code 253 = .ok (.iconst 2, 1) := by decide +kernel
theorem d_L_law_254 : decode code 254 = .ok (.iadd, 1) := by decide +kernel
theorem d_L_law_255 : decode code 255 = .ok (.iaload, 1) := by decide +kernel
theorem d_L_law_256 : decode code 256 = .ok (.i2l, 1) := by decide +kernel
theorem d_L_law_257 : decode code 257 = .ok (.ldc2_w 36, 3) := by decide +kernel
theorem d_L_law_260 : decode code 260 = .ok (.land, 1) := by decide +kernel
theorem d_L_law_261 : decode code 261 = .ok (.lor, 1) := by decide +kernel
theorem d_L_law_262 : decode code 262 = .ok (.invokevirtual 42, 3) := by decide +kernel
theorem d_L_law_265 : decode code 265 = .ok (.goto 494, 3) := by decide +kernel
theorem d_L_law_268 : decode code 268 = .ok (.aload_n 1, 1) := by decide +kernel
theorem d_L_law_269 : decode code 269 = .ok (.aload_n 0, 1) := by decide +kernel
theorem d_L_law_270 : decode code 270 = .ok (.iload_n 3, 1) := by decide +kernel
theorem d_L_law_271 : decode code 271 = .ok (.iconst 1, 1) := by decide +kernel
theorem d_L_law_272 : decode code 272 = .ok (.iadd, 1) := by decide +kernel
theorem d_L_law_273 : decode code 273 = .ok (.iaload, 1) := by decide +kernel
theorem d_L_law_274 : decode code 274 = .ok (.invokevirtual 43, 3) := by decide +kernel
theorem d_L_law_277 : decode code 277 = .ok (.aload_n 2, 1) := by decide +kernel
theorem d_L_law_278 : decode code 278 = .ok (.aload_n 0, 1) := by decide +kernel
theorem d_L_law_279 : decode code 279 = .ok (.iload_n 3, 1) := by decide +kernel
theorem d_L_law_280 : decode code 280 = .ok (.iconst 1, 1) := by decide +kernel
theorem d_L_law_281 : decode code 281 = .ok (.iadd, 1) := by decide +kernel
theorem d_L_law_282 : decode code 282 = .ok (.iaload, 1) := by decide +kernel
theorem d_L_law_283 : decode code 283 = .ok (.invokevirtual 47, 3) := by decide +kernel
theorem d_L_law_286 : decode code 286 = .ok (.if_icmp .eq 473, 3) := by decide +kernel
theorem d_L_law_289 : decode code 289 = .ok (.iconst 0, 1) := by decide +kernel
theorem d_L_law_290 : decode code 290 = .ok (.ireturn, 1) := by decide +kernel
theorem d_L_law_291 : decode code 291 = .ok (.aload_n 1, 1) := by decide +kernel
theorem d_L_law_292 : decode code 292 = .ok (.invokevirtual 48, 3) := by decide +kernel
theorem d_L_law_295 : decode code 295 = .ok (.aload_n 2, 1) := by decide +kernel
theorem d_L_law_296 : decode code 296 = .ok (.invokevirtual 52, 3) := by decide +kernel
theorem d_L_law_299 : decode code 299 = .ok (.if_icmp .eq 460, 3) := by decide +kernel
theorem d_L_law_302 : decode code 302 = .ok (.iconst 0, 1) := by decide +kernel
theorem d_L_law_303 : decode code 303 = .ok (.ireturn, 1) := by decide +kernel
theorem d_L_law_304 : decode code 304 = .ok (.aload_n 1, 1) := by decide +kernel
theorem d_L_law_305 : decode code 305 = .ok (.aload_n 0, 1) := by decide +kernel
theorem d_L_law_306 : decode code 306 = .ok (.iload_n 3, 1) := by decide +kernel
theorem d_L_law_307 : decode code 307 = .ok (.iconst 1, 1) := by decide +kernel
theorem d_L_law_308 : decode code 308 = .ok (.iadd, 1) := by decide +kernel
theorem d_L_law_309 : decode code 309 = .ok (.iaload, 1) := by decide +kernel
theorem d_L_law_310 : decode code 310 = .ok (.invokevirtual 53, 3) := by decide +kernel
theorem d_L_law_313 : decode code 313 = .ok (.aload_n 2, 1) := by decide +kernel
theorem d_L_law_314 : decode code 314 = .ok (.aload_n 0, 1) := by decide +kernel
theorem d_L_law_315 : decode code 315 = .ok (.iload_n 3, 1) := by decide +kernel
theorem d_L_law_316 : decode code 316 = .ok (.iconst 1, 1) := by decide +kernel
theorem d_L_law_317 : decode code 317 = .ok (.iadd, 1) := by decide +kernel
theorem d_L_law_318 : decode code 318 = .ok (.iaload, 1) := by decide +kernel
theorem d_L_law_319 : decode code 319 = .ok (.invokevirtual 57, 3) := by decide +kernel
theorem d_L_law_322 : decode code 322 = .ok (.if_icmp .eq 437, 3) := by decide +kernel
theorem d_L_law_325 : decode code 325 = .ok (.iconst 0, 1) := by decide +kernel
theorem d_L_law_326 : decode code 326 = .ok (.ireturn, 1) := by decide +kernel
theorem d_L_law_327 : decode code 327 = .ok (.aload_n 1, 1) := by decide +kernel
theorem d_L_law_328 : decode code 328 = .ok (.invokevirtual 58, 3) := by decide +kernel
theorem d_L_law_331 : decode code 331 = .ok (.aload_n 2, 1) := by decide +kernel
theorem d_L_law_332 : decode code 332 = .ok (.invokevirtual 61, 3) := by decide +kernel
theorem d_L_law_335 : decode code 335 = .ok (.if_icmp .eq 424, 3) := by decide +kernel
theorem d_L_law_338 : decode code 338 = .ok (.iconst 0, 1) := by decide +kernel
theorem d_L_law_339 : decode code 339 = .ok (.ireturn, 1) := by decide +kernel
theorem d_L_law_340 : decode code 340 = .ok (.aload_n 1, 1) := by decide +kernel
theorem d_L_law_341 : decode code 341 = .ok (.aload_n 0, 1) := by decide +kernel
theorem d_L_law_342 : decode code 342 = .ok (.iload_n 3, 1) := by decide +kernel
theorem d_L_law_343 : decode code 343 = .ok (.iconst 1, 1) := by decide +kernel
theorem d_L_law_344 : decode code 344 = .ok (.iadd, 1) := by decide +kernel
theorem d_L_law_345 : decode code 345 = .ok (.iaload, 1) := by decide +kernel
theorem d_L_law_346 : decode code 346 = .ok (.aload_n 0, 1) := by decide +kernel
theorem d_L_law_347 : decode code 347 = .ok (.iload_n 3, 1) := by decide +kernel
theorem d_L_law_348 : decode code 348 = .ok (.iconst 2, 1) := by decide +kernel
theorem d_L_law_349 : decode code 349 = .ok (.iadd, 1) := by decide +kernel
theorem d_L_law_350 : decode code 350 = .ok (.iaload, 1) := by decide +kernel
theorem d_L_law_351 : decode code 351 = .ok (.aload_n 0, 1) := by decide +kernel
theorem d_L_law_352 : decode code 352 = .ok (.iload_n 3, 1) := by decide +kernel
theorem d_L_law_353 : decode code 353 = .ok (.iconst 3, 1) := by decide +kernel
theorem d_L_law_354 : decode code 354 = .ok (.iadd, 1) := by decide +kernel
theorem d_L_law_355 : decode code 355 = .ok (.iaload, 1) := by decide +kernel
theorem d_L_law_356 : decode code 356 = .ok (.i2l, 1) := by decide +kernel
theorem d_L_law_357 : decode code 357 = .ok (.bipush 32, 2) := by decide +kernel
