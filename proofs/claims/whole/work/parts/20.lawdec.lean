set_option maxHeartbeats 4000000 in
theorem lk_11_13 : zmx 11 13 = some (11, 1) := by decide +kernel
theorem lk_11_17 : zmx 11 17 = some (145, 1) := by decide +kernel
theorem lk_11_18 : zmx 11 18 = some (15, 1) := by decide +kernel
theorem lk_11_22 : zmx 11 22 = some (147, 1) := by decide +kernel
theorem lk_11_23 : zmx 11 23 = some (16, 1) := by decide +kernel
theorem lk_11_26 : zmx 11 26 = some (148, 1) := by decide +kernel
theorem lk_11_27 : zmx 11 27 = some (43, 1) := by decide +kernel
theorem lk_11_30 : zmx 11 30 = some (160, 1) := by decide +kernel
theorem lk_11_31 : zmx 11 31 = some (47, 1) := by decide +kernel
theorem lk_11_35 : zmx 11 35 = some (166, 1) := by decide +kernel
theorem lk_11_36 : zmx 11 36 = some (52, 1) := by decide +kernel
theorem lk_11_39 : zmx 11 39 = some (169, 1) := by decide +kernel
theorem lk_11_40 : zmx 11 40 = some (56, 1) := by decide +kernel
theorem lk_11_43 : zmx 11 43 = some (172, 1) := by decide +kernel
theorem lk_11_44 : zmx 11 44 = some (68, 1) := by decide +kernel
theorem lk_11_47 : zmx 11 47 = some (180, 1) := by decide +kernel
theorem lk_11_48 : zmx 11 48 = some (70, 1) := by decide +kernel
theorem lk_11_51 : zmx 11 51 = some (181, 1) := by decide +kernel
theorem lk_11_52 : zmx 11 52 = some (71, 1) := by decide +kernel
theorem lk_11_55 : zmx 11 55 = some (182, 1) := by decide +kernel
theorem lk_11_56 : zmx 11 56 = some (72, 1) := by decide +kernel
theorem lk_11_59 : zmx 11 59 = some (183, 1) := by decide +kernel
theorem lk_11_60 : zmx 11 60 = some (73, 1) := by decide +kernel
theorem lk_11_63 : zmx 11 63 = some (184, 1) := by decide +kernel
theorem lk_11_64 : zmx 11 64 = some (75, 1) := by decide +kernel
theorem lk_11_67 : zmx 11 67 = some (187, 1) := by decide +kernel
theorem lk_11_68 : zmx 11 68 = some (85, 1) := by decide +kernel
theorem lk_11_71 : zmx 11 71 = some (191, 1) := by decide +kernel
theorem lk_11_72 : zmx 11 72 = some (87, 1) := by decide +kernel
theorem lk_11_76 : zmx 11 76 = some (193, 1) := by decide +kernel
theorem lk_11_77 : zmx 11 77 = some (89, 1) := by decide +kernel
theorem lk_11_81 : zmx 11 81 = some (195, 1) := by decide +kernel
theorem lk_11_82 : zmx 11 82 = some (92, 1) := by decide +kernel
theorem lk_11_85 : zmx 11 85 = some (196, 1) := by decide +kernel
theorem lk_11_86 : zmx 11 86 = some (93, 1) := by decide +kernel
theorem lk_11_89 : zmx 11 89 = some (197, 1) := by decide +kernel
theorem lk_11_90 : zmx 11 90 = some (95, 1) := by decide +kernel
theorem lk_11_93 : zmx 11 93 = some (198, 1) := by decide +kernel
theorem lk_11_94 : zmx 11 94 = some (97, 1) := by decide +kernel
theorem lk_11_97 : zmx 11 97 = some (199, 1) := by decide +kernel
theorem lk_11_98 : zmx 11 98 = some (99, 1) := by decide +kernel
theorem lk_11_101 : zmx 11 101 = some (200, 1) := by decide +kernel
theorem lk_11_102 : zmx 11 102 = some (108, 1) := by decide +kernel
theorem lk_11_105 : zmx 11 105 = some (207, 1) := by decide +kernel
theorem lk_11_106 : zmx 11 106 = some (109, 1) := by decide +kernel
theorem lk_11_109 : zmx 11 109 = some (208, 1) := by decide +kernel
theorem lk_11_110 : zmx 11 110 = some (113, 1) := by decide +kernel
theorem lk_11_113 : zmx 11 113 = some (212, 1) := by decide +kernel
theorem lk_11_114 : zmx 11 114 = some (118, 1) := by decide +kernel
theorem lk_11_117 : zmx 11 117 = some (214, 1) := by decide +kernel
theorem lk_11_118 : zmx 11 118 = some (121, 1) := by decide +kernel
theorem lk_11_121 : zmx 11 121 = some (215, 1) := by decide +kernel
theorem lk_11_122 : zmx 11 122 = some (122, 1) := by decide +kernel
theorem lk_11_125 : zmx 11 125 = some (216, 1) := by decide +kernel
theorem lk_11_126 : zmx 11 126 = some (123, 1) := by decide +kernel
theorem lk_11_129 : zmx 11 129 = some (218, 1) := by decide +kernel
theorem lk_11_130 : zmx 11 130 = some (129, 1) := by decide +kernel
theorem lk_11_133 : zmx 11 133 = some (220, 1) := by decide +kernel
theorem lk_11_134 : zmx 11 134 = some (133, 1) := by decide +kernel
theorem lk_11_137 : zmx 11 137 = some (222, 1) := by decide +kernel
theorem lk_11_138 : zmx 11 138 = some (135, 1) := by decide +kernel
theorem lk_11_141 : zmx 11 141 = some (224, 1) := by decide +kernel
theorem lk_11_142 : zmx 11 142 = some (136, 1) := by decide +kernel
theorem lk_11_145 : zmx 11 145 = some (225, 1) := by decide +kernel
theorem lk_11_146 : zmx 11 146 = some (138, 1) := by decide +kernel
theorem lk_11_149 : zmx 11 149 = some (226, 1) := by decide +kernel
theorem lk_11_150 : zmx 11 150 = some (140, 1) := by decide +kernel
theorem lk_11_153 : zmx 11 153 = some (228, 1) := by decide +kernel
theorem lk_11_154 : zmx 11 154 = some (142, 1) := by decide +kernel
theorem lk_11_157 : zmx 11 157 = some (230, 1) := by decide +kernel
theorem kL_1033 : decode zlawM.2.1 1033 = .ok (.iinc 3 5, 3) := by decide +kernel
theorem kL_1036 : decode zlawM.2.1 1036 = .ok (.goto (-1018), 3) := by decide +kernel
theorem kL_18 : decode zlawM.2.1 18 = .ok (.iload_n 3, 1) := by decide +kernel
theorem kL_19 : decode zlawM.2.1 19 = .ok (.aload_n 0, 1) := by decide +kernel
theorem kL_20 : decode zlawM.2.1 20 = .ok (.arraylength, 1) := by decide +kernel
theorem kL_21 : decode zlawM.2.1 21 = .ok (.iconst 5, 1) := by decide +kernel
theorem kL_22 : decode zlawM.2.1 22 = .ok (.isub, 1) := by decide +kernel
theorem kL_23 : decode zlawM.2.1 23 = .ok (.if_icmp .gt 1016, 3) := by decide +kernel
theorem kL_1039 : decode zlawM.2.1 1039 = .ok (.iconst 1, 1) := by decide +kernel
theorem kL_1040 : decode zlawM.2.1 1040 = .ok (.ireturn, 1) := by decide +kernel
theorem kL_26 : decode zlawM.2.1 26 = .ok (.aload_n 0, 1) := by decide +kernel
theorem kL_27 : decode zlawM.2.1 27 = .ok (.iload_n 3, 1) := by decide +kernel
theorem kL_28 : decode zlawM.2.1 28 = .ok (.iaload, 1) := by decide +kernel
theorem kL_29 : decode zlawM.2.1 29 = .ok (.bipush 63, 2) := by decide +kernel
theorem kL_31 : decode zlawM.2.1 31 = .ok (.iand, 1) := by decide +kernel
theorem kL_32 : decode zlawM.2.1 32 = .ok (.tableswitch 1001 0 34 #[156, 179, 192, 205, 218, 251, 284, 317, 340, 353, 376, 409, 422, 445, 458, 511, 554, 587, 600, 623, 646, 669, 682, 715, 748, 761, 774, 817, 850, 883, 906, 919, 942, 965, 978], 156) := by decide +kernel
theorem kL_188 : decode zlawM.2.1 188 = .ok (.aload_n 1, 1) := by decide +kernel
theorem kL_189 : decode zlawM.2.1 189 = .ok (.aload_n 0, 1) := by decide +kernel
theorem kL_190 : decode zlawM.2.1 190 = .ok (.iload_n 3, 1) := by decide +kernel
theorem kL_191 : decode zlawM.2.1 191 = .ok (.iconst 1, 1) := by decide +kernel
theorem kL_192 : decode zlawM.2.1 192 = .ok (.iadd, 1) := by decide +kernel
theorem kL_193 : decode zlawM.2.1 193 = .ok (.iaload, 1) := by decide +kernel
theorem kL_194 : decode zlawM.2.1 194 = .ok (.invokevirtual 13, 3) := by decide +kernel
theorem kL_197 : decode zlawM.2.1 197 = .ok (.aload_n 2, 1) := by decide +kernel
theorem kL_198 : decode zlawM.2.1 198 = .ok (.aload_n 0, 1) := by decide +kernel
theorem kL_199 : decode zlawM.2.1 199 = .ok (.iload_n 3, 1) := by decide +kernel
theorem kL_200 : decode zlawM.2.1 200 = .ok (.iconst 1, 1) := by decide +kernel
theorem kL_201 : decode zlawM.2.1 201 = .ok (.iadd, 1) := by decide +kernel
theorem kL_202 : decode zlawM.2.1 202 = .ok (.iaload, 1) := by decide +kernel
theorem kL_203 : decode zlawM.2.1 203 = .ok (.invokevirtual 17, 3) := by decide +kernel
theorem kL_206 : decode zlawM.2.1 206 = .ok (.if_icmp .eq 827, 3) := by decide +kernel
theorem kL_209 : decode zlawM.2.1 209 = .ok (.iconst 0, 1) := by decide +kernel
theorem kL_210 : decode zlawM.2.1 210 = .ok (.ireturn, 1) := by decide +kernel
theorem kL_211 : decode zlawM.2.1 211 = .ok (.aload_n 1, 1) := by decide +kernel
theorem kL_212 : decode zlawM.2.1 212 = .ok (.invokevirtual 18, 3) := by decide +kernel
theorem kL_215 : decode zlawM.2.1 215 = .ok (.aload_n 2, 1) := by decide +kernel
theorem kL_216 : decode zlawM.2.1 216 = .ok (.invokevirtual 22, 3) := by decide +kernel
theorem kL_219 : decode zlawM.2.1 219 = .ok (.if_icmp .eq 814, 3) := by decide +kernel
theorem kL_222 : decode zlawM.2.1 222 = .ok (.iconst 0, 1) := by decide +kernel
theorem kL_223 : decode zlawM.2.1 223 = .ok (.ireturn, 1) := by decide +kernel
theorem kL_224 : decode zlawM.2.1 224 = .ok (.aload_n 1, 1) := by decide +kernel
theorem kL_225 : decode zlawM.2.1 225 = .ok (.invokevirtual 23, 3) := by decide +kernel
theorem kL_228 : decode zlawM.2.1 228 = .ok (.aload_n 2, 1) := by decide +kernel
theorem kL_229 : decode zlawM.2.1 229 = .ok (.invokevirtual 26, 3) := by decide +kernel
theorem kL_232 : decode zlawM.2.1 232 = .ok (.if_icmp .eq 801, 3) := by decide +kernel
theorem kL_235 : decode zlawM.2.1 235 = .ok (.iconst 0, 1) := by decide +kernel
theorem kL_236 : decode zlawM.2.1 236 = .ok (.ireturn, 1) := by decide +kernel
theorem kL_237 : decode zlawM.2.1 237 = .ok (.aload_n 1, 1) := by decide +kernel
theorem kL_238 : decode zlawM.2.1 238 = .ok (.invokevirtual 27, 3) := by decide +kernel
theorem kL_241 : decode zlawM.2.1 241 = .ok (.aload_n 2, 1) := by decide +kernel
theorem kL_242 : decode zlawM.2.1 242 = .ok (.invokevirtual 30, 3) := by decide +kernel
theorem kL_245 : decode zlawM.2.1 245 = .ok (.if_icmp .eq 788, 3) := by decide +kernel
theorem kL_248 : decode zlawM.2.1 248 = .ok (.iconst 0, 1) := by decide +kernel
theorem kL_249 : decode zlawM.2.1 249 = .ok (.ireturn, 1) := by decide +kernel
theorem kL_250 : decode zlawM.2.1 250 = .ok (.aload_n 1, 1) := by decide +kernel
theorem kL_251 : decode zlawM.2.1 251 = .ok (.aload_n 0, 1) := by decide +kernel
theorem kL_252 : decode zlawM.2.1 252 = .ok (.iload_n 3, 1) := by decide +kernel
theorem kL_253 : decode zlawM.2.1 253 = .ok (.iconst 1, 1) := by decide +kernel
theorem kL_254 : decode zlawM.2.1 254 = .ok (.iadd, 1) := by decide +kernel
theorem kL_255 : decode zlawM.2.1 255 = .ok (.iaload, 1) := by decide +kernel
theorem kL_256 : decode zlawM.2.1 256 = .ok (.aload_n 0, 1) := by decide +kernel
theorem kL_257 : decode zlawM.2.1 257 = .ok (.iload_n 3, 1) := by decide +kernel
theorem kL_258 : decode zlawM.2.1 258 = .ok (.iconst 2, 1) := by decide +kernel
theorem kL_259 : decode zlawM.2.1 259 = .ok (.iadd, 1) := by decide +kernel
theorem kL_260 : decode zlawM.2.1 260 = .ok (.iaload, 1) := by decide +kernel
theorem kL_261 : decode zlawM.2.1 261 = .ok (.invokevirtual 31, 3) := by decide +kernel
theorem kL_264 : decode zlawM.2.1 264 = .ok (.aload_n 2, 1) := by decide +kernel
theorem kL_265 : decode zlawM.2.1 265 = .ok (.aload_n 0, 1) := by decide +kernel
theorem kL_266 : decode zlawM.2.1 266 = .ok (.iload_n 3, 1) := by decide +kernel
theorem kL_267 : decode zlawM.2.1 267 = .ok (.iconst 1, 1) := by decide +kernel
theorem kL_268 : decode zlawM.2.1 268 = .ok (.iadd, 1) := by decide +kernel
theorem kL_269 : decode zlawM.2.1 269 = .ok (.iaload, 1) := by decide +kernel
theorem kL_270 : decode zlawM.2.1 270 = .ok (.aload_n 0, 1) := by decide +kernel
theorem kL_271 : decode zlawM.2.1 271 = .ok (.iload_n 3, 1) := by decide +kernel
theorem kL_272 : decode zlawM.2.1 272 = .ok (.iconst 2, 1) := by decide +kernel
theorem kL_273 : decode zlawM.2.1 273 = .ok (.iadd, 1) := by decide +kernel
theorem kL_274 : decode zlawM.2.1 274 = .ok (.iaload, 1) := by decide +kernel
theorem kL_275 : decode zlawM.2.1 275 = .ok (.invokevirtual 35, 3) := by decide +kernel
theorem kL_278 : decode zlawM.2.1 278 = .ok (.if_icmp .eq 755, 3) := by decide +kernel
theorem kL_281 : decode zlawM.2.1 281 = .ok (.iconst 0, 1) := by decide +kernel
theorem kL_282 : decode zlawM.2.1 282 = .ok (.ireturn, 1) := by decide +kernel
theorem kL_283 : decode zlawM.2.1 283 = .ok (.aload_n 1, 1) := by decide +kernel
theorem kL_284 : decode zlawM.2.1 284 = .ok (.aload_n 0, 1) := by decide +kernel
theorem kL_285 : decode zlawM.2.1 285 = .ok (.iload_n 3, 1) := by decide +kernel
theorem kL_286 : decode zlawM.2.1 286 = .ok (.iconst 1, 1) := by decide +kernel
theorem kL_287 : decode zlawM.2.1 287 = .ok (.iadd, 1) := by decide +kernel
theorem kL_288 : decode zlawM.2.1 288 = .ok (.iaload, 1) := by decide +kernel
theorem kL_289 : decode zlawM.2.1 289 = .ok (.aload_n 0, 1) := by decide +kernel
theorem kL_290 : decode zlawM.2.1 290 = .ok (.iload_n 3, 1) := by decide +kernel
theorem kL_291 : decode zlawM.2.1 291 = .ok (.iconst 2, 1) := by decide +kernel
theorem kL_292 : decode zlawM.2.1 292 = .ok (.iadd, 1) := by decide +kernel
theorem kL_293 : decode zlawM.2.1 293 = .ok (.iaload, 1) := by decide +kernel
theorem kL_294 : decode zlawM.2.1 294 = .ok (.invokevirtual 36, 3) := by decide +kernel
theorem kL_297 : decode zlawM.2.1 297 = .ok (.aload_n 2, 1) := by decide +kernel
theorem kL_298 : decode zlawM.2.1 298 = .ok (.aload_n 0, 1) := by decide +kernel
theorem kL_299 : decode zlawM.2.1 299 = .ok (.iload_n 3, 1) := by decide +kernel
theorem kL_300 : decode zlawM.2.1 300 = .ok (.iconst 1, 1) := by decide +kernel
theorem kL_301 : decode zlawM.2.1 301 = .ok (.iadd, 1) := by decide +kernel
theorem kL_302 : decode zlawM.2.1 302 = .ok (.iaload, 1) := by decide +kernel
theorem kL_303 : decode zlawM.2.1 303 = .ok (.aload_n 0, 1) := by decide +kernel
theorem kL_304 : decode zlawM.2.1 304 = .ok (.iload_n 3, 1) := by decide +kernel
theorem kL_305 : decode zlawM.2.1 305 = .ok (.iconst 2, 1) := by decide +kernel
theorem kL_306 : decode zlawM.2.1 306 = .ok (.iadd, 1) := by decide +kernel
theorem kL_307 : decode zlawM.2.1 307 = .ok (.iaload, 1) := by decide +kernel
theorem kL_308 : decode zlawM.2.1 308 = .ok (.invokevirtual 39, 3) := by decide +kernel
theorem kL_311 : decode zlawM.2.1 311 = .ok (.if_icmp .eq 722, 3) := by decide +kernel
theorem kL_314 : decode zlawM.2.1 314 = .ok (.iconst 0, 1) := by decide +kernel
theorem kL_315 : decode zlawM.2.1 315 = .ok (.ireturn, 1) := by decide +kernel
theorem kL_316 : decode zlawM.2.1 316 = .ok (.aload_n 1, 1) := by decide +kernel
theorem kL_317 : decode zlawM.2.1 317 = .ok (.aload_n 0, 1) := by decide +kernel
theorem kL_318 : decode zlawM.2.1 318 = .ok (.iload_n 3, 1) := by decide +kernel
theorem kL_319 : decode zlawM.2.1 319 = .ok (.iconst 1, 1) := by decide +kernel
theorem kL_320 : decode zlawM.2.1 320 = .ok (.iadd, 1) := by decide +kernel
theorem kL_321 : decode zlawM.2.1 321 = .ok (.iaload, 1) := by decide +kernel
theorem kL_322 : decode zlawM.2.1 322 = .ok (.aload_n 0, 1) := by decide +kernel
theorem kL_323 : decode zlawM.2.1 323 = .ok (.iload_n 3, 1) := by decide +kernel
theorem kL_324 : decode zlawM.2.1 324 = .ok (.iconst 2, 1) := by decide +kernel
theorem kL_325 : decode zlawM.2.1 325 = .ok (.iadd, 1) := by decide +kernel
theorem kL_326 : decode zlawM.2.1 326 = .ok (.iaload, 1) := by decide +kernel
theorem kL_327 : decode zlawM.2.1 327 = .ok (.invokevirtual 40, 3) := by decide +kernel
theorem kL_330 : decode zlawM.2.1 330 = .ok (.aload_n 2, 1) := by decide +kernel
theorem kL_331 : decode zlawM.2.1 331 = .ok (.aload_n 0, 1) := by decide +kernel
theorem kL_332 : decode zlawM.2.1 332 = .ok (.iload_n 3, 1) := by decide +kernel
theorem kL_333 : decode zlawM.2.1 333 = .ok (.iconst 1, 1) := by decide +kernel
theorem kL_334 : decode zlawM.2.1 334 = .ok (.iadd, 1) := by decide +kernel
theorem kL_335 : decode zlawM.2.1 335 = .ok (.iaload, 1) := by decide +kernel
theorem kL_336 : decode zlawM.2.1 336 = .ok (.aload_n 0, 1) := by decide +kernel
theorem kL_337 : decode zlawM.2.1 337 = .ok (.iload_n 3, 1) := by decide +kernel
theorem kL_338 : decode zlawM.2.1 338 = .ok (.iconst 2, 1) := by decide +kernel
theorem kL_339 : decode zlawM.2.1 339 = .ok (.iadd, 1) := by decide +kernel
theorem kL_340 : decode zlawM.2.1 340 = .ok (.iaload, 1) := by decide +kernel
theorem kL_341 : decode zlawM.2.1 341 = .ok (.invokevirtual 43, 3) := by decide +kernel
theorem kL_344 : decode zlawM.2.1 344 = .ok (.if_icmp .eq 689, 3) := by decide +kernel
theorem kL_347 : decode zlawM.2.1 347 = .ok (.iconst 0, 1) := by decide +kernel
theorem kL_348 : decode zlawM.2.1 348 = .ok (.ireturn, 1) := by decide +kernel
theorem kL_349 : decode zlawM.2.1 349 = .ok (.aload_n 1, 1) := by decide +kernel
theorem kL_350 : decode zlawM.2.1 350 = .ok (.aload_n 0, 1) := by decide +kernel
theorem kL_351 : decode zlawM.2.1 351 = .ok (.iload_n 3, 1) := by decide +kernel
theorem kL_352 : decode zlawM.2.1 352 = .ok (.iconst 1, 1) := by decide +kernel
theorem kL_353 : decode zlawM.2.1 353 = .ok (.iadd, 1) := by decide +kernel
theorem kL_354 : decode zlawM.2.1 354 = .ok (.iaload, 1) := by decide +kernel
theorem kL_355 : decode zlawM.2.1 355 = .ok (.invokevirtual 44, 3) := by decide +kernel
theorem kL_358 : decode zlawM.2.1 358 = .ok (.aload_n 2, 1) := by decide +kernel
theorem kL_359 : decode zlawM.2.1 359 = .ok (.aload_n 0, 1) := by decide +kernel
theorem kL_360 : decode zlawM.2.1 360 = .ok (.iload_n 3, 1) := by decide +kernel
theorem kL_361 : decode zlawM.2.1 361 = .ok (.iconst 1, 1) := by decide +kernel
theorem kL_362 : decode zlawM.2.1 362 = .ok (.iadd, 1) := by decide +kernel
theorem kL_363 : decode zlawM.2.1 363 = .ok (.iaload, 1) := by decide +kernel
theorem kL_364 : decode zlawM.2.1 364 = .ok (.invokevirtual 47, 3) := by decide +kernel
theorem kL_367 : decode zlawM.2.1 367 = .ok (.if_icmp .eq 666, 3) := by decide +kernel
theorem kL_370 : decode zlawM.2.1 370 = .ok (.iconst 0, 1) := by decide +kernel
theorem kL_371 : decode zlawM.2.1 371 = .ok (.ireturn, 1) := by decide +kernel
theorem kL_372 : decode zlawM.2.1 372 = .ok (.aload_n 1, 1) := by decide +kernel
theorem kL_373 : decode zlawM.2.1 373 = .ok (.invokevirtual 48, 3) := by decide +kernel
theorem kL_376 : decode zlawM.2.1 376 = .ok (.aload_n 2, 1) := by decide +kernel
theorem kL_377 : decode zlawM.2.1 377 = .ok (.invokevirtual 51, 3) := by decide +kernel
theorem kL_380 : decode zlawM.2.1 380 = .ok (.if_icmp .eq 653, 3) := by decide +kernel
theorem kL_383 : decode zlawM.2.1 383 = .ok (.iconst 0, 1) := by decide +kernel
theorem kL_384 : decode zlawM.2.1 384 = .ok (.ireturn, 1) := by decide +kernel
theorem kL_385 : decode zlawM.2.1 385 = .ok (.aload_n 1, 1) := by decide +kernel
theorem kL_386 : decode zlawM.2.1 386 = .ok (.aload_n 0, 1) := by decide +kernel
theorem kL_387 : decode zlawM.2.1 387 = .ok (.iload_n 3, 1) := by decide +kernel
theorem kL_388 : decode zlawM.2.1 388 = .ok (.iconst 1, 1) := by decide +kernel
theorem kL_389 : decode zlawM.2.1 389 = .ok (.iadd, 1) := by decide +kernel
theorem kL_390 : decode zlawM.2.1 390 = .ok (.iaload, 1) := by decide +kernel
theorem kL_391 : decode zlawM.2.1 391 = .ok (.invokevirtual 52, 3) := by decide +kernel
theorem kL_394 : decode zlawM.2.1 394 = .ok (.aload_n 2, 1) := by decide +kernel
theorem kL_395 : decode zlawM.2.1 395 = .ok (.aload_n 0, 1) := by decide +kernel
theorem kL_396 : decode zlawM.2.1 396 = .ok (.iload_n 3, 1) := by decide +kernel
theorem kL_397 : decode zlawM.2.1 397 = .ok (.iconst 1, 1) := by decide +kernel
theorem kL_398 : decode zlawM.2.1 398 = .ok (.iadd, 1) := by decide +kernel
theorem kL_399 : decode zlawM.2.1 399 = .ok (.iaload, 1) := by decide +kernel
theorem kL_400 : decode zlawM.2.1 400 = .ok (.invokevirtual 55, 3) := by decide +kernel
theorem kL_403 : decode zlawM.2.1 403 = .ok (.if_icmp .eq 630, 3) := by decide +kernel
theorem kL_406 : decode zlawM.2.1 406 = .ok (.iconst 0, 1) := by decide +kernel
theorem kL_407 : decode zlawM.2.1 407 = .ok (.ireturn, 1) := by decide +kernel
theorem kL_408 : decode zlawM.2.1 408 = .ok (.aload_n 1, 1) := by decide +kernel
theorem kL_409 : decode zlawM.2.1 409 = .ok (.aload_n 0, 1) := by decide +kernel
theorem kL_410 : decode zlawM.2.1 410 = .ok (.iload_n 3, 1) := by decide +kernel
theorem kL_411 : decode zlawM.2.1 411 = .ok (.iconst 1, 1) := by decide +kernel
theorem kL_412 : decode zlawM.2.1 412 = .ok (.iadd, 1) := by decide +kernel
theorem kL_413 : decode zlawM.2.1 413 = .ok (.iaload, 1) := by decide +kernel
theorem kL_414 : decode zlawM.2.1 414 = .ok (.aload_n 0, 1) := by decide +kernel
theorem kL_415 : decode zlawM.2.1 415 = .ok (.iload_n 3, 1) := by decide +kernel
theorem kL_416 : decode zlawM.2.1 416 = .ok (.iconst 2, 1) := by decide +kernel
theorem kL_417 : decode zlawM.2.1 417 = .ok (.iadd, 1) := by decide +kernel
theorem kL_418 : decode zlawM.2.1 418 = .ok (.iaload, 1) := by decide +kernel
theorem kL_419 : decode zlawM.2.1 419 = .ok (.invokevirtual 56, 3) := by decide +kernel
theorem kL_422 : decode zlawM.2.1 422 = .ok (.aload_n 2, 1) := by decide +kernel
theorem kL_423 : decode zlawM.2.1 423 = .ok (.aload_n 0, 1) := by decide +kernel
theorem kL_424 : decode zlawM.2.1 424 = .ok (.iload_n 3, 1) := by decide +kernel
theorem kL_425 : decode zlawM.2.1 425 = .ok (.iconst 1, 1) := by decide +kernel
theorem kL_426 : decode zlawM.2.1 426 = .ok (.iadd, 1) := by decide +kernel
theorem kL_427 : decode zlawM.2.1 427 = .ok (.iaload, 1) := by decide +kernel
theorem kL_428 : decode zlawM.2.1 428 = .ok (.aload_n 0, 1) := by decide +kernel
theorem kL_429 : decode zlawM.2.1 429 = .ok (.iload_n 3, 1) := by decide +kernel
theorem kL_430 : decode zlawM.2.1 430 = .ok (.iconst 2, 1) := by decide +kernel
theorem kL_431 : decode zlawM.2.1 431 = .ok (.iadd, 1) := by decide +kernel
theorem kL_432 : decode zlawM.2.1 432 = .ok (.iaload, 1) := by decide +kernel
theorem kL_433 : decode zlawM.2.1 433 = .ok (.invokevirtual 59, 3) := by decide +kernel
theorem kL_436 : decode zlawM.2.1 436 = .ok (.if_icmp .eq 597, 3) := by decide +kernel
theorem kL_439 : decode zlawM.2.1 439 = .ok (.iconst 0, 1) := by decide +kernel
theorem kL_440 : decode zlawM.2.1 440 = .ok (.ireturn, 1) := by decide +kernel
theorem kL_441 : decode zlawM.2.1 441 = .ok (.aload_n 1, 1) := by decide +kernel
theorem kL_442 : decode zlawM.2.1 442 = .ok (.invokevirtual 60, 3) := by decide +kernel
theorem kL_445 : decode zlawM.2.1 445 = .ok (.aload_n 2, 1) := by decide +kernel
theorem kL_446 : decode zlawM.2.1 446 = .ok (.invokevirtual 63, 3) := by decide +kernel
theorem kL_449 : decode zlawM.2.1 449 = .ok (.if_icmp .eq 584, 3) := by decide +kernel
theorem kL_452 : decode zlawM.2.1 452 = .ok (.iconst 0, 1) := by decide +kernel
theorem kL_453 : decode zlawM.2.1 453 = .ok (.ireturn, 1) := by decide +kernel
theorem kL_454 : decode zlawM.2.1 454 = .ok (.aload_n 1, 1) := by decide +kernel
theorem kL_455 : decode zlawM.2.1 455 = .ok (.aload_n 0, 1) := by decide +kernel
theorem kL_456 : decode zlawM.2.1 456 = .ok (.iload_n 3, 1) := by decide +kernel
theorem kL_457 : decode zlawM.2.1 457 = .ok (.iconst 1, 1) := by decide +kernel
theorem kL_458 : decode zlawM.2.1 458 = .ok (.iadd, 1) := by decide +kernel
theorem kL_459 : decode zlawM.2.1 459 = .ok (.iaload, 1) := by decide +kernel
theorem kL_460 : decode zlawM.2.1 460 = .ok (.invokevirtual 64, 3) := by decide +kernel
theorem kL_463 : decode zlawM.2.1 463 = .ok (.aload_n 2, 1) := by decide +kernel
theorem kL_464 : decode zlawM.2.1 464 = .ok (.aload_n 0, 1) := by decide +kernel
theorem kL_465 : decode zlawM.2.1 465 = .ok (.iload_n 3, 1) := by decide +kernel
theorem kL_466 : decode zlawM.2.1 466 = .ok (.iconst 1, 1) := by decide +kernel
theorem kL_467 : decode zlawM.2.1 467 = .ok (.iadd, 1) := by decide +kernel
theorem kL_468 : decode zlawM.2.1 468 = .ok (.iaload, 1) := by decide +kernel
theorem kL_469 : decode zlawM.2.1 469 = .ok (.invokevirtual 67, 3) := by decide +kernel
theorem kL_472 : decode zlawM.2.1 472 = .ok (.if_icmp .eq 561, 3) := by decide +kernel
theorem kL_475 : decode zlawM.2.1 475 = .ok (.iconst 0, 1) := by decide +kernel
theorem kL_476 : decode zlawM.2.1 476 = .ok (.ireturn, 1) := by decide +kernel
theorem kL_477 : decode zlawM.2.1 477 = .ok (.aload_n 1, 1) := by decide +kernel
theorem kL_478 : decode zlawM.2.1 478 = .ok (.invokevirtual 68, 3) := by decide +kernel
theorem kL_481 : decode zlawM.2.1 481 = .ok (.aload_n 2, 1) := by decide +kernel
theorem kL_482 : decode zlawM.2.1 482 = .ok (.invokevirtual 71, 3) := by decide +kernel
theorem kL_485 : decode zlawM.2.1 485 = .ok (.if_icmp .eq 548, 3) := by decide +kernel
theorem kL_488 : decode zlawM.2.1 488 = .ok (.iconst 0, 1) := by decide +kernel
theorem kL_489 : decode zlawM.2.1 489 = .ok (.ireturn, 1) := by decide +kernel
theorem kL_490 : decode zlawM.2.1 490 = .ok (.aload_n 1, 1) := by decide +kernel
theorem kL_491 : decode zlawM.2.1 491 = .ok (.aload_n 0, 1) := by decide +kernel
theorem kL_492 : decode zlawM.2.1 492 = .ok (.iload_n 3, 1) := by decide +kernel
theorem kL_493 : decode zlawM.2.1 493 = .ok (.iconst 1, 1) := by decide +kernel
theorem kL_494 : decode zlawM.2.1 494 = .ok (.iadd, 1) := by decide +kernel
theorem kL_495 : decode zlawM.2.1 495 = .ok (.iaload, 1) := by decide +kernel
theorem kL_496 : decode zlawM.2.1 496 = .ok (.aload_n 0, 1) := by decide +kernel
theorem kL_497 : decode zlawM.2.1 497 = .ok (.iload_n 3, 1) := by decide +kernel
theorem kL_498 : decode zlawM.2.1 498 = .ok (.iconst 2, 1) := by decide +kernel
theorem kL_499 : decode zlawM.2.1 499 = .ok (.iadd, 1) := by decide +kernel
theorem kL_500 : decode zlawM.2.1 500 = .ok (.iaload, 1) := by decide +kernel
theorem kL_501 : decode zlawM.2.1 501 = .ok (.aload_n 0, 1) := by decide +kernel
theorem kL_502 : decode zlawM.2.1 502 = .ok (.iload_n 3, 1) := by decide +kernel
theorem kL_503 : decode zlawM.2.1 503 = .ok (.iconst 3, 1) := by decide +kernel
theorem kL_504 : decode zlawM.2.1 504 = .ok (.iadd, 1) := by decide +kernel
theorem kL_505 : decode zlawM.2.1 505 = .ok (.iaload, 1) := by decide +kernel
theorem kL_506 : decode zlawM.2.1 506 = .ok (.aload_n 0, 1) := by decide +kernel
theorem kL_507 : decode zlawM.2.1 507 = .ok (.iload_n 3, 1) := by decide +kernel
theorem kL_508 : decode zlawM.2.1 508 = .ok (.iconst 4, 1) := by decide +kernel
theorem kL_509 : decode zlawM.2.1 509 = .ok (.iadd, 1) := by decide +kernel
theorem kL_510 : decode zlawM.2.1 510 = .ok (.iaload, 1) := by decide +kernel
theorem kL_511 : decode zlawM.2.1 511 = .ok (.invokevirtual 72, 3) := by decide +kernel
theorem kL_514 : decode zlawM.2.1 514 = .ok (.aload_n 2, 1) := by decide +kernel
theorem kL_515 : decode zlawM.2.1 515 = .ok (.aload_n 0, 1) := by decide +kernel
theorem kL_516 : decode zlawM.2.1 516 = .ok (.iload_n 3, 1) := by decide +kernel
theorem kL_517 : decode zlawM.2.1 517 = .ok (.iconst 1, 1) := by decide +kernel
theorem kL_518 : decode zlawM.2.1 518 = .ok (.iadd, 1) := by decide +kernel
theorem kL_519 : decode zlawM.2.1 519 = .ok (.iaload, 1) := by decide +kernel
theorem kL_520 : decode zlawM.2.1 520 = .ok (.aload_n 0, 1) := by decide +kernel
theorem kL_521 : decode zlawM.2.1 521 = .ok (.iload_n 3, 1) := by decide +kernel
theorem kL_522 : decode zlawM.2.1 522 = .ok (.iconst 2, 1) := by decide +kernel
theorem kL_523 : decode zlawM.2.1 523 = .ok (.iadd, 1) := by decide +kernel
theorem kL_524 : decode zlawM.2.1 524 = .ok (.iaload, 1) := by decide +kernel
theorem kL_525 : decode zlawM.2.1 525 = .ok (.aload_n 0, 1) := by decide +kernel
theorem kL_526 : decode zlawM.2.1 526 = .ok (.iload_n 3, 1) := by decide +kernel
theorem kL_527 : decode zlawM.2.1 527 = .ok (.iconst 3, 1) := by decide +kernel
theorem kL_528 : decode zlawM.2.1 528 = .ok (.iadd, 1) := by decide +kernel
theorem kL_529 : decode zlawM.2.1 529 = .ok (.iaload, 1) := by decide +kernel
theorem kL_530 : decode zlawM.2.1 530 = .ok (.aload_n 0, 1) := by decide +kernel
theorem kL_531 : decode zlawM.2.1 531 = .ok (.iload_n 3, 1) := by decide +kernel
theorem kL_532 : decode zlawM.2.1 532 = .ok (.iconst 4, 1) := by decide +kernel
theorem kL_533 : decode zlawM.2.1 533 = .ok (.iadd, 1) := by decide +kernel
theorem kL_534 : decode zlawM.2.1 534 = .ok (.iaload, 1) := by decide +kernel
theorem kL_535 : decode zlawM.2.1 535 = .ok (.invokevirtual 76, 3) := by decide +kernel
theorem kL_538 : decode zlawM.2.1 538 = .ok (.if_icmp .eq 495, 3) := by decide +kernel
theorem kL_541 : decode zlawM.2.1 541 = .ok (.iconst 0, 1) := by decide +kernel
theorem kL_542 : decode zlawM.2.1 542 = .ok (.ireturn, 1) := by decide +kernel
theorem kL_543 : decode zlawM.2.1 543 = .ok (.aload_n 1, 1) := by decide +kernel
theorem kL_544 : decode zlawM.2.1 544 = .ok (.aload_n 0, 1) := by decide +kernel
theorem kL_545 : decode zlawM.2.1 545 = .ok (.iload_n 3, 1) := by decide +kernel
theorem kL_546 : decode zlawM.2.1 546 = .ok (.iconst 1, 1) := by decide +kernel
theorem kL_547 : decode zlawM.2.1 547 = .ok (.iadd, 1) := by decide +kernel
theorem kL_548 : decode zlawM.2.1 548 = .ok (.iaload, 1) := by decide +kernel
theorem kL_549 : decode zlawM.2.1 549 = .ok (.aload_n 0, 1) := by decide +kernel
theorem kL_550 : decode zlawM.2.1 550 = .ok (.iload_n 3, 1) := by decide +kernel
theorem kL_551 : decode zlawM.2.1 551 = .ok (.iconst 2, 1) := by decide +kernel
theorem kL_552 : decode zlawM.2.1 552 = .ok (.iadd, 1) := by decide +kernel
theorem kL_553 : decode zlawM.2.1 553 = .ok (.iaload, 1) := by decide +kernel
theorem kL_554 : decode zlawM.2.1 554 = .ok (.aload_n 0, 1) := by decide +kernel
theorem kL_555 : decode zlawM.2.1 555 = .ok (.iload_n 3, 1) := by decide +kernel
theorem kL_556 : decode zlawM.2.1 556 = .ok (.iconst 3, 1) := by decide +kernel
theorem kL_557 : decode zlawM.2.1 557 = .ok (.iadd, 1) := by decide +kernel
theorem kL_558 : decode zlawM.2.1 558 = .ok (.iaload, 1) := by decide +kernel
theorem kL_559 : decode zlawM.2.1 559 = .ok (.invokevirtual 77, 3) := by decide +kernel
theorem kL_562 : decode zlawM.2.1 562 = .ok (.aload_n 2, 1) := by decide +kernel
theorem kL_563 : decode zlawM.2.1 563 = .ok (.aload_n 0, 1) := by decide +kernel
theorem kL_564 : decode zlawM.2.1 564 = .ok (.iload_n 3, 1) := by decide +kernel
theorem kL_565 : decode zlawM.2.1 565 = .ok (.iconst 1, 1) := by decide +kernel
theorem kL_566 : decode zlawM.2.1 566 = .ok (.iadd, 1) := by decide +kernel
theorem kL_567 : decode zlawM.2.1 567 = .ok (.iaload, 1) := by decide +kernel
theorem kL_568 : decode zlawM.2.1 568 = .ok (.aload_n 0, 1) := by decide +kernel
theorem kL_569 : decode zlawM.2.1 569 = .ok (.iload_n 3, 1) := by decide +kernel
theorem kL_570 : decode zlawM.2.1 570 = .ok (.iconst 2, 1) := by decide +kernel
theorem kL_571 : decode zlawM.2.1 571 = .ok (.iadd, 1) := by decide +kernel
theorem kL_572 : decode zlawM.2.1 572 = .ok (.iaload, 1) := by decide +kernel
theorem kL_573 : decode zlawM.2.1 573 = .ok (.aload_n 0, 1) := by decide +kernel
theorem kL_574 : decode zlawM.2.1 574 = .ok (.iload_n 3, 1) := by decide +kernel
theorem kL_575 : decode zlawM.2.1 575 = .ok (.iconst 3, 1) := by decide +kernel
theorem kL_576 : decode zlawM.2.1 576 = .ok (.iadd, 1) := by decide +kernel
theorem kL_577 : decode zlawM.2.1 577 = .ok (.iaload, 1) := by decide +kernel
theorem kL_578 : decode zlawM.2.1 578 = .ok (.invokevirtual 81, 3) := by decide +kernel
theorem kL_581 : decode zlawM.2.1 581 = .ok (.if_icmp .eq 452, 3) := by decide +kernel
theorem kL_584 : decode zlawM.2.1 584 = .ok (.iconst 0, 1) := by decide +kernel
theorem kL_585 : decode zlawM.2.1 585 = .ok (.ireturn, 1) := by decide +kernel
theorem kL_586 : decode zlawM.2.1 586 = .ok (.aload_n 1, 1) := by decide +kernel
theorem kL_587 : decode zlawM.2.1 587 = .ok (.aload_n 0, 1) := by decide +kernel
theorem kL_588 : decode zlawM.2.1 588 = .ok (.iload_n 3, 1) := by decide +kernel
theorem kL_589 : decode zlawM.2.1 589 = .ok (.iconst 1, 1) := by decide +kernel
theorem kL_590 : decode zlawM.2.1 590 = .ok (.iadd, 1) := by decide +kernel
theorem kL_591 : decode zlawM.2.1 591 = .ok (.iaload, 1) := by decide +kernel
theorem kL_592 : decode zlawM.2.1 592 = .ok (.aload_n 0, 1) := by decide +kernel
theorem kL_593 : decode zlawM.2.1 593 = .ok (.iload_n 3, 1) := by decide +kernel
theorem kL_594 : decode zlawM.2.1 594 = .ok (.iconst 2, 1) := by decide +kernel
theorem kL_595 : decode zlawM.2.1 595 = .ok (.iadd, 1) := by decide +kernel
theorem kL_596 : decode zlawM.2.1 596 = .ok (.iaload, 1) := by decide +kernel
theorem kL_597 : decode zlawM.2.1 597 = .ok (.invokevirtual 82, 3) := by decide +kernel
theorem kL_600 : decode zlawM.2.1 600 = .ok (.aload_n 2, 1) := by decide +kernel
theorem kL_601 : decode zlawM.2.1 601 = .ok (.aload_n 0, 1) := by decide +kernel
theorem kL_602 : decode zlawM.2.1 602 = .ok (.iload_n 3, 1) := by decide +kernel
theorem kL_603 : decode zlawM.2.1 603 = .ok (.iconst 1, 1) := by decide +kernel
theorem kL_604 : decode zlawM.2.1 604 = .ok (.iadd, 1) := by decide +kernel
theorem kL_605 : decode zlawM.2.1 605 = .ok (.iaload, 1) := by decide +kernel
theorem kL_606 : decode zlawM.2.1 606 = .ok (.aload_n 0, 1) := by decide +kernel
theorem kL_607 : decode zlawM.2.1 607 = .ok (.iload_n 3, 1) := by decide +kernel
theorem kL_608 : decode zlawM.2.1 608 = .ok (.iconst 2, 1) := by decide +kernel
theorem kL_609 : decode zlawM.2.1 609 = .ok (.iadd, 1) := by decide +kernel
theorem kL_610 : decode zlawM.2.1 610 = .ok (.iaload, 1) := by decide +kernel
theorem kL_611 : decode zlawM.2.1 611 = .ok (.invokevirtual 85, 3) := by decide +kernel
theorem kL_614 : decode zlawM.2.1 614 = .ok (.if_icmp .eq 419, 3) := by decide +kernel
theorem kL_617 : decode zlawM.2.1 617 = .ok (.iconst 0, 1) := by decide +kernel
theorem kL_618 : decode zlawM.2.1 618 = .ok (.ireturn, 1) := by decide +kernel
theorem kL_619 : decode zlawM.2.1 619 = .ok (.aload_n 1, 1) := by decide +kernel
theorem kL_620 : decode zlawM.2.1 620 = .ok (.invokevirtual 86, 3) := by decide +kernel
theorem kL_623 : decode zlawM.2.1 623 = .ok (.aload_n 2, 1) := by decide +kernel
theorem kL_624 : decode zlawM.2.1 624 = .ok (.invokevirtual 89, 3) := by decide +kernel
theorem kL_627 : decode zlawM.2.1 627 = .ok (.if_icmp .eq 406, 3) := by decide +kernel
theorem kL_630 : decode zlawM.2.1 630 = .ok (.iconst 0, 1) := by decide +kernel
theorem kL_631 : decode zlawM.2.1 631 = .ok (.ireturn, 1) := by decide +kernel
theorem kL_632 : decode zlawM.2.1 632 = .ok (.aload_n 1, 1) := by decide +kernel
theorem kL_633 : decode zlawM.2.1 633 = .ok (.aload_n 0, 1) := by decide +kernel
theorem kL_634 : decode zlawM.2.1 634 = .ok (.iload_n 3, 1) := by decide +kernel
theorem kL_635 : decode zlawM.2.1 635 = .ok (.iconst 1, 1) := by decide +kernel
theorem kL_636 : decode zlawM.2.1 636 = .ok (.iadd, 1) := by decide +kernel
theorem kL_637 : decode zlawM.2.1 637 = .ok (.iaload, 1) := by decide +kernel
theorem kL_638 : decode zlawM.2.1 638 = .ok (.invokevirtual 90, 3) := by decide +kernel
theorem kL_641 : decode zlawM.2.1 641 = .ok (.aload_n 2, 1) := by decide +kernel
theorem kL_642 : decode zlawM.2.1 642 = .ok (.aload_n 0, 1) := by decide +kernel
theorem kL_643 : decode zlawM.2.1 643 = .ok (.iload_n 3, 1) := by decide +kernel
theorem kL_644 : decode zlawM.2.1 644 = .ok (.iconst 1, 1) := by decide +kernel
theorem kL_645 : decode zlawM.2.1 645 = .ok (.iadd, 1) := by decide +kernel
theorem kL_646 : decode zlawM.2.1 646 = .ok (.iaload, 1) := by decide +kernel
theorem kL_647 : decode zlawM.2.1 647 = .ok (.invokevirtual 93, 3) := by decide +kernel
theorem kL_650 : decode zlawM.2.1 650 = .ok (.if_icmp .eq 383, 3) := by decide +kernel
theorem kL_653 : decode zlawM.2.1 653 = .ok (.iconst 0, 1) := by decide +kernel
theorem kL_654 : decode zlawM.2.1 654 = .ok (.ireturn, 1) := by decide +kernel
theorem kL_655 : decode zlawM.2.1 655 = .ok (.aload_n 1, 1) := by decide +kernel
theorem kL_656 : decode zlawM.2.1 656 = .ok (.aload_n 0, 1) := by decide +kernel
theorem kL_657 : decode zlawM.2.1 657 = .ok (.iload_n 3, 1) := by decide +kernel
theorem kL_658 : decode zlawM.2.1 658 = .ok (.iconst 1, 1) := by decide +kernel
theorem kL_659 : decode zlawM.2.1 659 = .ok (.iadd, 1) := by decide +kernel
theorem kL_660 : decode zlawM.2.1 660 = .ok (.iaload, 1) := by decide +kernel
theorem kL_661 : decode zlawM.2.1 661 = .ok (.invokevirtual 94, 3) := by decide +kernel
theorem kL_664 : decode zlawM.2.1 664 = .ok (.aload_n 2, 1) := by decide +kernel
theorem kL_665 : decode zlawM.2.1 665 = .ok (.aload_n 0, 1) := by decide +kernel
theorem kL_666 : decode zlawM.2.1 666 = .ok (.iload_n 3, 1) := by decide +kernel
theorem kL_667 : decode zlawM.2.1 667 = .ok (.iconst 1, 1) := by decide +kernel
theorem kL_668 : decode zlawM.2.1 668 = .ok (.iadd, 1) := by decide +kernel
theorem kL_669 : decode zlawM.2.1 669 = .ok (.iaload, 1) := by decide +kernel
theorem kL_670 : decode zlawM.2.1 670 = .ok (.invokevirtual 97, 3) := by decide +kernel
theorem kL_673 : decode zlawM.2.1 673 = .ok (.if_icmp .eq 360, 3) := by decide +kernel
theorem kL_676 : decode zlawM.2.1 676 = .ok (.iconst 0, 1) := by decide +kernel
theorem kL_677 : decode zlawM.2.1 677 = .ok (.ireturn, 1) := by decide +kernel
theorem kL_678 : decode zlawM.2.1 678 = .ok (.aload_n 1, 1) := by decide +kernel
theorem kL_679 : decode zlawM.2.1 679 = .ok (.aload_n 0, 1) := by decide +kernel
theorem kL_680 : decode zlawM.2.1 680 = .ok (.iload_n 3, 1) := by decide +kernel
theorem kL_681 : decode zlawM.2.1 681 = .ok (.iconst 1, 1) := by decide +kernel
theorem kL_682 : decode zlawM.2.1 682 = .ok (.iadd, 1) := by decide +kernel
theorem kL_683 : decode zlawM.2.1 683 = .ok (.iaload, 1) := by decide +kernel
theorem kL_684 : decode zlawM.2.1 684 = .ok (.invokevirtual 98, 3) := by decide +kernel
theorem kL_687 : decode zlawM.2.1 687 = .ok (.aload_n 2, 1) := by decide +kernel
theorem kL_688 : decode zlawM.2.1 688 = .ok (.aload_n 0, 1) := by decide +kernel
theorem kL_689 : decode zlawM.2.1 689 = .ok (.iload_n 3, 1) := by decide +kernel
theorem kL_690 : decode zlawM.2.1 690 = .ok (.iconst 1, 1) := by decide +kernel
theorem kL_691 : decode zlawM.2.1 691 = .ok (.iadd, 1) := by decide +kernel
theorem kL_692 : decode zlawM.2.1 692 = .ok (.iaload, 1) := by decide +kernel
theorem kL_693 : decode zlawM.2.1 693 = .ok (.invokevirtual 101, 3) := by decide +kernel
theorem kL_696 : decode zlawM.2.1 696 = .ok (.if_icmp .eq 337, 3) := by decide +kernel
theorem kL_699 : decode zlawM.2.1 699 = .ok (.iconst 0, 1) := by decide +kernel
theorem kL_700 : decode zlawM.2.1 700 = .ok (.ireturn, 1) := by decide +kernel
theorem kL_701 : decode zlawM.2.1 701 = .ok (.aload_n 1, 1) := by decide +kernel
theorem kL_702 : decode zlawM.2.1 702 = .ok (.invokevirtual 102, 3) := by decide +kernel
theorem kL_705 : decode zlawM.2.1 705 = .ok (.aload_n 2, 1) := by decide +kernel
theorem kL_706 : decode zlawM.2.1 706 = .ok (.invokevirtual 105, 3) := by decide +kernel
theorem kL_709 : decode zlawM.2.1 709 = .ok (.if_icmp .eq 324, 3) := by decide +kernel
theorem kL_712 : decode zlawM.2.1 712 = .ok (.iconst 0, 1) := by decide +kernel
theorem kL_713 : decode zlawM.2.1 713 = .ok (.ireturn, 1) := by decide +kernel
theorem kL_714 : decode zlawM.2.1 714 = .ok (.aload_n 1, 1) := by decide +kernel
theorem kL_715 : decode zlawM.2.1 715 = .ok (.aload_n 0, 1) := by decide +kernel
theorem kL_716 : decode zlawM.2.1 716 = .ok (.iload_n 3, 1) := by decide +kernel
theorem kL_717 : decode zlawM.2.1 717 = .ok (.iconst 1, 1) := by decide +kernel
theorem kL_718 : decode zlawM.2.1 718 = .ok (.iadd, 1) := by decide +kernel
theorem kL_719 : decode zlawM.2.1 719 = .ok (.iaload, 1) := by decide +kernel
theorem kL_720 : decode zlawM.2.1 720 = .ok (.aload_n 0, 1) := by decide +kernel
theorem kL_721 : decode zlawM.2.1 721 = .ok (.iload_n 3, 1) := by decide +kernel
theorem kL_722 : decode zlawM.2.1 722 = .ok (.iconst 2, 1) := by decide +kernel
theorem kL_723 : decode zlawM.2.1 723 = .ok (.iadd, 1) := by decide +kernel
theorem kL_724 : decode zlawM.2.1 724 = .ok (.iaload, 1) := by decide +kernel
theorem kL_725 : decode zlawM.2.1 725 = .ok (.invokevirtual 106, 3) := by decide +kernel
theorem kL_728 : decode zlawM.2.1 728 = .ok (.aload_n 2, 1) := by decide +kernel
theorem kL_729 : decode zlawM.2.1 729 = .ok (.aload_n 0, 1) := by decide +kernel
theorem kL_730 : decode zlawM.2.1 730 = .ok (.iload_n 3, 1) := by decide +kernel
theorem kL_731 : decode zlawM.2.1 731 = .ok (.iconst 1, 1) := by decide +kernel
theorem kL_732 : decode zlawM.2.1 732 = .ok (.iadd, 1) := by decide +kernel
theorem kL_733 : decode zlawM.2.1 733 = .ok (.iaload, 1) := by decide +kernel
theorem kL_734 : decode zlawM.2.1 734 = .ok (.aload_n 0, 1) := by decide +kernel
theorem kL_735 : decode zlawM.2.1 735 = .ok (.iload_n 3, 1) := by decide +kernel
theorem kL_736 : decode zlawM.2.1 736 = .ok (.iconst 2, 1) := by decide +kernel
theorem kL_737 : decode zlawM.2.1 737 = .ok (.iadd, 1) := by decide +kernel
theorem kL_738 : decode zlawM.2.1 738 = .ok (.iaload, 1) := by decide +kernel
theorem kL_739 : decode zlawM.2.1 739 = .ok (.invokevirtual 109, 3) := by decide +kernel
theorem kL_742 : decode zlawM.2.1 742 = .ok (.if_icmp .eq 291, 3) := by decide +kernel
theorem kL_745 : decode zlawM.2.1 745 = .ok (.iconst 0, 1) := by decide +kernel
theorem kL_746 : decode zlawM.2.1 746 = .ok (.ireturn, 1) := by decide +kernel
theorem kL_747 : decode zlawM.2.1 747 = .ok (.aload_n 1, 1) := by decide +kernel
theorem kL_748 : decode zlawM.2.1 748 = .ok (.aload_n 0, 1) := by decide +kernel
theorem kL_749 : decode zlawM.2.1 749 = .ok (.iload_n 3, 1) := by decide +kernel
theorem kL_750 : decode zlawM.2.1 750 = .ok (.iconst 1, 1) := by decide +kernel
theorem kL_751 : decode zlawM.2.1 751 = .ok (.iadd, 1) := by decide +kernel
theorem kL_752 : decode zlawM.2.1 752 = .ok (.iaload, 1) := by decide +kernel
theorem kL_753 : decode zlawM.2.1 753 = .ok (.aload_n 0, 1) := by decide +kernel
theorem kL_754 : decode zlawM.2.1 754 = .ok (.iload_n 3, 1) := by decide +kernel
theorem kL_755 : decode zlawM.2.1 755 = .ok (.iconst 2, 1) := by decide +kernel
theorem kL_756 : decode zlawM.2.1 756 = .ok (.iadd, 1) := by decide +kernel
theorem kL_757 : decode zlawM.2.1 757 = .ok (.iaload, 1) := by decide +kernel
theorem kL_758 : decode zlawM.2.1 758 = .ok (.invokevirtual 110, 3) := by decide +kernel
theorem kL_761 : decode zlawM.2.1 761 = .ok (.aload_n 2, 1) := by decide +kernel
theorem kL_762 : decode zlawM.2.1 762 = .ok (.aload_n 0, 1) := by decide +kernel
theorem kL_763 : decode zlawM.2.1 763 = .ok (.iload_n 3, 1) := by decide +kernel
theorem kL_764 : decode zlawM.2.1 764 = .ok (.iconst 1, 1) := by decide +kernel
theorem kL_765 : decode zlawM.2.1 765 = .ok (.iadd, 1) := by decide +kernel
theorem kL_766 : decode zlawM.2.1 766 = .ok (.iaload, 1) := by decide +kernel
theorem kL_767 : decode zlawM.2.1 767 = .ok (.aload_n 0, 1) := by decide +kernel
theorem kL_768 : decode zlawM.2.1 768 = .ok (.iload_n 3, 1) := by decide +kernel
theorem kL_769 : decode zlawM.2.1 769 = .ok (.iconst 2, 1) := by decide +kernel
theorem kL_770 : decode zlawM.2.1 770 = .ok (.iadd, 1) := by decide +kernel
theorem kL_771 : decode zlawM.2.1 771 = .ok (.iaload, 1) := by decide +kernel
theorem kL_772 : decode zlawM.2.1 772 = .ok (.invokevirtual 113, 3) := by decide +kernel
theorem kL_775 : decode zlawM.2.1 775 = .ok (.if_icmp .eq 258, 3) := by decide +kernel
theorem kL_778 : decode zlawM.2.1 778 = .ok (.iconst 0, 1) := by decide +kernel
theorem kL_779 : decode zlawM.2.1 779 = .ok (.ireturn, 1) := by decide +kernel
theorem kL_780 : decode zlawM.2.1 780 = .ok (.aload_n 1, 1) := by decide +kernel
theorem kL_781 : decode zlawM.2.1 781 = .ok (.invokevirtual 114, 3) := by decide +kernel
theorem kL_784 : decode zlawM.2.1 784 = .ok (.aload_n 2, 1) := by decide +kernel
theorem kL_785 : decode zlawM.2.1 785 = .ok (.invokevirtual 117, 3) := by decide +kernel
theorem kL_788 : decode zlawM.2.1 788 = .ok (.if_icmp .eq 245, 3) := by decide +kernel
theorem kL_791 : decode zlawM.2.1 791 = .ok (.iconst 0, 1) := by decide +kernel
theorem kL_792 : decode zlawM.2.1 792 = .ok (.ireturn, 1) := by decide +kernel
theorem kL_793 : decode zlawM.2.1 793 = .ok (.aload_n 1, 1) := by decide +kernel
theorem kL_794 : decode zlawM.2.1 794 = .ok (.invokevirtual 118, 3) := by decide +kernel
theorem kL_797 : decode zlawM.2.1 797 = .ok (.aload_n 2, 1) := by decide +kernel
theorem kL_798 : decode zlawM.2.1 798 = .ok (.invokevirtual 121, 3) := by decide +kernel
theorem kL_801 : decode zlawM.2.1 801 = .ok (.if_icmp .eq 232, 3) := by decide +kernel
theorem kL_804 : decode zlawM.2.1 804 = .ok (.iconst 0, 1) := by decide +kernel
theorem kL_805 : decode zlawM.2.1 805 = .ok (.ireturn, 1) := by decide +kernel
theorem kL_806 : decode zlawM.2.1 806 = .ok (.aload_n 1, 1) := by decide +kernel
theorem kL_807 : decode zlawM.2.1 807 = .ok (.aload_n 0, 1) := by decide +kernel
theorem kL_808 : decode zlawM.2.1 808 = .ok (.iload_n 3, 1) := by decide +kernel
theorem kL_809 : decode zlawM.2.1 809 = .ok (.iconst 1, 1) := by decide +kernel
theorem kL_810 : decode zlawM.2.1 810 = .ok (.iadd, 1) := by decide +kernel
theorem kL_811 : decode zlawM.2.1 811 = .ok (.iaload, 1) := by decide +kernel
theorem kL_812 : decode zlawM.2.1 812 = .ok (.aload_n 0, 1) := by decide +kernel
theorem kL_813 : decode zlawM.2.1 813 = .ok (.iload_n 3, 1) := by decide +kernel
theorem kL_814 : decode zlawM.2.1 814 = .ok (.iconst 2, 1) := by decide +kernel
theorem kL_815 : decode zlawM.2.1 815 = .ok (.iadd, 1) := by decide +kernel
theorem kL_816 : decode zlawM.2.1 816 = .ok (.iaload, 1) := by decide +kernel
theorem kL_817 : decode zlawM.2.1 817 = .ok (.aload_n 0, 1) := by decide +kernel
theorem kL_818 : decode zlawM.2.1 818 = .ok (.iload_n 3, 1) := by decide +kernel
theorem kL_819 : decode zlawM.2.1 819 = .ok (.iconst 3, 1) := by decide +kernel
theorem kL_820 : decode zlawM.2.1 820 = .ok (.iadd, 1) := by decide +kernel
theorem kL_821 : decode zlawM.2.1 821 = .ok (.iaload, 1) := by decide +kernel
theorem kL_822 : decode zlawM.2.1 822 = .ok (.invokevirtual 122, 3) := by decide +kernel
theorem kL_825 : decode zlawM.2.1 825 = .ok (.aload_n 2, 1) := by decide +kernel
theorem kL_826 : decode zlawM.2.1 826 = .ok (.aload_n 0, 1) := by decide +kernel
theorem kL_827 : decode zlawM.2.1 827 = .ok (.iload_n 3, 1) := by decide +kernel
theorem kL_828 : decode zlawM.2.1 828 = .ok (.iconst 1, 1) := by decide +kernel
theorem kL_829 : decode zlawM.2.1 829 = .ok (.iadd, 1) := by decide +kernel
theorem kL_830 : decode zlawM.2.1 830 = .ok (.iaload, 1) := by decide +kernel
theorem kL_831 : decode zlawM.2.1 831 = .ok (.aload_n 0, 1) := by decide +kernel
theorem kL_832 : decode zlawM.2.1 832 = .ok (.iload_n 3, 1) := by decide +kernel
theorem kL_833 : decode zlawM.2.1 833 = .ok (.iconst 2, 1) := by decide +kernel
theorem kL_834 : decode zlawM.2.1 834 = .ok (.iadd, 1) := by decide +kernel
theorem kL_835 : decode zlawM.2.1 835 = .ok (.iaload, 1) := by decide +kernel
theorem kL_836 : decode zlawM.2.1 836 = .ok (.aload_n 0, 1) := by decide +kernel
theorem kL_837 : decode zlawM.2.1 837 = .ok (.iload_n 3, 1) := by decide +kernel
theorem kL_838 : decode zlawM.2.1 838 = .ok (.iconst 3, 1) := by decide +kernel
theorem kL_839 : decode zlawM.2.1 839 = .ok (.iadd, 1) := by decide +kernel
theorem kL_840 : decode zlawM.2.1 840 = .ok (.iaload, 1) := by decide +kernel
theorem kL_841 : decode zlawM.2.1 841 = .ok (.invokevirtual 125, 3) := by decide +kernel
theorem kL_844 : decode zlawM.2.1 844 = .ok (.if_icmp .eq 189, 3) := by decide +kernel
theorem kL_847 : decode zlawM.2.1 847 = .ok (.iconst 0, 1) := by decide +kernel
theorem kL_848 : decode zlawM.2.1 848 = .ok (.ireturn, 1) := by decide +kernel
theorem kL_849 : decode zlawM.2.1 849 = .ok (.aload_n 1, 1) := by decide +kernel
theorem kL_850 : decode zlawM.2.1 850 = .ok (.aload_n 0, 1) := by decide +kernel
theorem kL_851 : decode zlawM.2.1 851 = .ok (.iload_n 3, 1) := by decide +kernel
theorem kL_852 : decode zlawM.2.1 852 = .ok (.iconst 1, 1) := by decide +kernel
theorem kL_853 : decode zlawM.2.1 853 = .ok (.iadd, 1) := by decide +kernel
theorem kL_854 : decode zlawM.2.1 854 = .ok (.iaload, 1) := by decide +kernel
theorem kL_855 : decode zlawM.2.1 855 = .ok (.aload_n 0, 1) := by decide +kernel
theorem kL_856 : decode zlawM.2.1 856 = .ok (.iload_n 3, 1) := by decide +kernel
theorem kL_857 : decode zlawM.2.1 857 = .ok (.iconst 2, 1) := by decide +kernel
theorem kL_858 : decode zlawM.2.1 858 = .ok (.iadd, 1) := by decide +kernel
theorem kL_859 : decode zlawM.2.1 859 = .ok (.iaload, 1) := by decide +kernel
theorem kL_860 : decode zlawM.2.1 860 = .ok (.invokevirtual 126, 3) := by decide +kernel
theorem kL_863 : decode zlawM.2.1 863 = .ok (.aload_n 2, 1) := by decide +kernel
theorem kL_864 : decode zlawM.2.1 864 = .ok (.aload_n 0, 1) := by decide +kernel
theorem kL_865 : decode zlawM.2.1 865 = .ok (.iload_n 3, 1) := by decide +kernel
theorem kL_866 : decode zlawM.2.1 866 = .ok (.iconst 1, 1) := by decide +kernel
theorem kL_867 : decode zlawM.2.1 867 = .ok (.iadd, 1) := by decide +kernel
theorem kL_868 : decode zlawM.2.1 868 = .ok (.iaload, 1) := by decide +kernel
theorem kL_869 : decode zlawM.2.1 869 = .ok (.aload_n 0, 1) := by decide +kernel
theorem kL_870 : decode zlawM.2.1 870 = .ok (.iload_n 3, 1) := by decide +kernel
theorem kL_871 : decode zlawM.2.1 871 = .ok (.iconst 2, 1) := by decide +kernel
theorem kL_872 : decode zlawM.2.1 872 = .ok (.iadd, 1) := by decide +kernel
theorem kL_873 : decode zlawM.2.1 873 = .ok (.iaload, 1) := by decide +kernel
theorem kL_874 : decode zlawM.2.1 874 = .ok (.invokevirtual 129, 3) := by decide +kernel
theorem kL_877 : decode zlawM.2.1 877 = .ok (.if_icmp .eq 156, 3) := by decide +kernel
theorem kL_880 : decode zlawM.2.1 880 = .ok (.iconst 0, 1) := by decide +kernel
theorem kL_881 : decode zlawM.2.1 881 = .ok (.ireturn, 1) := by decide +kernel
theorem kL_882 : decode zlawM.2.1 882 = .ok (.aload_n 1, 1) := by decide +kernel
theorem kL_883 : decode zlawM.2.1 883 = .ok (.aload_n 0, 1) := by decide +kernel
theorem kL_884 : decode zlawM.2.1 884 = .ok (.iload_n 3, 1) := by decide +kernel
theorem kL_885 : decode zlawM.2.1 885 = .ok (.iconst 1, 1) := by decide +kernel
theorem kL_886 : decode zlawM.2.1 886 = .ok (.iadd, 1) := by decide +kernel
theorem kL_887 : decode zlawM.2.1 887 = .ok (.iaload, 1) := by decide +kernel
theorem kL_888 : decode zlawM.2.1 888 = .ok (.aload_n 0, 1) := by decide +kernel
theorem kL_889 : decode zlawM.2.1 889 = .ok (.iload_n 3, 1) := by decide +kernel
theorem kL_890 : decode zlawM.2.1 890 = .ok (.iconst 2, 1) := by decide +kernel
theorem kL_891 : decode zlawM.2.1 891 = .ok (.iadd, 1) := by decide +kernel
theorem kL_892 : decode zlawM.2.1 892 = .ok (.iaload, 1) := by decide +kernel
theorem kL_893 : decode zlawM.2.1 893 = .ok (.invokevirtual 130, 3) := by decide +kernel
theorem kL_896 : decode zlawM.2.1 896 = .ok (.aload_n 2, 1) := by decide +kernel
theorem kL_897 : decode zlawM.2.1 897 = .ok (.aload_n 0, 1) := by decide +kernel
theorem kL_898 : decode zlawM.2.1 898 = .ok (.iload_n 3, 1) := by decide +kernel
theorem kL_899 : decode zlawM.2.1 899 = .ok (.iconst 1, 1) := by decide +kernel
theorem kL_900 : decode zlawM.2.1 900 = .ok (.iadd, 1) := by decide +kernel
theorem kL_901 : decode zlawM.2.1 901 = .ok (.iaload, 1) := by decide +kernel
theorem kL_902 : decode zlawM.2.1 902 = .ok (.aload_n 0, 1) := by decide +kernel
theorem kL_903 : decode zlawM.2.1 903 = .ok (.iload_n 3, 1) := by decide +kernel
theorem kL_904 : decode zlawM.2.1 904 = .ok (.iconst 2, 1) := by decide +kernel
theorem kL_905 : decode zlawM.2.1 905 = .ok (.iadd, 1) := by decide +kernel
theorem kL_906 : decode zlawM.2.1 906 = .ok (.iaload, 1) := by decide +kernel
theorem kL_907 : decode zlawM.2.1 907 = .ok (.invokevirtual 133, 3) := by decide +kernel
theorem kL_910 : decode zlawM.2.1 910 = .ok (.if_icmp .eq 123, 3) := by decide +kernel
theorem kL_913 : decode zlawM.2.1 913 = .ok (.iconst 0, 1) := by decide +kernel
theorem kL_914 : decode zlawM.2.1 914 = .ok (.ireturn, 1) := by decide +kernel
theorem kL_915 : decode zlawM.2.1 915 = .ok (.aload_n 1, 1) := by decide +kernel
theorem kL_916 : decode zlawM.2.1 916 = .ok (.aload_n 0, 1) := by decide +kernel
theorem kL_917 : decode zlawM.2.1 917 = .ok (.iload_n 3, 1) := by decide +kernel
theorem kL_918 : decode zlawM.2.1 918 = .ok (.iconst 1, 1) := by decide +kernel
theorem kL_919 : decode zlawM.2.1 919 = .ok (.iadd, 1) := by decide +kernel
theorem kL_920 : decode zlawM.2.1 920 = .ok (.iaload, 1) := by decide +kernel
theorem kL_921 : decode zlawM.2.1 921 = .ok (.invokevirtual 134, 3) := by decide +kernel
theorem kL_924 : decode zlawM.2.1 924 = .ok (.aload_n 2, 1) := by decide +kernel
theorem kL_925 : decode zlawM.2.1 925 = .ok (.aload_n 0, 1) := by decide +kernel
theorem kL_926 : decode zlawM.2.1 926 = .ok (.iload_n 3, 1) := by decide +kernel
theorem kL_927 : decode zlawM.2.1 927 = .ok (.iconst 1, 1) := by decide +kernel
theorem kL_928 : decode zlawM.2.1 928 = .ok (.iadd, 1) := by decide +kernel
theorem kL_929 : decode zlawM.2.1 929 = .ok (.iaload, 1) := by decide +kernel
theorem kL_930 : decode zlawM.2.1 930 = .ok (.invokevirtual 137, 3) := by decide +kernel
theorem kL_933 : decode zlawM.2.1 933 = .ok (.if_icmp .eq 100, 3) := by decide +kernel
theorem kL_936 : decode zlawM.2.1 936 = .ok (.iconst 0, 1) := by decide +kernel
theorem kL_937 : decode zlawM.2.1 937 = .ok (.ireturn, 1) := by decide +kernel
theorem kL_938 : decode zlawM.2.1 938 = .ok (.aload_n 1, 1) := by decide +kernel
theorem kL_939 : decode zlawM.2.1 939 = .ok (.invokevirtual 138, 3) := by decide +kernel
theorem kL_942 : decode zlawM.2.1 942 = .ok (.aload_n 2, 1) := by decide +kernel
theorem kL_943 : decode zlawM.2.1 943 = .ok (.invokevirtual 141, 3) := by decide +kernel
theorem kL_946 : decode zlawM.2.1 946 = .ok (.if_icmp .eq 87, 3) := by decide +kernel
theorem kL_949 : decode zlawM.2.1 949 = .ok (.iconst 0, 1) := by decide +kernel
theorem kL_950 : decode zlawM.2.1 950 = .ok (.ireturn, 1) := by decide +kernel
theorem kL_951 : decode zlawM.2.1 951 = .ok (.aload_n 1, 1) := by decide +kernel
theorem kL_952 : decode zlawM.2.1 952 = .ok (.aload_n 0, 1) := by decide +kernel
theorem kL_953 : decode zlawM.2.1 953 = .ok (.iload_n 3, 1) := by decide +kernel
theorem kL_954 : decode zlawM.2.1 954 = .ok (.iconst 1, 1) := by decide +kernel
theorem kL_955 : decode zlawM.2.1 955 = .ok (.iadd, 1) := by decide +kernel
theorem kL_956 : decode zlawM.2.1 956 = .ok (.iaload, 1) := by decide +kernel
theorem kL_957 : decode zlawM.2.1 957 = .ok (.invokevirtual 142, 3) := by decide +kernel
theorem kL_960 : decode zlawM.2.1 960 = .ok (.aload_n 2, 1) := by decide +kernel
theorem kL_961 : decode zlawM.2.1 961 = .ok (.aload_n 0, 1) := by decide +kernel
theorem kL_962 : decode zlawM.2.1 962 = .ok (.iload_n 3, 1) := by decide +kernel
theorem kL_963 : decode zlawM.2.1 963 = .ok (.iconst 1, 1) := by decide +kernel
theorem kL_964 : decode zlawM.2.1 964 = .ok (.iadd, 1) := by decide +kernel
theorem kL_965 : decode zlawM.2.1 965 = .ok (.iaload, 1) := by decide +kernel
theorem kL_966 : decode zlawM.2.1 966 = .ok (.invokevirtual 145, 3) := by decide +kernel
theorem kL_969 : decode zlawM.2.1 969 = .ok (.if_icmp .eq 64, 3) := by decide +kernel
theorem kL_972 : decode zlawM.2.1 972 = .ok (.iconst 0, 1) := by decide +kernel
theorem kL_973 : decode zlawM.2.1 973 = .ok (.ireturn, 1) := by decide +kernel
theorem kL_974 : decode zlawM.2.1 974 = .ok (.aload_n 1, 1) := by decide +kernel
theorem kL_975 : decode zlawM.2.1 975 = .ok (.aload_n 0, 1) := by decide +kernel
theorem kL_976 : decode zlawM.2.1 976 = .ok (.iload_n 3, 1) := by decide +kernel
theorem kL_977 : decode zlawM.2.1 977 = .ok (.iconst 1, 1) := by decide +kernel
theorem kL_978 : decode zlawM.2.1 978 = .ok (.iadd, 1) := by decide +kernel
theorem kL_979 : decode zlawM.2.1 979 = .ok (.iaload, 1) := by decide +kernel
theorem kL_980 : decode zlawM.2.1 980 = .ok (.invokevirtual 146, 3) := by decide +kernel
theorem kL_983 : decode zlawM.2.1 983 = .ok (.aload_n 2, 1) := by decide +kernel
theorem kL_984 : decode zlawM.2.1 984 = .ok (.aload_n 0, 1) := by decide +kernel
theorem kL_985 : decode zlawM.2.1 985 = .ok (.iload_n 3, 1) := by decide +kernel
theorem kL_986 : decode zlawM.2.1 986 = .ok (.iconst 1, 1) := by decide +kernel
theorem kL_987 : decode zlawM.2.1 987 = .ok (.iadd, 1) := by decide +kernel
theorem kL_988 : decode zlawM.2.1 988 = .ok (.iaload, 1) := by decide +kernel
theorem kL_989 : decode zlawM.2.1 989 = .ok (.invokevirtual 149, 3) := by decide +kernel
theorem kL_992 : decode zlawM.2.1 992 = .ok (.if_icmp .eq 41, 3) := by decide +kernel
theorem kL_995 : decode zlawM.2.1 995 = .ok (.iconst 0, 1) := by decide +kernel
theorem kL_996 : decode zlawM.2.1 996 = .ok (.ireturn, 1) := by decide +kernel
theorem kL_997 : decode zlawM.2.1 997 = .ok (.aload_n 1, 1) := by decide +kernel
theorem kL_998 : decode zlawM.2.1 998 = .ok (.invokevirtual 150, 3) := by decide +kernel
theorem kL_1001 : decode zlawM.2.1 1001 = .ok (.aload_n 2, 1) := by decide +kernel
theorem kL_1002 : decode zlawM.2.1 1002 = .ok (.invokevirtual 153, 3) := by decide +kernel
theorem kL_1005 : decode zlawM.2.1 1005 = .ok (.if_icmp .eq 28, 3) := by decide +kernel
theorem kL_1008 : decode zlawM.2.1 1008 = .ok (.iconst 0, 1) := by decide +kernel
theorem kL_1009 : decode zlawM.2.1 1009 = .ok (.ireturn, 1) := by decide +kernel
theorem kL_1010 : decode zlawM.2.1 1010 = .ok (.aload_n 1, 1) := by decide +kernel
theorem kL_1011 : decode zlawM.2.1 1011 = .ok (.aload_n 0, 1) := by decide +kernel
theorem kL_1012 : decode zlawM.2.1 1012 = .ok (.iload_n 3, 1) := by decide +kernel
theorem kL_1013 : decode zlawM.2.1 1013 = .ok (.iconst 1, 1) := by decide +kernel
theorem kL_1014 : decode zlawM.2.1 1014 = .ok (.iadd, 1) := by decide +kernel
theorem kL_1015 : decode zlawM.2.1 1015 = .ok (.iaload, 1) := by decide +kernel
theorem kL_1016 : decode zlawM.2.1 1016 = .ok (.invokevirtual 154, 3) := by decide +kernel
theorem kL_1019 : decode zlawM.2.1 1019 = .ok (.aload_n 2, 1) := by decide +kernel
theorem kL_1020 : decode zlawM.2.1 1020 = .ok (.aload_n 0, 1) := by decide +kernel
theorem kL_1021 : decode zlawM.2.1 1021 = .ok (.iload_n 3, 1) := by decide +kernel
theorem kL_1022 : decode zlawM.2.1 1022 = .ok (.iconst 1, 1) := by decide +kernel
theorem kL_1023 : decode zlawM.2.1 1023 = .ok (.iadd, 1) := by decide +kernel
theorem kL_1024 : decode zlawM.2.1 1024 = .ok (.iaload, 1) := by decide +kernel
theorem kL_1025 : decode zlawM.2.1 1025 = .ok (.invokevirtual 157, 3) := by decide +kernel
theorem kL_1028 : decode zlawM.2.1 1028 = .ok (.if_icmp .eq 5, 3) := by decide +kernel
theorem kL_1031 : decode zlawM.2.1 1031 = .ok (.iconst 0, 1) := by decide +kernel
theorem kL_1032 : decode zlawM.2.1 1032 = .ok (.ireturn, 1) := by decide +kernel
def fL_1033 (L : Nat) (xs : Nat → Int32) (K : Nat) (k18 : Int32 → zS → Option (Int32 × zS)) (x3 : Int32) (g : zS) : Option (Int32 × zS) := k18 (x3 + 5) g
def fL_18 (L : Nat) (xs : Nat → Int32) (K : Nat) : Nat → Int32 → zS → Option (Int32 × zS)
  | 0, _, _ => none
  | n + 1, x3, g => if ((nI L) - 5) < x3 then some (1, g) else if zin x3 L then if ((xs x3.toNatClampNeg) &&& 63) = 0 then if zin (x3 + 1) L then zbd (f11 K (xs (x3 + 1).toNatClampNeg) g) fun r946 g945 => if zin (x3 + 1) L then zbd (f145 K (xs (x3 + 1).toNatClampNeg) g945) fun r949 g948 => if r946 = r949 then fL_1033 L xs K (fL_18 L xs K n) x3 g948 else (some (0, g948)) else none else none else if ((xs x3.toNatClampNeg) &&& 63) = 1 then zbd (f15 K  g) fun r954 g953 => zbd (f147 K  g953) fun r957 g956 => if r954 = r957 then fL_1033 L xs K (fL_18 L xs K n) x3 g956 else (some (0, g956)) else if ((xs x3.toNatClampNeg) &&& 63) = 2 then zbd (f16 K  g) fun r962 g961 => zbd (f148 K  g961) fun r965 g964 => if r962 = r965 then fL_1033 L xs K (fL_18 L xs K n) x3 g964 else (some (0, g964)) else if ((xs x3.toNatClampNeg) &&& 63) = 3 then zbd (f43 K  g) fun r970 g969 => zbd (f160 K  g969) fun r973 g972 => if r970 = r973 then fL_1033 L xs K (fL_18 L xs K n) x3 g972 else (some (0, g972)) else if ((xs x3.toNatClampNeg) &&& 63) = 4 then if zin (x3 + 1) L then if zin (x3 + 2) L then zbd (f47 K (xs (x3 + 1).toNatClampNeg) (xs (x3 + 2).toNatClampNeg) g) fun r978 g977 => if zin (x3 + 1) L then if zin (x3 + 2) L then zbd (f166 K (xs (x3 + 1).toNatClampNeg) (xs (x3 + 2).toNatClampNeg) g977) fun r981 g980 => if r978 = r981 then fL_1033 L xs K (fL_18 L xs K n) x3 g980 else (some (0, g980)) else none else none else none else none else if ((xs x3.toNatClampNeg) &&& 63) = 5 then if zin (x3 + 1) L then if zin (x3 + 2) L then zbd (f52 K (xs (x3 + 1).toNatClampNeg) (xs (x3 + 2).toNatClampNeg) g) fun r986 g985 => if zin (x3 + 1) L then if zin (x3 + 2) L then zbd (f169 K (xs (x3 + 1).toNatClampNeg) (xs (x3 + 2).toNatClampNeg) g985) fun r989 g988 => if r986 = r989 then fL_1033 L xs K (fL_18 L xs K n) x3 g988 else (some (0, g988)) else none else none else none else none else if ((xs x3.toNatClampNeg) &&& 63) = 6 then if zin (x3 + 1) L then if zin (x3 + 2) L then zbd (f56 K (xs (x3 + 1).toNatClampNeg) (xs (x3 + 2).toNatClampNeg) g) fun r994 g993 => if zin (x3 + 1) L then if zin (x3 + 2) L then zbd (f172 K (xs (x3 + 1).toNatClampNeg) (xs (x3 + 2).toNatClampNeg) g993) fun r997 g996 => if r994 = r997 then fL_1033 L xs K (fL_18 L xs K n) x3 g996 else (some (0, g996)) else none else none else none else none else if ((xs x3.toNatClampNeg) &&& 63) = 7 then if zin (x3 + 1) L then zbd (f68 K (xs (x3 + 1).toNatClampNeg) g) fun r1002 g1001 => if zin (x3 + 1) L then zbd (f180 K (xs (x3 + 1).toNatClampNeg) g1001) fun r1005 g1004 => if r1002 = r1005 then fL_1033 L xs K (fL_18 L xs K n) x3 g1004 else (some (0, g1004)) else none else none else if ((xs x3.toNatClampNeg) &&& 63) = 8 then zbd (f70 K  g) fun r1010 g1009 => zbd (f181 K  g1009) fun r1013 g1012 => if r1010 = r1013 then fL_1033 L xs K (fL_18 L xs K n) x3 g1012 else (some (0, g1012)) else if ((xs x3.toNatClampNeg) &&& 63) = 9 then if zin (x3 + 1) L then zbd (f71 K (xs (x3 + 1).toNatClampNeg) g) fun r1018 g1017 => if zin (x3 + 1) L then zbd (f182 K (xs (x3 + 1).toNatClampNeg) g1017) fun r1021 g1020 => if r1018 = r1021 then fL_1033 L xs K (fL_18 L xs K n) x3 g1020 else (some (0, g1020)) else none else none else if ((xs x3.toNatClampNeg) &&& 63) = 10 then if zin (x3 + 1) L then if zin (x3 + 2) L then zbd (f72 K (xs (x3 + 1).toNatClampNeg) (xs (x3 + 2).toNatClampNeg) g) fun r1026 g1025 => if zin (x3 + 1) L then if zin (x3 + 2) L then zbd (f183 K (xs (x3 + 1).toNatClampNeg) (xs (x3 + 2).toNatClampNeg) g1025) fun r1029 g1028 => if r1026 = r1029 then fL_1033 L xs K (fL_18 L xs K n) x3 g1028 else (some (0, g1028)) else none else none else none else none else if ((xs x3.toNatClampNeg) &&& 63) = 11 then zbd (f73 K  g) fun r1034 g1033 => zbd (f184 K  g1033) fun r1037 g1036 => if r1034 = r1037 then fL_1033 L xs K (fL_18 L xs K n) x3 g1036 else (some (0, g1036)) else if ((xs x3.toNatClampNeg) &&& 63) = 12 then if zin (x3 + 1) L then zbd (f75 K (xs (x3 + 1).toNatClampNeg) g) fun r1042 g1041 => if zin (x3 + 1) L then zbd (f187 K (xs (x3 + 1).toNatClampNeg) g1041) fun r1045 g1044 => if r1042 = r1045 then fL_1033 L xs K (fL_18 L xs K n) x3 g1044 else (some (0, g1044)) else none else none else if ((xs x3.toNatClampNeg) &&& 63) = 13 then zbd (f85 K  g) fun r1050 g1049 => zbd (f191 K  g1049) fun r1053 g1052 => if r1050 = r1053 then fL_1033 L xs K (fL_18 L xs K n) x3 g1052 else (some (0, g1052)) else if ((xs x3.toNatClampNeg) &&& 63) = 14 then if zin (x3 + 1) L then if zin (x3 + 2) L then if zin (x3 + 3) L then if zin (x3 + 4) L then zbd (f87 K (xs (x3 + 1).toNatClampNeg) (xs (x3 + 2).toNatClampNeg) (xs (x3 + 3).toNatClampNeg) (xs (x3 + 4).toNatClampNeg) g) fun r1058 g1057 => if zin (x3 + 1) L then if zin (x3 + 2) L then if zin (x3 + 3) L then if zin (x3 + 4) L then zbd (f193 K (xs (x3 + 1).toNatClampNeg) (xs (x3 + 2).toNatClampNeg) (xs (x3 + 3).toNatClampNeg) (xs (x3 + 4).toNatClampNeg) g1057) fun r1061 g1060 => if r1058 = r1061 then fL_1033 L xs K (fL_18 L xs K n) x3 g1060 else (some (0, g1060)) else none else none else none else none else none else none else none else none else if ((xs x3.toNatClampNeg) &&& 63) = 15 then if zin (x3 + 1) L then if zin (x3 + 2) L then if zin (x3 + 3) L then zbd (f89 K (xs (x3 + 1).toNatClampNeg) (xs (x3 + 2).toNatClampNeg) (xs (x3 + 3).toNatClampNeg) g) fun r1066 g1065 => if zin (x3 + 1) L then if zin (x3 + 2) L then if zin (x3 + 3) L then zbd (f195 K (xs (x3 + 1).toNatClampNeg) (xs (x3 + 2).toNatClampNeg) (xs (x3 + 3).toNatClampNeg) g1065) fun r1069 g1068 => if r1066 = r1069 then fL_1033 L xs K (fL_18 L xs K n) x3 g1068 else (some (0, g1068)) else none else none else none else none else none else none else if ((xs x3.toNatClampNeg) &&& 63) = 16 then if zin (x3 + 1) L then if zin (x3 + 2) L then zbd (f92 K (xs (x3 + 1).toNatClampNeg) (xs (x3 + 2).toNatClampNeg) g) fun r1074 g1073 => if zin (x3 + 1) L then if zin (x3 + 2) L then zbd (f196 K (xs (x3 + 1).toNatClampNeg) (xs (x3 + 2).toNatClampNeg) g1073) fun r1077 g1076 => if r1074 = r1077 then fL_1033 L xs K (fL_18 L xs K n) x3 g1076 else (some (0, g1076)) else none else none else none else none else if ((xs x3.toNatClampNeg) &&& 63) = 17 then zbd (f93 K  g) fun r1082 g1081 => zbd (f197 K  g1081) fun r1085 g1084 => if r1082 = r1085 then fL_1033 L xs K (fL_18 L xs K n) x3 g1084 else (some (0, g1084)) else if ((xs x3.toNatClampNeg) &&& 63) = 18 then if zin (x3 + 1) L then zbd (f95 K (xs (x3 + 1).toNatClampNeg) g) fun r1090 g1089 => if zin (x3 + 1) L then zbd (f198 K (xs (x3 + 1).toNatClampNeg) g1089) fun r1093 g1092 => if r1090 = r1093 then fL_1033 L xs K (fL_18 L xs K n) x3 g1092 else (some (0, g1092)) else none else none else if ((xs x3.toNatClampNeg) &&& 63) = 19 then if zin (x3 + 1) L then zbd (f97 K (xs (x3 + 1).toNatClampNeg) g) fun r1098 g1097 => if zin (x3 + 1) L then zbd (f199 K (xs (x3 + 1).toNatClampNeg) g1097) fun r1101 g1100 => if r1098 = r1101 then fL_1033 L xs K (fL_18 L xs K n) x3 g1100 else (some (0, g1100)) else none else none else if ((xs x3.toNatClampNeg) &&& 63) = 20 then if zin (x3 + 1) L then zbd (f99 K (xs (x3 + 1).toNatClampNeg) g) fun r1106 g1105 => if zin (x3 + 1) L then zbd (f200 K (xs (x3 + 1).toNatClampNeg) g1105) fun r1109 g1108 => if r1106 = r1109 then fL_1033 L xs K (fL_18 L xs K n) x3 g1108 else (some (0, g1108)) else none else none else if ((xs x3.toNatClampNeg) &&& 63) = 21 then zbd (f108 K  g) fun r1114 g1113 => zbd (f207 K  g1113) fun r1117 g1116 => if r1114 = r1117 then fL_1033 L xs K (fL_18 L xs K n) x3 g1116 else (some (0, g1116)) else if ((xs x3.toNatClampNeg) &&& 63) = 22 then if zin (x3 + 1) L then if zin (x3 + 2) L then zbd (f109 K (xs (x3 + 1).toNatClampNeg) (xs (x3 + 2).toNatClampNeg) g) fun r1122 g1121 => if zin (x3 + 1) L then if zin (x3 + 2) L then zbd (f208 K (xs (x3 + 1).toNatClampNeg) (xs (x3 + 2).toNatClampNeg) g1121) fun r1125 g1124 => if r1122 = r1125 then fL_1033 L xs K (fL_18 L xs K n) x3 g1124 else (some (0, g1124)) else none else none else none else none else if ((xs x3.toNatClampNeg) &&& 63) = 23 then if zin (x3 + 1) L then if zin (x3 + 2) L then zbd (f113 K (xs (x3 + 1).toNatClampNeg) (xs (x3 + 2).toNatClampNeg) g) fun r1130 g1129 => if zin (x3 + 1) L then if zin (x3 + 2) L then zbd (f212 K (xs (x3 + 1).toNatClampNeg) (xs (x3 + 2).toNatClampNeg) g1129) fun r1133 g1132 => if r1130 = r1133 then fL_1033 L xs K (fL_18 L xs K n) x3 g1132 else (some (0, g1132)) else none else none else none else none else if ((xs x3.toNatClampNeg) &&& 63) = 24 then zbd (f118 K  g) fun r1138 g1137 => zbd (f214 K  g1137) fun r1141 g1140 => if r1138 = r1141 then fL_1033 L xs K (fL_18 L xs K n) x3 g1140 else (some (0, g1140)) else if ((xs x3.toNatClampNeg) &&& 63) = 25 then zbd (f121 K  g) fun r1146 g1145 => zbd (f215 K  g1145) fun r1149 g1148 => if r1146 = r1149 then fL_1033 L xs K (fL_18 L xs K n) x3 g1148 else (some (0, g1148)) else if ((xs x3.toNatClampNeg) &&& 63) = 26 then if zin (x3 + 1) L then if zin (x3 + 2) L then if zin (x3 + 3) L then zbd (f122 K (xs (x3 + 1).toNatClampNeg) (xs (x3 + 2).toNatClampNeg) (xs (x3 + 3).toNatClampNeg) g) fun r1154 g1153 => if zin (x3 + 1) L then if zin (x3 + 2) L then if zin (x3 + 3) L then zbd (f216 K (xs (x3 + 1).toNatClampNeg) (xs (x3 + 2).toNatClampNeg) (xs (x3 + 3).toNatClampNeg) g1153) fun r1157 g1156 => if r1154 = r1157 then fL_1033 L xs K (fL_18 L xs K n) x3 g1156 else (some (0, g1156)) else none else none else none else none else none else none else if ((xs x3.toNatClampNeg) &&& 63) = 27 then if zin (x3 + 1) L then if zin (x3 + 2) L then zbd (f123 K (xs (x3 + 1).toNatClampNeg) (xs (x3 + 2).toNatClampNeg) g) fun r1162 g1161 => if zin (x3 + 1) L then if zin (x3 + 2) L then zbd (f218 K (xs (x3 + 1).toNatClampNeg) (xs (x3 + 2).toNatClampNeg) g1161) fun r1165 g1164 => if r1162 = r1165 then fL_1033 L xs K (fL_18 L xs K n) x3 g1164 else (some (0, g1164)) else none else none else none else none else if ((xs x3.toNatClampNeg) &&& 63) = 28 then if zin (x3 + 1) L then if zin (x3 + 2) L then zbd (f129 K (xs (x3 + 1).toNatClampNeg) (xs (x3 + 2).toNatClampNeg) g) fun r1170 g1169 => if zin (x3 + 1) L then if zin (x3 + 2) L then zbd (f220 K (xs (x3 + 1).toNatClampNeg) (xs (x3 + 2).toNatClampNeg) g1169) fun r1173 g1172 => if r1170 = r1173 then fL_1033 L xs K (fL_18 L xs K n) x3 g1172 else (some (0, g1172)) else none else none else none else none else if ((xs x3.toNatClampNeg) &&& 63) = 29 then if zin (x3 + 1) L then zbd (f133 K (xs (x3 + 1).toNatClampNeg) g) fun r1178 g1177 => if zin (x3 + 1) L then zbd (f222 K (xs (x3 + 1).toNatClampNeg) g1177) fun r1181 g1180 => if r1178 = r1181 then fL_1033 L xs K (fL_18 L xs K n) x3 g1180 else (some (0, g1180)) else none else none else if ((xs x3.toNatClampNeg) &&& 63) = 30 then zbd (f135 K  g) fun r1186 g1185 => zbd (f224 K  g1185) fun r1189 g1188 => if r1186 = r1189 then fL_1033 L xs K (fL_18 L xs K n) x3 g1188 else (some (0, g1188)) else if ((xs x3.toNatClampNeg) &&& 63) = 31 then if zin (x3 + 1) L then zbd (f136 K (xs (x3 + 1).toNatClampNeg) g) fun r1194 g1193 => if zin (x3 + 1) L then zbd (f225 K (xs (x3 + 1).toNatClampNeg) g1193) fun r1197 g1196 => if r1194 = r1197 then fL_1033 L xs K (fL_18 L xs K n) x3 g1196 else (some (0, g1196)) else none else none else if ((xs x3.toNatClampNeg) &&& 63) = 32 then if zin (x3 + 1) L then zbd (f138 K (xs (x3 + 1).toNatClampNeg) g) fun r1202 g1201 => if zin (x3 + 1) L then zbd (f226 K (xs (x3 + 1).toNatClampNeg) g1201) fun r1205 g1204 => if r1202 = r1205 then fL_1033 L xs K (fL_18 L xs K n) x3 g1204 else (some (0, g1204)) else none else none else if ((xs x3.toNatClampNeg) &&& 63) = 33 then zbd (f140 K  g) fun r1210 g1209 => zbd (f228 K  g1209) fun r1213 g1212 => if r1210 = r1213 then fL_1033 L xs K (fL_18 L xs K n) x3 g1212 else (some (0, g1212)) else if ((xs x3.toNatClampNeg) &&& 63) = 34 then if zin (x3 + 1) L then zbd (f142 K (xs (x3 + 1).toNatClampNeg) g) fun r1218 g1217 => if zin (x3 + 1) L then zbd (f230 K (xs (x3 + 1).toNatClampNeg) g1217) fun r1221 g1220 => if r1218 = r1221 then fL_1033 L xs K (fL_18 L xs K n) x3 g1220 else (some (0, g1220)) else none else none else (fL_1033 L xs K (fL_18 L xs K n) x3 g) else none
theorem FL_1033 {L : Nat} {xs : Nat → Int32} {d : Nat} (K : Nat) (k18 : Int32 → zS → Option (Int32 × zS)) (hk18 : ∀ (x3 : Int32) (g : zS) (r : Int32) (g' : zS), k18 x3 g = some (r, g') → zG2 L xs (d + 10) zlawM 18 [some (.ref zSCR), some (.ref 0), some (.ref 222), some (.int x3)] [] g (some (.int r)) g') (x3 : Int32) (g : zS) (r : Int32) (g' : zS) (hE : fL_1033 L xs K k18 x3 g = some (r, g')) : zG2 L xs (d + 10) zlawM 1033 [some (.ref zSCR), some (.ref 0), some (.ref 222), some (.int x3)] [] g (some (.int r)) g' := by
  unfold fL_1033 at hE
  refine y_iinc (v := (x3 + 5)) (ls2 := [some (.ref zSCR), some (.ref 0), some (.ref 222), some (.int (x3 + 5))]) kL_1033 rfl rfl (by rw [oi_5]) rfl ?_
  refine y_goto (tgt := 18) kL_1036 (by decide) ?_
  exact hk18 (x3 + 5) _ _ _ hE
set_option maxHeartbeats 4000000 in
set_option maxRecDepth 100000 in
theorem FL_18 {L : Nat} {xs : Nat → Int32} {d : Nat} (K : Nat) : ∀ (n : Nat) (x3 : Int32) (g : zS) (r : Int32) (g' : zS) (hE : fL_18 L xs K n x3 g = some (r, g')), zG2 L xs (d + 10) zlawM 18 [some (.ref zSCR), some (.ref 0), some (.ref 222), some (.int x3)] [] g (some (.int r)) g' := by
  intro n
  induction n with
  | zero => intro x3  g r g' hE; cases hE
  | succ n ih =>
    intro x3  g r g' hE
    rw [fL_18] at hE
    refine y_iload_n kL_18 rfl ?_
    refine y_aload_n kL_19 rfl rfl ?_
    refine y_slen kL_20 ?_
    refine y_iconst (v := 5) kL_21 oi_5 ?_
    refine y_isub kL_22 ?_
    by_cases c1224 : ((nI L) - 5) < x3
    · rw [if_pos c1224] at hE
      refine y_icT (tgt := 1039) kL_23 (by decide) c1224 ?_
      refine y_iconst (v := 1) kL_1039 oi_1 ?_
      obtain ⟨rfl, rfl⟩ := zpr hE
      exact y_zret kL_1040 rfl (by decide)
    · rw [if_neg c1224] at hE
      refine y_icF 1039 kL_23 (by decide) c1224 ?_
      refine y_aload_n kL_26 rfl rfl ?_
      refine y_iload_n kL_27 rfl ?_
      obtain ⟨hc, hE⟩ := zif_some hE
      refine y_sld kL_28 hc ?_
      refine y_bipush (v := 63) kL_29 b8_63 ?_
      refine y_iand kL_31 ?_
      by_cases c944 : ((xs x3.toNatClampNeg) &&& 63) = 0
      · rw [if_pos c944] at hE
        refine y_tsw (tgt := 188) (off := 156) 0 kL_32 c944 (by decide) (by decide) (by decide) (by decide) ?_
        refine y_aload_n kL_188 rfl rfl ?_
        refine y_aload_n kL_189 rfl rfl ?_
        refine y_iload_n kL_190 rfl ?_
        refine y_iconst (v := 1) kL_191 oi_1 ?_
        refine y_iadd kL_192 ?_
        obtain ⟨hc, hE⟩ := zif_some hE
        refine y_sld kL_193 hc ?_
        obtain ⟨r946, g945, hc947, hE⟩ := zbd_some hE
        refine y_invVi (j := 11) (As := [.int (xs (x3 + 1).toNatClampNeg)]) (rest := []) (N := zm11) (F11 K (xs (x3 + 1).toNatClampNeg) _ r946 g945 hc947 (d + 7)) kL_194 lk_11_13 zm11_get na11 rfl (Nat.le_of_ble_eq_true rfl) sh0 (by decide) rfl ?_
        refine y_aload_n kL_197 rfl rfl ?_
        refine y_aload_n kL_198 rfl rfl ?_
        refine y_iload_n kL_199 rfl ?_
        refine y_iconst (v := 1) kL_200 oi_1 ?_
        refine y_iadd kL_201 ?_
        obtain ⟨hc, hE⟩ := zif_some hE
        refine y_sld kL_202 hc ?_
        obtain ⟨r949, g948, hc950, hE⟩ := zbd_some hE
        refine y_invVi (j := 145) (As := [.int (xs (x3 + 1).toNatClampNeg)]) (rest := [.int r946]) (N := zm145) (F145 K (xs (x3 + 1).toNatClampNeg) _ r949 g948 hc950 (d + 8)) kL_203 lk_11_17 zm145_get na145 rfl (Nat.le_of_ble_eq_true rfl) sh222 (by decide) rfl ?_
        by_cases c951 : r946 = r949
        · rw [if_pos c951] at hE
          refine y_icT (tgt := 1033) kL_206 (by decide) c951 ?_
          exact FL_1033 K (fL_18 L xs K n) ih x3 _ _ _ hE
        · rw [if_neg c951] at hE
          refine y_icF 1033 kL_206 (by decide) c951 ?_
          refine y_iconst (v := 0) kL_209 oi_0 ?_
          obtain ⟨rfl, rfl⟩ := zpr hE
          exact y_zret kL_210 rfl (by decide)
      · rw [if_neg c944] at hE
        by_cases c952 : ((xs x3.toNatClampNeg) &&& 63) = 1
        · rw [if_pos c952] at hE
          refine y_tsw (tgt := 211) (off := 179) 1 kL_32 c952 (by decide) (by decide) (by decide) (by decide) ?_
          refine y_aload_n kL_211 rfl rfl ?_
          obtain ⟨r954, g953, hc955, hE⟩ := zbd_some hE
          refine y_invVi (j := 15) (As := []) (rest := []) (N := zm15) (F15 K  _ r954 g953 hc955 (d + 9)) kL_212 lk_11_18 zm15_get na15 rfl (Nat.le_of_ble_eq_true rfl) sh0 (by decide) rfl ?_
          refine y_aload_n kL_215 rfl rfl ?_
          obtain ⟨r957, g956, hc958, hE⟩ := zbd_some hE
          refine y_invVi (j := 147) (As := []) (rest := [.int r954]) (N := zm147) (F147 K  _ r957 g956 hc958 (d + 9)) kL_216 lk_11_22 zm147_get na147 rfl (Nat.le_of_ble_eq_true rfl) sh222 (by decide) rfl ?_
          by_cases c959 : r954 = r957
          · rw [if_pos c959] at hE
            refine y_icT (tgt := 1033) kL_219 (by decide) c959 ?_
            exact FL_1033 K (fL_18 L xs K n) ih x3 _ _ _ hE
          · rw [if_neg c959] at hE
            refine y_icF 1033 kL_219 (by decide) c959 ?_
            refine y_iconst (v := 0) kL_222 oi_0 ?_
            obtain ⟨rfl, rfl⟩ := zpr hE
            exact y_zret kL_223 rfl (by decide)
        · rw [if_neg c952] at hE
          by_cases c960 : ((xs x3.toNatClampNeg) &&& 63) = 2
          · rw [if_pos c960] at hE
            refine y_tsw (tgt := 224) (off := 192) 2 kL_32 c960 (by decide) (by decide) (by decide) (by decide) ?_
            refine y_aload_n kL_224 rfl rfl ?_
            obtain ⟨r962, g961, hc963, hE⟩ := zbd_some hE
            refine y_invVi (j := 16) (As := []) (rest := []) (N := zm16) (F16 K  _ r962 g961 hc963 (d + 1)) kL_225 lk_11_23 zm16_get na16 rfl (Nat.le_of_ble_eq_true rfl) sh0 (by decide) rfl ?_
            refine y_aload_n kL_228 rfl rfl ?_
            obtain ⟨r965, g964, hc966, hE⟩ := zbd_some hE
            refine y_invVi (j := 148) (As := []) (rest := [.int r962]) (N := zm148) (F148 K  _ r965 g964 hc966 (d + 4)) kL_229 lk_11_26 zm148_get na148 rfl (Nat.le_of_ble_eq_true rfl) sh222 (by decide) rfl ?_
            by_cases c967 : r962 = r965
            · rw [if_pos c967] at hE
              refine y_icT (tgt := 1033) kL_232 (by decide) c967 ?_
              exact FL_1033 K (fL_18 L xs K n) ih x3 _ _ _ hE
            · rw [if_neg c967] at hE
              refine y_icF 1033 kL_232 (by decide) c967 ?_
              refine y_iconst (v := 0) kL_235 oi_0 ?_
              obtain ⟨rfl, rfl⟩ := zpr hE
              exact y_zret kL_236 rfl (by decide)
          · rw [if_neg c960] at hE
            by_cases c968 : ((xs x3.toNatClampNeg) &&& 63) = 3
            · rw [if_pos c968] at hE
              refine y_tsw (tgt := 237) (off := 205) 3 kL_32 c968 (by decide) (by decide) (by decide) (by decide) ?_
              refine y_aload_n kL_237 rfl rfl ?_
              obtain ⟨r970, g969, hc971, hE⟩ := zbd_some hE
              refine y_invVi (j := 43) (As := []) (rest := []) (N := zm43) (F43 K  _ r970 g969 hc971 (d + 1)) kL_238 lk_11_27 zm43_get na43 rfl (Nat.le_of_ble_eq_true rfl) sh0 (by decide) rfl ?_
              refine y_aload_n kL_241 rfl rfl ?_
              obtain ⟨r973, g972, hc974, hE⟩ := zbd_some hE
              refine y_invVi (j := 160) (As := []) (rest := [.int r970]) (N := zm160) (F160 K  _ r973 g972 hc974 (d + 3)) kL_242 lk_11_30 zm160_get na160 rfl (Nat.le_of_ble_eq_true rfl) sh222 (by decide) rfl ?_
              by_cases c975 : r970 = r973
              · rw [if_pos c975] at hE
                refine y_icT (tgt := 1033) kL_245 (by decide) c975 ?_
                exact FL_1033 K (fL_18 L xs K n) ih x3 _ _ _ hE
              · rw [if_neg c975] at hE
                refine y_icF 1033 kL_245 (by decide) c975 ?_
                refine y_iconst (v := 0) kL_248 oi_0 ?_
                obtain ⟨rfl, rfl⟩ := zpr hE
                exact y_zret kL_249 rfl (by decide)
            · rw [if_neg c968] at hE
              by_cases c976 : ((xs x3.toNatClampNeg) &&& 63) = 4
              · rw [if_pos c976] at hE
                refine y_tsw (tgt := 250) (off := 218) 4 kL_32 c976 (by decide) (by decide) (by decide) (by decide) ?_
                refine y_aload_n kL_250 rfl rfl ?_
                refine y_aload_n kL_251 rfl rfl ?_
                refine y_iload_n kL_252 rfl ?_
                refine y_iconst (v := 1) kL_253 oi_1 ?_
                refine y_iadd kL_254 ?_
                obtain ⟨hc, hE⟩ := zif_some hE
                refine y_sld kL_255 hc ?_
                refine y_aload_n kL_256 rfl rfl ?_
                refine y_iload_n kL_257 rfl ?_
                refine y_iconst (v := 2) kL_258 oi_2 ?_
                refine y_iadd kL_259 ?_
                obtain ⟨hc, hE⟩ := zif_some hE
                refine y_sld kL_260 hc ?_
                obtain ⟨r978, g977, hc979, hE⟩ := zbd_some hE
                refine y_invVi (j := 47) (As := [.int (xs (x3 + 1).toNatClampNeg), .int (xs (x3 + 2).toNatClampNeg)]) (rest := []) (N := zm47) (F47 K (xs (x3 + 1).toNatClampNeg) (xs (x3 + 2).toNatClampNeg) _ r978 g977 hc979 (d + 6)) kL_261 lk_11_31 zm47_get na47 rfl (Nat.le_of_ble_eq_true rfl) sh0 (by decide) rfl ?_
                refine y_aload_n kL_264 rfl rfl ?_
                refine y_aload_n kL_265 rfl rfl ?_
                refine y_iload_n kL_266 rfl ?_
                refine y_iconst (v := 1) kL_267 oi_1 ?_
                refine y_iadd kL_268 ?_
                obtain ⟨hc, hE⟩ := zif_some hE
                refine y_sld kL_269 hc ?_
                refine y_aload_n kL_270 rfl rfl ?_
                refine y_iload_n kL_271 rfl ?_
                refine y_iconst (v := 2) kL_272 oi_2 ?_
                refine y_iadd kL_273 ?_
                obtain ⟨hc, hE⟩ := zif_some hE
                refine y_sld kL_274 hc ?_
                obtain ⟨r981, g980, hc982, hE⟩ := zbd_some hE
                refine y_invVi (j := 166) (As := [.int (xs (x3 + 1).toNatClampNeg), .int (xs (x3 + 2).toNatClampNeg)]) (rest := [.int r978]) (N := zm166) (F166 K (xs (x3 + 1).toNatClampNeg) (xs (x3 + 2).toNatClampNeg) _ r981 g980 hc982 (d + 7)) kL_275 lk_11_35 zm166_get na166 rfl (Nat.le_of_ble_eq_true rfl) sh222 (by decide) rfl ?_
                by_cases c983 : r978 = r981
                · rw [if_pos c983] at hE
                  refine y_icT (tgt := 1033) kL_278 (by decide) c983 ?_
                  exact FL_1033 K (fL_18 L xs K n) ih x3 _ _ _ hE
                · rw [if_neg c983] at hE
                  refine y_icF 1033 kL_278 (by decide) c983 ?_
                  refine y_iconst (v := 0) kL_281 oi_0 ?_
                  obtain ⟨rfl, rfl⟩ := zpr hE
                  exact y_zret kL_282 rfl (by decide)
              · rw [if_neg c976] at hE
                by_cases c984 : ((xs x3.toNatClampNeg) &&& 63) = 5
                · rw [if_pos c984] at hE
                  refine y_tsw (tgt := 283) (off := 251) 5 kL_32 c984 (by decide) (by decide) (by decide) (by decide) ?_
                  refine y_aload_n kL_283 rfl rfl ?_
                  refine y_aload_n kL_284 rfl rfl ?_
                  refine y_iload_n kL_285 rfl ?_
                  refine y_iconst (v := 1) kL_286 oi_1 ?_
                  refine y_iadd kL_287 ?_
                  obtain ⟨hc, hE⟩ := zif_some hE
                  refine y_sld kL_288 hc ?_
                  refine y_aload_n kL_289 rfl rfl ?_
                  refine y_iload_n kL_290 rfl ?_
                  refine y_iconst (v := 2) kL_291 oi_2 ?_
                  refine y_iadd kL_292 ?_
                  obtain ⟨hc, hE⟩ := zif_some hE
                  refine y_sld kL_293 hc ?_
                  obtain ⟨r986, g985, hc987, hE⟩ := zbd_some hE
                  refine y_invVi (j := 52) (As := [.int (xs (x3 + 1).toNatClampNeg), .int (xs (x3 + 2).toNatClampNeg)]) (rest := []) (N := zm52) (F52 K (xs (x3 + 1).toNatClampNeg) (xs (x3 + 2).toNatClampNeg) _ r986 g985 hc987 (d + 6)) kL_294 lk_11_36 zm52_get na52 rfl (Nat.le_of_ble_eq_true rfl) sh0 (by decide) rfl ?_
                  refine y_aload_n kL_297 rfl rfl ?_
                  refine y_aload_n kL_298 rfl rfl ?_
                  refine y_iload_n kL_299 rfl ?_
                  refine y_iconst (v := 1) kL_300 oi_1 ?_
                  refine y_iadd kL_301 ?_
                  obtain ⟨hc, hE⟩ := zif_some hE
                  refine y_sld kL_302 hc ?_
                  refine y_aload_n kL_303 rfl rfl ?_
                  refine y_iload_n kL_304 rfl ?_
                  refine y_iconst (v := 2) kL_305 oi_2 ?_
                  refine y_iadd kL_306 ?_
                  obtain ⟨hc, hE⟩ := zif_some hE
                  refine y_sld kL_307 hc ?_
                  obtain ⟨r989, g988, hc990, hE⟩ := zbd_some hE
                  refine y_invVi (j := 169) (As := [.int (xs (x3 + 1).toNatClampNeg), .int (xs (x3 + 2).toNatClampNeg)]) (rest := [.int r986]) (N := zm169) (F169 K (xs (x3 + 1).toNatClampNeg) (xs (x3 + 2).toNatClampNeg) _ r989 g988 hc990 (d + 7)) kL_308 lk_11_39 zm169_get na169 rfl (Nat.le_of_ble_eq_true rfl) sh222 (by decide) rfl ?_
                  by_cases c991 : r986 = r989
                  · rw [if_pos c991] at hE
                    refine y_icT (tgt := 1033) kL_311 (by decide) c991 ?_
                    exact FL_1033 K (fL_18 L xs K n) ih x3 _ _ _ hE
                  · rw [if_neg c991] at hE
                    refine y_icF 1033 kL_311 (by decide) c991 ?_
                    refine y_iconst (v := 0) kL_314 oi_0 ?_
                    obtain ⟨rfl, rfl⟩ := zpr hE
                    exact y_zret kL_315 rfl (by decide)
                · rw [if_neg c984] at hE
                  by_cases c992 : ((xs x3.toNatClampNeg) &&& 63) = 6
                  · rw [if_pos c992] at hE
                    refine y_tsw (tgt := 316) (off := 284) 6 kL_32 c992 (by decide) (by decide) (by decide) (by decide) ?_
                    refine y_aload_n kL_316 rfl rfl ?_
                    refine y_aload_n kL_317 rfl rfl ?_
                    refine y_iload_n kL_318 rfl ?_
                    refine y_iconst (v := 1) kL_319 oi_1 ?_
                    refine y_iadd kL_320 ?_
                    obtain ⟨hc, hE⟩ := zif_some hE
                    refine y_sld kL_321 hc ?_
                    refine y_aload_n kL_322 rfl rfl ?_
                    refine y_iload_n kL_323 rfl ?_
                    refine y_iconst (v := 2) kL_324 oi_2 ?_
                    refine y_iadd kL_325 ?_
                    obtain ⟨hc, hE⟩ := zif_some hE
                    refine y_sld kL_326 hc ?_
                    obtain ⟨r994, g993, hc995, hE⟩ := zbd_some hE
                    refine y_invVi (j := 56) (As := [.int (xs (x3 + 1).toNatClampNeg), .int (xs (x3 + 2).toNatClampNeg)]) (rest := []) (N := zm56) (F56 K (xs (x3 + 1).toNatClampNeg) (xs (x3 + 2).toNatClampNeg) _ r994 g993 hc995 (d + 4)) kL_327 lk_11_40 zm56_get na56 rfl (Nat.le_of_ble_eq_true rfl) sh0 (by decide) rfl ?_
                    refine y_aload_n kL_330 rfl rfl ?_
                    refine y_aload_n kL_331 rfl rfl ?_
                    refine y_iload_n kL_332 rfl ?_
                    refine y_iconst (v := 1) kL_333 oi_1 ?_
                    refine y_iadd kL_334 ?_
                    obtain ⟨hc, hE⟩ := zif_some hE
                    refine y_sld kL_335 hc ?_
                    refine y_aload_n kL_336 rfl rfl ?_
                    refine y_iload_n kL_337 rfl ?_
                    refine y_iconst (v := 2) kL_338 oi_2 ?_
                    refine y_iadd kL_339 ?_
                    obtain ⟨hc, hE⟩ := zif_some hE
                    refine y_sld kL_340 hc ?_
                    obtain ⟨r997, g996, hc998, hE⟩ := zbd_some hE
                    refine y_invVi (j := 172) (As := [.int (xs (x3 + 1).toNatClampNeg), .int (xs (x3 + 2).toNatClampNeg)]) (rest := [.int r994]) (N := zm172) (F172 K (xs (x3 + 1).toNatClampNeg) (xs (x3 + 2).toNatClampNeg) _ r997 g996 hc998 (d + 5)) kL_341 lk_11_43 zm172_get na172 rfl (Nat.le_of_ble_eq_true rfl) sh222 (by decide) rfl ?_
                    by_cases c999 : r994 = r997
                    · rw [if_pos c999] at hE
                      refine y_icT (tgt := 1033) kL_344 (by decide) c999 ?_
                      exact FL_1033 K (fL_18 L xs K n) ih x3 _ _ _ hE
                    · rw [if_neg c999] at hE
                      refine y_icF 1033 kL_344 (by decide) c999 ?_
                      refine y_iconst (v := 0) kL_347 oi_0 ?_
                      obtain ⟨rfl, rfl⟩ := zpr hE
                      exact y_zret kL_348 rfl (by decide)
                  · rw [if_neg c992] at hE
                    by_cases c1000 : ((xs x3.toNatClampNeg) &&& 63) = 7
                    · rw [if_pos c1000] at hE
                      refine y_tsw (tgt := 349) (off := 317) 7 kL_32 c1000 (by decide) (by decide) (by decide) (by decide) ?_
                      refine y_aload_n kL_349 rfl rfl ?_
                      refine y_aload_n kL_350 rfl rfl ?_
                      refine y_iload_n kL_351 rfl ?_
                      refine y_iconst (v := 1) kL_352 oi_1 ?_
                      refine y_iadd kL_353 ?_
                      obtain ⟨hc, hE⟩ := zif_some hE
                      refine y_sld kL_354 hc ?_
                      obtain ⟨r1002, g1001, hc1003, hE⟩ := zbd_some hE
                      refine y_invVi (j := 68) (As := [.int (xs (x3 + 1).toNatClampNeg)]) (rest := []) (N := zm68) (F68 K (xs (x3 + 1).toNatClampNeg) _ r1002 g1001 hc1003 (d + 7)) kL_355 lk_11_44 zm68_get na68 rfl (Nat.le_of_ble_eq_true rfl) sh0 (by decide) rfl ?_
                      refine y_aload_n kL_358 rfl rfl ?_
                      refine y_aload_n kL_359 rfl rfl ?_
                      refine y_iload_n kL_360 rfl ?_
                      refine y_iconst (v := 1) kL_361 oi_1 ?_
                      refine y_iadd kL_362 ?_
                      obtain ⟨hc, hE⟩ := zif_some hE
                      refine y_sld kL_363 hc ?_
                      obtain ⟨r1005, g1004, hc1006, hE⟩ := zbd_some hE
                      refine y_invVi (j := 180) (As := [.int (xs (x3 + 1).toNatClampNeg)]) (rest := [.int r1002]) (N := zm180) (F180 K (xs (x3 + 1).toNatClampNeg) _ r1005 g1004 hc1006 (d + 7)) kL_364 lk_11_47 zm180_get na180 rfl (Nat.le_of_ble_eq_true rfl) sh222 (by decide) rfl ?_
                      by_cases c1007 : r1002 = r1005
                      · rw [if_pos c1007] at hE
                        refine y_icT (tgt := 1033) kL_367 (by decide) c1007 ?_
                        exact FL_1033 K (fL_18 L xs K n) ih x3 _ _ _ hE
                      · rw [if_neg c1007] at hE
                        refine y_icF 1033 kL_367 (by decide) c1007 ?_
                        refine y_iconst (v := 0) kL_370 oi_0 ?_
                        obtain ⟨rfl, rfl⟩ := zpr hE
                        exact y_zret kL_371 rfl (by decide)
                    · rw [if_neg c1000] at hE
                      by_cases c1008 : ((xs x3.toNatClampNeg) &&& 63) = 8
                      · rw [if_pos c1008] at hE
                        refine y_tsw (tgt := 372) (off := 340) 8 kL_32 c1008 (by decide) (by decide) (by decide) (by decide) ?_
                        refine y_aload_n kL_372 rfl rfl ?_
                        obtain ⟨r1010, g1009, hc1011, hE⟩ := zbd_some hE
                        refine y_invVi (j := 70) (As := []) (rest := []) (N := zm70) (F70 K  _ r1010 g1009 hc1011 (d + 9)) kL_373 lk_11_48 zm70_get na70 rfl (Nat.le_of_ble_eq_true rfl) sh0 (by decide) rfl ?_
                        refine y_aload_n kL_376 rfl rfl ?_
                        obtain ⟨r1013, g1012, hc1014, hE⟩ := zbd_some hE
                        refine y_invVi (j := 181) (As := []) (rest := [.int r1010]) (N := zm181) (F181 K  _ r1013 g1012 hc1014 (d + 9)) kL_377 lk_11_51 zm181_get na181 rfl (Nat.le_of_ble_eq_true rfl) sh222 (by decide) rfl ?_
                        by_cases c1015 : r1010 = r1013
                        · rw [if_pos c1015] at hE
                          refine y_icT (tgt := 1033) kL_380 (by decide) c1015 ?_
                          exact FL_1033 K (fL_18 L xs K n) ih x3 _ _ _ hE
                        · rw [if_neg c1015] at hE
                          refine y_icF 1033 kL_380 (by decide) c1015 ?_
                          refine y_iconst (v := 0) kL_383 oi_0 ?_
                          obtain ⟨rfl, rfl⟩ := zpr hE
                          exact y_zret kL_384 rfl (by decide)
                      · rw [if_neg c1008] at hE
                        by_cases c1016 : ((xs x3.toNatClampNeg) &&& 63) = 9
                        · rw [if_pos c1016] at hE
                          refine y_tsw (tgt := 385) (off := 353) 9 kL_32 c1016 (by decide) (by decide) (by decide) (by decide) ?_
                          refine y_aload_n kL_385 rfl rfl ?_
                          refine y_aload_n kL_386 rfl rfl ?_
                          refine y_iload_n kL_387 rfl ?_
                          refine y_iconst (v := 1) kL_388 oi_1 ?_
                          refine y_iadd kL_389 ?_
                          obtain ⟨hc, hE⟩ := zif_some hE
                          refine y_sld kL_390 hc ?_
                          obtain ⟨r1018, g1017, hc1019, hE⟩ := zbd_some hE
                          refine y_invVi (j := 71) (As := [.int (xs (x3 + 1).toNatClampNeg)]) (rest := []) (N := zm71) (F71 K (xs (x3 + 1).toNatClampNeg) _ r1018 g1017 hc1019 (d + 7)) kL_391 lk_11_52 zm71_get na71 rfl (Nat.le_of_ble_eq_true rfl) sh0 (by decide) rfl ?_
                          refine y_aload_n kL_394 rfl rfl ?_
                          refine y_aload_n kL_395 rfl rfl ?_
                          refine y_iload_n kL_396 rfl ?_
                          refine y_iconst (v := 1) kL_397 oi_1 ?_
                          refine y_iadd kL_398 ?_
                          obtain ⟨hc, hE⟩ := zif_some hE
                          refine y_sld kL_399 hc ?_
                          obtain ⟨r1021, g1020, hc1022, hE⟩ := zbd_some hE
                          refine y_invVi (j := 182) (As := [.int (xs (x3 + 1).toNatClampNeg)]) (rest := [.int r1018]) (N := zm182) (F182 K (xs (x3 + 1).toNatClampNeg) _ r1021 g1020 hc1022 (d + 8)) kL_400 lk_11_55 zm182_get na182 rfl (Nat.le_of_ble_eq_true rfl) sh222 (by decide) rfl ?_
                          by_cases c1023 : r1018 = r1021
                          · rw [if_pos c1023] at hE
                            refine y_icT (tgt := 1033) kL_403 (by decide) c1023 ?_
                            exact FL_1033 K (fL_18 L xs K n) ih x3 _ _ _ hE
                          · rw [if_neg c1023] at hE
                            refine y_icF 1033 kL_403 (by decide) c1023 ?_
                            refine y_iconst (v := 0) kL_406 oi_0 ?_
                            obtain ⟨rfl, rfl⟩ := zpr hE
                            exact y_zret kL_407 rfl (by decide)
                        · rw [if_neg c1016] at hE
                          by_cases c1024 : ((xs x3.toNatClampNeg) &&& 63) = 10
                          · rw [if_pos c1024] at hE
                            refine y_tsw (tgt := 408) (off := 376) 10 kL_32 c1024 (by decide) (by decide) (by decide) (by decide) ?_
                            refine y_aload_n kL_408 rfl rfl ?_
                            refine y_aload_n kL_409 rfl rfl ?_
                            refine y_iload_n kL_410 rfl ?_
                            refine y_iconst (v := 1) kL_411 oi_1 ?_
                            refine y_iadd kL_412 ?_
                            obtain ⟨hc, hE⟩ := zif_some hE
                            refine y_sld kL_413 hc ?_
                            refine y_aload_n kL_414 rfl rfl ?_
                            refine y_iload_n kL_415 rfl ?_
                            refine y_iconst (v := 2) kL_416 oi_2 ?_
                            refine y_iadd kL_417 ?_
                            obtain ⟨hc, hE⟩ := zif_some hE
                            refine y_sld kL_418 hc ?_
                            obtain ⟨r1026, g1025, hc1027, hE⟩ := zbd_some hE
                            refine y_invVi (j := 72) (As := [.int (xs (x3 + 1).toNatClampNeg), .int (xs (x3 + 2).toNatClampNeg)]) (rest := []) (N := zm72) (F72 K (xs (x3 + 1).toNatClampNeg) (xs (x3 + 2).toNatClampNeg) _ r1026 g1025 hc1027 (d + 4)) kL_419 lk_11_56 zm72_get na72 rfl (Nat.le_of_ble_eq_true rfl) sh0 (by decide) rfl ?_
                            refine y_aload_n kL_422 rfl rfl ?_
                            refine y_aload_n kL_423 rfl rfl ?_
                            refine y_iload_n kL_424 rfl ?_
                            refine y_iconst (v := 1) kL_425 oi_1 ?_
                            refine y_iadd kL_426 ?_
                            obtain ⟨hc, hE⟩ := zif_some hE
                            refine y_sld kL_427 hc ?_
                            refine y_aload_n kL_428 rfl rfl ?_
                            refine y_iload_n kL_429 rfl ?_
                            refine y_iconst (v := 2) kL_430 oi_2 ?_
                            refine y_iadd kL_431 ?_
                            obtain ⟨hc, hE⟩ := zif_some hE
                            refine y_sld kL_432 hc ?_
                            obtain ⟨r1029, g1028, hc1030, hE⟩ := zbd_some hE
                            refine y_invVi (j := 183) (As := [.int (xs (x3 + 1).toNatClampNeg), .int (xs (x3 + 2).toNatClampNeg)]) (rest := [.int r1026]) (N := zm183) (F183 K (xs (x3 + 1).toNatClampNeg) (xs (x3 + 2).toNatClampNeg) _ r1029 g1028 hc1030 (d + 5)) kL_433 lk_11_59 zm183_get na183 rfl (Nat.le_of_ble_eq_true rfl) sh222 (by decide) rfl ?_
                            by_cases c1031 : r1026 = r1029
                            · rw [if_pos c1031] at hE
                              refine y_icT (tgt := 1033) kL_436 (by decide) c1031 ?_
                              exact FL_1033 K (fL_18 L xs K n) ih x3 _ _ _ hE
                            · rw [if_neg c1031] at hE
                              refine y_icF 1033 kL_436 (by decide) c1031 ?_
                              refine y_iconst (v := 0) kL_439 oi_0 ?_
                              obtain ⟨rfl, rfl⟩ := zpr hE
                              exact y_zret kL_440 rfl (by decide)
                          · rw [if_neg c1024] at hE
                            by_cases c1032 : ((xs x3.toNatClampNeg) &&& 63) = 11
                            · rw [if_pos c1032] at hE
                              refine y_tsw (tgt := 441) (off := 409) 11 kL_32 c1032 (by decide) (by decide) (by decide) (by decide) ?_
                              refine y_aload_n kL_441 rfl rfl ?_
                              obtain ⟨r1034, g1033, hc1035, hE⟩ := zbd_some hE
                              refine y_invVi (j := 73) (As := []) (rest := []) (N := zm73) (F73 K  _ r1034 g1033 hc1035 (d + 5)) kL_442 lk_11_60 zm73_get na73 rfl (Nat.le_of_ble_eq_true rfl) sh0 (by decide) rfl ?_
                              refine y_aload_n kL_445 rfl rfl ?_
                              obtain ⟨r1037, g1036, hc1038, hE⟩ := zbd_some hE
                              refine y_invVi (j := 184) (As := []) (rest := [.int r1034]) (N := zm184) (F184 K  _ r1037 g1036 hc1038 (d + 6)) kL_446 lk_11_63 zm184_get na184 rfl (Nat.le_of_ble_eq_true rfl) sh222 (by decide) rfl ?_
                              by_cases c1039 : r1034 = r1037
                              · rw [if_pos c1039] at hE
                                refine y_icT (tgt := 1033) kL_449 (by decide) c1039 ?_
                                exact FL_1033 K (fL_18 L xs K n) ih x3 _ _ _ hE
                              · rw [if_neg c1039] at hE
                                refine y_icF 1033 kL_449 (by decide) c1039 ?_
                                refine y_iconst (v := 0) kL_452 oi_0 ?_
                                obtain ⟨rfl, rfl⟩ := zpr hE
                                exact y_zret kL_453 rfl (by decide)
                            · rw [if_neg c1032] at hE
                              by_cases c1040 : ((xs x3.toNatClampNeg) &&& 63) = 12
                              · rw [if_pos c1040] at hE
                                refine y_tsw (tgt := 454) (off := 422) 12 kL_32 c1040 (by decide) (by decide) (by decide) (by decide) ?_
                                refine y_aload_n kL_454 rfl rfl ?_
                                refine y_aload_n kL_455 rfl rfl ?_
                                refine y_iload_n kL_456 rfl ?_
                                refine y_iconst (v := 1) kL_457 oi_1 ?_
                                refine y_iadd kL_458 ?_
                                obtain ⟨hc, hE⟩ := zif_some hE
                                refine y_sld kL_459 hc ?_
                                obtain ⟨r1042, g1041, hc1043, hE⟩ := zbd_some hE
                                refine y_invVi (j := 75) (As := [.int (xs (x3 + 1).toNatClampNeg)]) (rest := []) (N := zm75) (F75 K (xs (x3 + 1).toNatClampNeg) _ r1042 g1041 hc1043 (d + 4)) kL_460 lk_11_64 zm75_get na75 rfl (Nat.le_of_ble_eq_true rfl) sh0 (by decide) rfl ?_
                                refine y_aload_n kL_463 rfl rfl ?_
                                refine y_aload_n kL_464 rfl rfl ?_
                                refine y_iload_n kL_465 rfl ?_
                                refine y_iconst (v := 1) kL_466 oi_1 ?_
                                refine y_iadd kL_467 ?_
                                obtain ⟨hc, hE⟩ := zif_some hE
                                refine y_sld kL_468 hc ?_
                                obtain ⟨r1045, g1044, hc1046, hE⟩ := zbd_some hE
                                refine y_invVi (j := 187) (As := [.int (xs (x3 + 1).toNatClampNeg)]) (rest := [.int r1042]) (N := zm187) (F187 K (xs (x3 + 1).toNatClampNeg) _ r1045 g1044 hc1046 (d + 5)) kL_469 lk_11_67 zm187_get na187 rfl (Nat.le_of_ble_eq_true rfl) sh222 (by decide) rfl ?_
                                by_cases c1047 : r1042 = r1045
                                · rw [if_pos c1047] at hE
                                  refine y_icT (tgt := 1033) kL_472 (by decide) c1047 ?_
                                  exact FL_1033 K (fL_18 L xs K n) ih x3 _ _ _ hE
                                · rw [if_neg c1047] at hE
                                  refine y_icF 1033 kL_472 (by decide) c1047 ?_
                                  refine y_iconst (v := 0) kL_475 oi_0 ?_
                                  obtain ⟨rfl, rfl⟩ := zpr hE
                                  exact y_zret kL_476 rfl (by decide)
                              · rw [if_neg c1040] at hE
                                by_cases c1048 : ((xs x3.toNatClampNeg) &&& 63) = 13
                                · rw [if_pos c1048] at hE
                                  refine y_tsw (tgt := 477) (off := 445) 13 kL_32 c1048 (by decide) (by decide) (by decide) (by decide) ?_
                                  refine y_aload_n kL_477 rfl rfl ?_
                                  obtain ⟨r1050, g1049, hc1051, hE⟩ := zbd_some hE
                                  refine y_invVi (j := 85) (As := []) (rest := []) (N := zm85) (F85 K  _ r1050 g1049 hc1051 (d + 6)) kL_478 lk_11_68 zm85_get na85 rfl (Nat.le_of_ble_eq_true rfl) sh0 (by decide) rfl ?_
                                  refine y_aload_n kL_481 rfl rfl ?_
                                  obtain ⟨r1053, g1052, hc1054, hE⟩ := zbd_some hE
                                  refine y_invVi (j := 191) (As := []) (rest := [.int r1050]) (N := zm191) (F191 K  _ r1053 g1052 hc1054 (d + 7)) kL_482 lk_11_71 zm191_get na191 rfl (Nat.le_of_ble_eq_true rfl) sh222 (by decide) rfl ?_
                                  by_cases c1055 : r1050 = r1053
                                  · rw [if_pos c1055] at hE
                                    refine y_icT (tgt := 1033) kL_485 (by decide) c1055 ?_
                                    exact FL_1033 K (fL_18 L xs K n) ih x3 _ _ _ hE
                                  · rw [if_neg c1055] at hE
                                    refine y_icF 1033 kL_485 (by decide) c1055 ?_
                                    refine y_iconst (v := 0) kL_488 oi_0 ?_
                                    obtain ⟨rfl, rfl⟩ := zpr hE
                                    exact y_zret kL_489 rfl (by decide)
                                · rw [if_neg c1048] at hE
                                  by_cases c1056 : ((xs x3.toNatClampNeg) &&& 63) = 14
                                  · rw [if_pos c1056] at hE
                                    refine y_tsw (tgt := 490) (off := 458) 14 kL_32 c1056 (by decide) (by decide) (by decide) (by decide) ?_
                                    refine y_aload_n kL_490 rfl rfl ?_
                                    refine y_aload_n kL_491 rfl rfl ?_
                                    refine y_iload_n kL_492 rfl ?_
                                    refine y_iconst (v := 1) kL_493 oi_1 ?_
                                    refine y_iadd kL_494 ?_
                                    obtain ⟨hc, hE⟩ := zif_some hE
                                    refine y_sld kL_495 hc ?_
                                    refine y_aload_n kL_496 rfl rfl ?_
                                    refine y_iload_n kL_497 rfl ?_
                                    refine y_iconst (v := 2) kL_498 oi_2 ?_
                                    refine y_iadd kL_499 ?_
                                    obtain ⟨hc, hE⟩ := zif_some hE
                                    refine y_sld kL_500 hc ?_
                                    refine y_aload_n kL_501 rfl rfl ?_
                                    refine y_iload_n kL_502 rfl ?_
                                    refine y_iconst (v := 3) kL_503 oi_3 ?_
                                    refine y_iadd kL_504 ?_
                                    obtain ⟨hc, hE⟩ := zif_some hE
                                    refine y_sld kL_505 hc ?_
                                    refine y_aload_n kL_506 rfl rfl ?_
                                    refine y_iload_n kL_507 rfl ?_
                                    refine y_iconst (v := 4) kL_508 oi_4 ?_
                                    refine y_iadd kL_509 ?_
                                    obtain ⟨hc, hE⟩ := zif_some hE
                                    refine y_sld kL_510 hc ?_
                                    obtain ⟨r1058, g1057, hc1059, hE⟩ := zbd_some hE
                                    refine y_invVi (j := 87) (As := [.int (xs (x3 + 1).toNatClampNeg), .int (xs (x3 + 2).toNatClampNeg), .int (xs (x3 + 3).toNatClampNeg), .int (xs (x3 + 4).toNatClampNeg)]) (rest := []) (N := zm87) (F87 K (xs (x3 + 1).toNatClampNeg) (xs (x3 + 2).toNatClampNeg) (xs (x3 + 3).toNatClampNeg) (xs (x3 + 4).toNatClampNeg) _ r1058 g1057 hc1059 (d + 6)) kL_511 lk_11_72 zm87_get na87 rfl (Nat.le_of_ble_eq_true rfl) sh0 (by decide) rfl ?_
                                    refine y_aload_n kL_514 rfl rfl ?_
                                    refine y_aload_n kL_515 rfl rfl ?_
                                    refine y_iload_n kL_516 rfl ?_
                                    refine y_iconst (v := 1) kL_517 oi_1 ?_
                                    refine y_iadd kL_518 ?_
                                    obtain ⟨hc, hE⟩ := zif_some hE
                                    refine y_sld kL_519 hc ?_
                                    refine y_aload_n kL_520 rfl rfl ?_
                                    refine y_iload_n kL_521 rfl ?_
                                    refine y_iconst (v := 2) kL_522 oi_2 ?_
                                    refine y_iadd kL_523 ?_
                                    obtain ⟨hc, hE⟩ := zif_some hE
                                    refine y_sld kL_524 hc ?_
                                    refine y_aload_n kL_525 rfl rfl ?_
                                    refine y_iload_n kL_526 rfl ?_
                                    refine y_iconst (v := 3) kL_527 oi_3 ?_
                                    refine y_iadd kL_528 ?_
                                    obtain ⟨hc, hE⟩ := zif_some hE
                                    refine y_sld kL_529 hc ?_
                                    refine y_aload_n kL_530 rfl rfl ?_
                                    refine y_iload_n kL_531 rfl ?_
                                    refine y_iconst (v := 4) kL_532 oi_4 ?_
                                    refine y_iadd kL_533 ?_
                                    obtain ⟨hc, hE⟩ := zif_some hE
                                    refine y_sld kL_534 hc ?_
                                    obtain ⟨r1061, g1060, hc1062, hE⟩ := zbd_some hE
                                    refine y_invVi (j := 193) (As := [.int (xs (x3 + 1).toNatClampNeg), .int (xs (x3 + 2).toNatClampNeg), .int (xs (x3 + 3).toNatClampNeg), .int (xs (x3 + 4).toNatClampNeg)]) (rest := [.int r1058]) (N := zm193) (F193 K (xs (x3 + 1).toNatClampNeg) (xs (x3 + 2).toNatClampNeg) (xs (x3 + 3).toNatClampNeg) (xs (x3 + 4).toNatClampNeg) _ r1061 g1060 hc1062 (d + 6)) kL_535 lk_11_76 zm193_get na193 rfl (Nat.le_of_ble_eq_true rfl) sh222 (by decide) rfl ?_
                                    by_cases c1063 : r1058 = r1061
                                    · rw [if_pos c1063] at hE
                                      refine y_icT (tgt := 1033) kL_538 (by decide) c1063 ?_
                                      exact FL_1033 K (fL_18 L xs K n) ih x3 _ _ _ hE
                                    · rw [if_neg c1063] at hE
                                      refine y_icF 1033 kL_538 (by decide) c1063 ?_
                                      refine y_iconst (v := 0) kL_541 oi_0 ?_
                                      obtain ⟨rfl, rfl⟩ := zpr hE
                                      exact y_zret kL_542 rfl (by decide)
                                  · rw [if_neg c1056] at hE
                                    by_cases c1064 : ((xs x3.toNatClampNeg) &&& 63) = 15
                                    · rw [if_pos c1064] at hE
                                      refine y_tsw (tgt := 543) (off := 511) 15 kL_32 c1064 (by decide) (by decide) (by decide) (by decide) ?_
                                      refine y_aload_n kL_543 rfl rfl ?_
                                      refine y_aload_n kL_544 rfl rfl ?_
                                      refine y_iload_n kL_545 rfl ?_
                                      refine y_iconst (v := 1) kL_546 oi_1 ?_
                                      refine y_iadd kL_547 ?_
                                      obtain ⟨hc, hE⟩ := zif_some hE
                                      refine y_sld kL_548 hc ?_
                                      refine y_aload_n kL_549 rfl rfl ?_
                                      refine y_iload_n kL_550 rfl ?_
                                      refine y_iconst (v := 2) kL_551 oi_2 ?_
                                      refine y_iadd kL_552 ?_
                                      obtain ⟨hc, hE⟩ := zif_some hE
                                      refine y_sld kL_553 hc ?_
                                      refine y_aload_n kL_554 rfl rfl ?_
                                      refine y_iload_n kL_555 rfl ?_
                                      refine y_iconst (v := 3) kL_556 oi_3 ?_
                                      refine y_iadd kL_557 ?_
                                      obtain ⟨hc, hE⟩ := zif_some hE
                                      refine y_sld kL_558 hc ?_
                                      obtain ⟨r1066, g1065, hc1067, hE⟩ := zbd_some hE
                                      refine y_invVi (j := 89) (As := [.int (xs (x3 + 1).toNatClampNeg), .int (xs (x3 + 2).toNatClampNeg), .int (xs (x3 + 3).toNatClampNeg)]) (rest := []) (N := zm89) (F89 K (xs (x3 + 1).toNatClampNeg) (xs (x3 + 2).toNatClampNeg) (xs (x3 + 3).toNatClampNeg) _ r1066 g1065 hc1067 (d + 6)) kL_559 lk_11_77 zm89_get na89 rfl (Nat.le_of_ble_eq_true rfl) sh0 (by decide) rfl ?_
                                      refine y_aload_n kL_562 rfl rfl ?_
                                      refine y_aload_n kL_563 rfl rfl ?_
                                      refine y_iload_n kL_564 rfl ?_
                                      refine y_iconst (v := 1) kL_565 oi_1 ?_
                                      refine y_iadd kL_566 ?_
                                      obtain ⟨hc, hE⟩ := zif_some hE
                                      refine y_sld kL_567 hc ?_
                                      refine y_aload_n kL_568 rfl rfl ?_
                                      refine y_iload_n kL_569 rfl ?_
                                      refine y_iconst (v := 2) kL_570 oi_2 ?_
                                      refine y_iadd kL_571 ?_
                                      obtain ⟨hc, hE⟩ := zif_some hE
                                      refine y_sld kL_572 hc ?_
                                      refine y_aload_n kL_573 rfl rfl ?_
                                      refine y_iload_n kL_574 rfl ?_
                                      refine y_iconst (v := 3) kL_575 oi_3 ?_
                                      refine y_iadd kL_576 ?_
                                      obtain ⟨hc, hE⟩ := zif_some hE
                                      refine y_sld kL_577 hc ?_
                                      obtain ⟨r1069, g1068, hc1070, hE⟩ := zbd_some hE
                                      refine y_invVi (j := 195) (As := [.int (xs (x3 + 1).toNatClampNeg), .int (xs (x3 + 2).toNatClampNeg), .int (xs (x3 + 3).toNatClampNeg)]) (rest := [.int r1066]) (N := zm195) (F195 K (xs (x3 + 1).toNatClampNeg) (xs (x3 + 2).toNatClampNeg) (xs (x3 + 3).toNatClampNeg) _ r1069 g1068 hc1070 (d + 6)) kL_578 lk_11_81 zm195_get na195 rfl (Nat.le_of_ble_eq_true rfl) sh222 (by decide) rfl ?_
                                      by_cases c1071 : r1066 = r1069
                                      · rw [if_pos c1071] at hE
                                        refine y_icT (tgt := 1033) kL_581 (by decide) c1071 ?_
                                        exact FL_1033 K (fL_18 L xs K n) ih x3 _ _ _ hE
                                      · rw [if_neg c1071] at hE
                                        refine y_icF 1033 kL_581 (by decide) c1071 ?_
                                        refine y_iconst (v := 0) kL_584 oi_0 ?_
                                        obtain ⟨rfl, rfl⟩ := zpr hE
                                        exact y_zret kL_585 rfl (by decide)
                                    · rw [if_neg c1064] at hE
                                      by_cases c1072 : ((xs x3.toNatClampNeg) &&& 63) = 16
                                      · rw [if_pos c1072] at hE
                                        refine y_tsw (tgt := 586) (off := 554) 16 kL_32 c1072 (by decide) (by decide) (by decide) (by decide) ?_
                                        refine y_aload_n kL_586 rfl rfl ?_
                                        refine y_aload_n kL_587 rfl rfl ?_
                                        refine y_iload_n kL_588 rfl ?_
                                        refine y_iconst (v := 1) kL_589 oi_1 ?_
                                        refine y_iadd kL_590 ?_
                                        obtain ⟨hc, hE⟩ := zif_some hE
                                        refine y_sld kL_591 hc ?_
                                        refine y_aload_n kL_592 rfl rfl ?_
                                        refine y_iload_n kL_593 rfl ?_
                                        refine y_iconst (v := 2) kL_594 oi_2 ?_
                                        refine y_iadd kL_595 ?_
                                        obtain ⟨hc, hE⟩ := zif_some hE
                                        refine y_sld kL_596 hc ?_
                                        obtain ⟨r1074, g1073, hc1075, hE⟩ := zbd_some hE
                                        refine y_invVi (j := 92) (As := [.int (xs (x3 + 1).toNatClampNeg), .int (xs (x3 + 2).toNatClampNeg)]) (rest := []) (N := zm92) (F92 K (xs (x3 + 1).toNatClampNeg) (xs (x3 + 2).toNatClampNeg) _ r1074 g1073 hc1075 (d + 6)) kL_597 lk_11_82 zm92_get na92 rfl (Nat.le_of_ble_eq_true rfl) sh0 (by decide) rfl ?_
                                        refine y_aload_n kL_600 rfl rfl ?_
                                        refine y_aload_n kL_601 rfl rfl ?_
                                        refine y_iload_n kL_602 rfl ?_
                                        refine y_iconst (v := 1) kL_603 oi_1 ?_
                                        refine y_iadd kL_604 ?_
                                        obtain ⟨hc, hE⟩ := zif_some hE
                                        refine y_sld kL_605 hc ?_
                                        refine y_aload_n kL_606 rfl rfl ?_
                                        refine y_iload_n kL_607 rfl ?_
                                        refine y_iconst (v := 2) kL_608 oi_2 ?_
                                        refine y_iadd kL_609 ?_
                                        obtain ⟨hc, hE⟩ := zif_some hE
                                        refine y_sld kL_610 hc ?_
                                        obtain ⟨r1077, g1076, hc1078, hE⟩ := zbd_some hE
                                        refine y_invVi (j := 196) (As := [.int (xs (x3 + 1).toNatClampNeg), .int (xs (x3 + 2).toNatClampNeg)]) (rest := [.int r1074]) (N := zm196) (F196 K (xs (x3 + 1).toNatClampNeg) (xs (x3 + 2).toNatClampNeg) _ r1077 g1076 hc1078 (d + 6)) kL_611 lk_11_85 zm196_get na196 rfl (Nat.le_of_ble_eq_true rfl) sh222 (by decide) rfl ?_
                                        by_cases c1079 : r1074 = r1077
                                        · rw [if_pos c1079] at hE
                                          refine y_icT (tgt := 1033) kL_614 (by decide) c1079 ?_
                                          exact FL_1033 K (fL_18 L xs K n) ih x3 _ _ _ hE
                                        · rw [if_neg c1079] at hE
                                          refine y_icF 1033 kL_614 (by decide) c1079 ?_
                                          refine y_iconst (v := 0) kL_617 oi_0 ?_
                                          obtain ⟨rfl, rfl⟩ := zpr hE
                                          exact y_zret kL_618 rfl (by decide)
                                      · rw [if_neg c1072] at hE
                                        by_cases c1080 : ((xs x3.toNatClampNeg) &&& 63) = 17
                                        · rw [if_pos c1080] at hE
                                          refine y_tsw (tgt := 619) (off := 587) 17 kL_32 c1080 (by decide) (by decide) (by decide) (by decide) ?_
                                          refine y_aload_n kL_619 rfl rfl ?_
                                          obtain ⟨r1082, g1081, hc1083, hE⟩ := zbd_some hE
                                          refine y_invVi (j := 93) (As := []) (rest := []) (N := zm93) (F93 K  _ r1082 g1081 hc1083 (d + 6)) kL_620 lk_11_86 zm93_get na93 rfl (Nat.le_of_ble_eq_true rfl) sh0 (by decide) rfl ?_
                                          refine y_aload_n kL_623 rfl rfl ?_
                                          obtain ⟨r1085, g1084, hc1086, hE⟩ := zbd_some hE
                                          refine y_invVi (j := 197) (As := []) (rest := [.int r1082]) (N := zm197) (F197 K  _ r1085 g1084 hc1086 (d + 8)) kL_624 lk_11_89 zm197_get na197 rfl (Nat.le_of_ble_eq_true rfl) sh222 (by decide) rfl ?_
                                          by_cases c1087 : r1082 = r1085
                                          · rw [if_pos c1087] at hE
                                            refine y_icT (tgt := 1033) kL_627 (by decide) c1087 ?_
                                            exact FL_1033 K (fL_18 L xs K n) ih x3 _ _ _ hE
                                          · rw [if_neg c1087] at hE
                                            refine y_icF 1033 kL_627 (by decide) c1087 ?_
                                            refine y_iconst (v := 0) kL_630 oi_0 ?_
                                            obtain ⟨rfl, rfl⟩ := zpr hE
                                            exact y_zret kL_631 rfl (by decide)
                                        · rw [if_neg c1080] at hE
                                          by_cases c1088 : ((xs x3.toNatClampNeg) &&& 63) = 18
                                          · rw [if_pos c1088] at hE
                                            refine y_tsw (tgt := 632) (off := 600) 18 kL_32 c1088 (by decide) (by decide) (by decide) (by decide) ?_
                                            refine y_aload_n kL_632 rfl rfl ?_
                                            refine y_aload_n kL_633 rfl rfl ?_
                                            refine y_iload_n kL_634 rfl ?_
                                            refine y_iconst (v := 1) kL_635 oi_1 ?_
                                            refine y_iadd kL_636 ?_
                                            obtain ⟨hc, hE⟩ := zif_some hE
                                            refine y_sld kL_637 hc ?_
                                            obtain ⟨r1090, g1089, hc1091, hE⟩ := zbd_some hE
                                            refine y_invVi (j := 95) (As := [.int (xs (x3 + 1).toNatClampNeg)]) (rest := []) (N := zm95) (F95 K (xs (x3 + 1).toNatClampNeg) _ r1090 g1089 hc1091 (d + 6)) kL_638 lk_11_90 zm95_get na95 rfl (Nat.le_of_ble_eq_true rfl) sh0 (by decide) rfl ?_
                                            refine y_aload_n kL_641 rfl rfl ?_
                                            refine y_aload_n kL_642 rfl rfl ?_
                                            refine y_iload_n kL_643 rfl ?_
                                            refine y_iconst (v := 1) kL_644 oi_1 ?_
                                            refine y_iadd kL_645 ?_
                                            obtain ⟨hc, hE⟩ := zif_some hE
                                            refine y_sld kL_646 hc ?_
                                            obtain ⟨r1093, g1092, hc1094, hE⟩ := zbd_some hE
                                            refine y_invVi (j := 198) (As := [.int (xs (x3 + 1).toNatClampNeg)]) (rest := [.int r1090]) (N := zm198) (F198 K (xs (x3 + 1).toNatClampNeg) _ r1093 g1092 hc1094 (d + 8)) kL_647 lk_11_93 zm198_get na198 rfl (Nat.le_of_ble_eq_true rfl) sh222 (by decide) rfl ?_
                                            by_cases c1095 : r1090 = r1093
                                            · rw [if_pos c1095] at hE
                                              refine y_icT (tgt := 1033) kL_650 (by decide) c1095 ?_
                                              exact FL_1033 K (fL_18 L xs K n) ih x3 _ _ _ hE
                                            · rw [if_neg c1095] at hE
                                              refine y_icF 1033 kL_650 (by decide) c1095 ?_
                                              refine y_iconst (v := 0) kL_653 oi_0 ?_
                                              obtain ⟨rfl, rfl⟩ := zpr hE
                                              exact y_zret kL_654 rfl (by decide)
                                          · rw [if_neg c1088] at hE
                                            by_cases c1096 : ((xs x3.toNatClampNeg) &&& 63) = 19
                                            · rw [if_pos c1096] at hE
                                              refine y_tsw (tgt := 655) (off := 623) 19 kL_32 c1096 (by decide) (by decide) (by decide) (by decide) ?_
                                              refine y_aload_n kL_655 rfl rfl ?_
                                              refine y_aload_n kL_656 rfl rfl ?_
                                              refine y_iload_n kL_657 rfl ?_
                                              refine y_iconst (v := 1) kL_658 oi_1 ?_
                                              refine y_iadd kL_659 ?_
                                              obtain ⟨hc, hE⟩ := zif_some hE
                                              refine y_sld kL_660 hc ?_
                                              obtain ⟨r1098, g1097, hc1099, hE⟩ := zbd_some hE
                                              refine y_invVi (j := 97) (As := [.int (xs (x3 + 1).toNatClampNeg)]) (rest := []) (N := zm97) (F97 K (xs (x3 + 1).toNatClampNeg) _ r1098 g1097 hc1099 (d + 6)) kL_661 lk_11_94 zm97_get na97 rfl (Nat.le_of_ble_eq_true rfl) sh0 (by decide) rfl ?_
                                              refine y_aload_n kL_664 rfl rfl ?_
                                              refine y_aload_n kL_665 rfl rfl ?_
                                              refine y_iload_n kL_666 rfl ?_
                                              refine y_iconst (v := 1) kL_667 oi_1 ?_
                                              refine y_iadd kL_668 ?_
                                              obtain ⟨hc, hE⟩ := zif_some hE
                                              refine y_sld kL_669 hc ?_
                                              obtain ⟨r1101, g1100, hc1102, hE⟩ := zbd_some hE
                                              refine y_invVi (j := 199) (As := [.int (xs (x3 + 1).toNatClampNeg)]) (rest := [.int r1098]) (N := zm199) (F199 K (xs (x3 + 1).toNatClampNeg) _ r1101 g1100 hc1102 (d + 8)) kL_670 lk_11_97 zm199_get na199 rfl (Nat.le_of_ble_eq_true rfl) sh222 (by decide) rfl ?_
                                              by_cases c1103 : r1098 = r1101
                                              · rw [if_pos c1103] at hE
                                                refine y_icT (tgt := 1033) kL_673 (by decide) c1103 ?_
                                                exact FL_1033 K (fL_18 L xs K n) ih x3 _ _ _ hE
                                              · rw [if_neg c1103] at hE
                                                refine y_icF 1033 kL_673 (by decide) c1103 ?_
                                                refine y_iconst (v := 0) kL_676 oi_0 ?_
                                                obtain ⟨rfl, rfl⟩ := zpr hE
                                                exact y_zret kL_677 rfl (by decide)
                                            · rw [if_neg c1096] at hE
                                              by_cases c1104 : ((xs x3.toNatClampNeg) &&& 63) = 20
                                              · rw [if_pos c1104] at hE
                                                refine y_tsw (tgt := 678) (off := 646) 20 kL_32 c1104 (by decide) (by decide) (by decide) (by decide) ?_
                                                refine y_aload_n kL_678 rfl rfl ?_
                                                refine y_aload_n kL_679 rfl rfl ?_
                                                refine y_iload_n kL_680 rfl ?_
                                                refine y_iconst (v := 1) kL_681 oi_1 ?_
                                                refine y_iadd kL_682 ?_
                                                obtain ⟨hc, hE⟩ := zif_some hE
                                                refine y_sld kL_683 hc ?_
                                                obtain ⟨r1106, g1105, hc1107, hE⟩ := zbd_some hE
                                                refine y_invVi (j := 99) (As := [.int (xs (x3 + 1).toNatClampNeg)]) (rest := []) (N := zm99) (F99 K (xs (x3 + 1).toNatClampNeg) _ r1106 g1105 hc1107 (d + 4)) kL_684 lk_11_98 zm99_get na99 rfl (Nat.le_of_ble_eq_true rfl) sh0 (by decide) rfl ?_
                                                refine y_aload_n kL_687 rfl rfl ?_
                                                refine y_aload_n kL_688 rfl rfl ?_
                                                refine y_iload_n kL_689 rfl ?_
                                                refine y_iconst (v := 1) kL_690 oi_1 ?_
                                                refine y_iadd kL_691 ?_
                                                obtain ⟨hc, hE⟩ := zif_some hE
                                                refine y_sld kL_692 hc ?_
                                                obtain ⟨r1109, g1108, hc1110, hE⟩ := zbd_some hE
                                                refine y_invVi (j := 200) (As := [.int (xs (x3 + 1).toNatClampNeg)]) (rest := [.int r1106]) (N := zm200) (F200 K (xs (x3 + 1).toNatClampNeg) _ r1109 g1108 hc1110 (d + 3)) kL_693 lk_11_101 zm200_get na200 rfl (Nat.le_of_ble_eq_true rfl) sh222 (by decide) rfl ?_
                                                by_cases c1111 : r1106 = r1109
                                                · rw [if_pos c1111] at hE
                                                  refine y_icT (tgt := 1033) kL_696 (by decide) c1111 ?_
                                                  exact FL_1033 K (fL_18 L xs K n) ih x3 _ _ _ hE
                                                · rw [if_neg c1111] at hE
                                                  refine y_icF 1033 kL_696 (by decide) c1111 ?_
                                                  refine y_iconst (v := 0) kL_699 oi_0 ?_
                                                  obtain ⟨rfl, rfl⟩ := zpr hE
                                                  exact y_zret kL_700 rfl (by decide)
                                              · rw [if_neg c1104] at hE
                                                by_cases c1112 : ((xs x3.toNatClampNeg) &&& 63) = 21
                                                · rw [if_pos c1112] at hE
                                                  refine y_tsw (tgt := 701) (off := 669) 21 kL_32 c1112 (by decide) (by decide) (by decide) (by decide) ?_
                                                  refine y_aload_n kL_701 rfl rfl ?_
                                                  obtain ⟨r1114, g1113, hc1115, hE⟩ := zbd_some hE
                                                  refine y_invVi (j := 108) (As := []) (rest := []) (N := zm108) (F108 K  _ r1114 g1113 hc1115 (d + 4)) kL_702 lk_11_102 zm108_get na108 rfl (Nat.le_of_ble_eq_true rfl) sh0 (by decide) rfl ?_
                                                  refine y_aload_n kL_705 rfl rfl ?_
                                                  obtain ⟨r1117, g1116, hc1118, hE⟩ := zbd_some hE
                                                  refine y_invVi (j := 207) (As := []) (rest := [.int r1114]) (N := zm207) (F207 K  _ r1117 g1116 hc1118 (d + 3)) kL_706 lk_11_105 zm207_get na207 rfl (Nat.le_of_ble_eq_true rfl) sh222 (by decide) rfl ?_
                                                  by_cases c1119 : r1114 = r1117
                                                  · rw [if_pos c1119] at hE
                                                    refine y_icT (tgt := 1033) kL_709 (by decide) c1119 ?_
                                                    exact FL_1033 K (fL_18 L xs K n) ih x3 _ _ _ hE
                                                  · rw [if_neg c1119] at hE
                                                    refine y_icF 1033 kL_709 (by decide) c1119 ?_
                                                    refine y_iconst (v := 0) kL_712 oi_0 ?_
                                                    obtain ⟨rfl, rfl⟩ := zpr hE
                                                    exact y_zret kL_713 rfl (by decide)
                                                · rw [if_neg c1112] at hE
                                                  by_cases c1120 : ((xs x3.toNatClampNeg) &&& 63) = 22
                                                  · rw [if_pos c1120] at hE
                                                    refine y_tsw (tgt := 714) (off := 682) 22 kL_32 c1120 (by decide) (by decide) (by decide) (by decide) ?_
                                                    refine y_aload_n kL_714 rfl rfl ?_
                                                    refine y_aload_n kL_715 rfl rfl ?_
                                                    refine y_iload_n kL_716 rfl ?_
                                                    refine y_iconst (v := 1) kL_717 oi_1 ?_
                                                    refine y_iadd kL_718 ?_
                                                    obtain ⟨hc, hE⟩ := zif_some hE
                                                    refine y_sld kL_719 hc ?_
                                                    refine y_aload_n kL_720 rfl rfl ?_
                                                    refine y_iload_n kL_721 rfl ?_
                                                    refine y_iconst (v := 2) kL_722 oi_2 ?_
                                                    refine y_iadd kL_723 ?_
                                                    obtain ⟨hc, hE⟩ := zif_some hE
                                                    refine y_sld kL_724 hc ?_
                                                    obtain ⟨r1122, g1121, hc1123, hE⟩ := zbd_some hE
                                                    refine y_invVi (j := 109) (As := [.int (xs (x3 + 1).toNatClampNeg), .int (xs (x3 + 2).toNatClampNeg)]) (rest := []) (N := zm109) (F109 K (xs (x3 + 1).toNatClampNeg) (xs (x3 + 2).toNatClampNeg) _ r1122 g1121 hc1123 (d + 4)) kL_725 lk_11_106 zm109_get na109 rfl (Nat.le_of_ble_eq_true rfl) sh0 (by decide) rfl ?_
                                                    refine y_aload_n kL_728 rfl rfl ?_
                                                    refine y_aload_n kL_729 rfl rfl ?_
                                                    refine y_iload_n kL_730 rfl ?_
                                                    refine y_iconst (v := 1) kL_731 oi_1 ?_
                                                    refine y_iadd kL_732 ?_
                                                    obtain ⟨hc, hE⟩ := zif_some hE
                                                    refine y_sld kL_733 hc ?_
                                                    refine y_aload_n kL_734 rfl rfl ?_
                                                    refine y_iload_n kL_735 rfl ?_
                                                    refine y_iconst (v := 2) kL_736 oi_2 ?_
                                                    refine y_iadd kL_737 ?_
                                                    obtain ⟨hc, hE⟩ := zif_some hE
                                                    refine y_sld kL_738 hc ?_
                                                    obtain ⟨r1125, g1124, hc1126, hE⟩ := zbd_some hE
                                                    refine y_invVi (j := 208) (As := [.int (xs (x3 + 1).toNatClampNeg), .int (xs (x3 + 2).toNatClampNeg)]) (rest := [.int r1122]) (N := zm208) (F208 K (xs (x3 + 1).toNatClampNeg) (xs (x3 + 2).toNatClampNeg) _ r1125 g1124 hc1126 (d + 4)) kL_739 lk_11_109 zm208_get na208 rfl (Nat.le_of_ble_eq_true rfl) sh222 (by decide) rfl ?_
                                                    by_cases c1127 : r1122 = r1125
                                                    · rw [if_pos c1127] at hE
                                                      refine y_icT (tgt := 1033) kL_742 (by decide) c1127 ?_
                                                      exact FL_1033 K (fL_18 L xs K n) ih x3 _ _ _ hE
                                                    · rw [if_neg c1127] at hE
                                                      refine y_icF 1033 kL_742 (by decide) c1127 ?_
                                                      refine y_iconst (v := 0) kL_745 oi_0 ?_
                                                      obtain ⟨rfl, rfl⟩ := zpr hE
                                                      exact y_zret kL_746 rfl (by decide)
                                                  · rw [if_neg c1120] at hE
                                                    by_cases c1128 : ((xs x3.toNatClampNeg) &&& 63) = 23
                                                    · rw [if_pos c1128] at hE
                                                      refine y_tsw (tgt := 747) (off := 715) 23 kL_32 c1128 (by decide) (by decide) (by decide) (by decide) ?_
                                                      refine y_aload_n kL_747 rfl rfl ?_
                                                      refine y_aload_n kL_748 rfl rfl ?_
                                                      refine y_iload_n kL_749 rfl ?_
                                                      refine y_iconst (v := 1) kL_750 oi_1 ?_
                                                      refine y_iadd kL_751 ?_
                                                      obtain ⟨hc, hE⟩ := zif_some hE
                                                      refine y_sld kL_752 hc ?_
                                                      refine y_aload_n kL_753 rfl rfl ?_
                                                      refine y_iload_n kL_754 rfl ?_
                                                      refine y_iconst (v := 2) kL_755 oi_2 ?_
                                                      refine y_iadd kL_756 ?_
                                                      obtain ⟨hc, hE⟩ := zif_some hE
                                                      refine y_sld kL_757 hc ?_
                                                      obtain ⟨r1130, g1129, hc1131, hE⟩ := zbd_some hE
                                                      refine y_invVi (j := 113) (As := [.int (xs (x3 + 1).toNatClampNeg), .int (xs (x3 + 2).toNatClampNeg)]) (rest := []) (N := zm113) (F113 K (xs (x3 + 1).toNatClampNeg) (xs (x3 + 2).toNatClampNeg) _ r1130 g1129 hc1131 (d + 4)) kL_758 lk_11_110 zm113_get na113 rfl (Nat.le_of_ble_eq_true rfl) sh0 (by decide) rfl ?_
                                                      refine y_aload_n kL_761 rfl rfl ?_
                                                      refine y_aload_n kL_762 rfl rfl ?_
                                                      refine y_iload_n kL_763 rfl ?_
                                                      refine y_iconst (v := 1) kL_764 oi_1 ?_
                                                      refine y_iadd kL_765 ?_
                                                      obtain ⟨hc, hE⟩ := zif_some hE
                                                      refine y_sld kL_766 hc ?_
                                                      refine y_aload_n kL_767 rfl rfl ?_
                                                      refine y_iload_n kL_768 rfl ?_
                                                      refine y_iconst (v := 2) kL_769 oi_2 ?_
                                                      refine y_iadd kL_770 ?_
                                                      obtain ⟨hc, hE⟩ := zif_some hE
                                                      refine y_sld kL_771 hc ?_
                                                      obtain ⟨r1133, g1132, hc1134, hE⟩ := zbd_some hE
                                                      refine y_invVi (j := 212) (As := [.int (xs (x3 + 1).toNatClampNeg), .int (xs (x3 + 2).toNatClampNeg)]) (rest := [.int r1130]) (N := zm212) (F212 K (xs (x3 + 1).toNatClampNeg) (xs (x3 + 2).toNatClampNeg) _ r1133 g1132 hc1134 (d + 4)) kL_772 lk_11_113 zm212_get na212 rfl (Nat.le_of_ble_eq_true rfl) sh222 (by decide) rfl ?_
                                                      by_cases c1135 : r1130 = r1133
                                                      · rw [if_pos c1135] at hE
                                                        refine y_icT (tgt := 1033) kL_775 (by decide) c1135 ?_
                                                        exact FL_1033 K (fL_18 L xs K n) ih x3 _ _ _ hE
                                                      · rw [if_neg c1135] at hE
                                                        refine y_icF 1033 kL_775 (by decide) c1135 ?_
                                                        refine y_iconst (v := 0) kL_778 oi_0 ?_
                                                        obtain ⟨rfl, rfl⟩ := zpr hE
                                                        exact y_zret kL_779 rfl (by decide)
                                                    · rw [if_neg c1128] at hE
                                                      by_cases c1136 : ((xs x3.toNatClampNeg) &&& 63) = 24
                                                      · rw [if_pos c1136] at hE
                                                        refine y_tsw (tgt := 780) (off := 748) 24 kL_32 c1136 (by decide) (by decide) (by decide) (by decide) ?_
                                                        refine y_aload_n kL_780 rfl rfl ?_
                                                        obtain ⟨r1138, g1137, hc1139, hE⟩ := zbd_some hE
                                                        refine y_invVi (j := 118) (As := []) (rest := []) (N := zm118) (F118 K  _ r1138 g1137 hc1139 (d + 6)) kL_781 lk_11_114 zm118_get na118 rfl (Nat.le_of_ble_eq_true rfl) sh0 (by decide) rfl ?_
                                                        refine y_aload_n kL_784 rfl rfl ?_
                                                        obtain ⟨r1141, g1140, hc1142, hE⟩ := zbd_some hE
                                                        refine y_invVi (j := 214) (As := []) (rest := [.int r1138]) (N := zm214) (F214 K  _ r1141 g1140 hc1142 (d + 8)) kL_785 lk_11_117 zm214_get na214 rfl (Nat.le_of_ble_eq_true rfl) sh222 (by decide) rfl ?_
                                                        by_cases c1143 : r1138 = r1141
                                                        · rw [if_pos c1143] at hE
                                                          refine y_icT (tgt := 1033) kL_788 (by decide) c1143 ?_
                                                          exact FL_1033 K (fL_18 L xs K n) ih x3 _ _ _ hE
                                                        · rw [if_neg c1143] at hE
                                                          refine y_icF 1033 kL_788 (by decide) c1143 ?_
                                                          refine y_iconst (v := 0) kL_791 oi_0 ?_
                                                          obtain ⟨rfl, rfl⟩ := zpr hE
                                                          exact y_zret kL_792 rfl (by decide)
                                                      · rw [if_neg c1136] at hE
                                                        by_cases c1144 : ((xs x3.toNatClampNeg) &&& 63) = 25
                                                        · rw [if_pos c1144] at hE
                                                          refine y_tsw (tgt := 793) (off := 761) 25 kL_32 c1144 (by decide) (by decide) (by decide) (by decide) ?_
                                                          refine y_aload_n kL_793 rfl rfl ?_
                                                          obtain ⟨r1146, g1145, hc1147, hE⟩ := zbd_some hE
                                                          refine y_invVi (j := 121) (As := []) (rest := []) (N := zm121) (F121 K  _ r1146 g1145 hc1147 (d + 9)) kL_794 lk_11_118 zm121_get na121 rfl (Nat.le_of_ble_eq_true rfl) sh0 (by decide) rfl ?_
                                                          refine y_aload_n kL_797 rfl rfl ?_
                                                          obtain ⟨r1149, g1148, hc1150, hE⟩ := zbd_some hE
                                                          refine y_invVi (j := 215) (As := []) (rest := [.int r1146]) (N := zm215) (F215 K  _ r1149 g1148 hc1150 (d + 9)) kL_798 lk_11_121 zm215_get na215 rfl (Nat.le_of_ble_eq_true rfl) sh222 (by decide) rfl ?_
                                                          by_cases c1151 : r1146 = r1149
                                                          · rw [if_pos c1151] at hE
                                                            refine y_icT (tgt := 1033) kL_801 (by decide) c1151 ?_
                                                            exact FL_1033 K (fL_18 L xs K n) ih x3 _ _ _ hE
                                                          · rw [if_neg c1151] at hE
                                                            refine y_icF 1033 kL_801 (by decide) c1151 ?_
                                                            refine y_iconst (v := 0) kL_804 oi_0 ?_
                                                            obtain ⟨rfl, rfl⟩ := zpr hE
                                                            exact y_zret kL_805 rfl (by decide)
                                                        · rw [if_neg c1144] at hE
                                                          by_cases c1152 : ((xs x3.toNatClampNeg) &&& 63) = 26
                                                          · rw [if_pos c1152] at hE
                                                            refine y_tsw (tgt := 806) (off := 774) 26 kL_32 c1152 (by decide) (by decide) (by decide) (by decide) ?_
                                                            refine y_aload_n kL_806 rfl rfl ?_
                                                            refine y_aload_n kL_807 rfl rfl ?_
                                                            refine y_iload_n kL_808 rfl ?_
                                                            refine y_iconst (v := 1) kL_809 oi_1 ?_
                                                            refine y_iadd kL_810 ?_
                                                            obtain ⟨hc, hE⟩ := zif_some hE
                                                            refine y_sld kL_811 hc ?_
                                                            refine y_aload_n kL_812 rfl rfl ?_
                                                            refine y_iload_n kL_813 rfl ?_
                                                            refine y_iconst (v := 2) kL_814 oi_2 ?_
                                                            refine y_iadd kL_815 ?_
                                                            obtain ⟨hc, hE⟩ := zif_some hE
                                                            refine y_sld kL_816 hc ?_
                                                            refine y_aload_n kL_817 rfl rfl ?_
                                                            refine y_iload_n kL_818 rfl ?_
                                                            refine y_iconst (v := 3) kL_819 oi_3 ?_
                                                            refine y_iadd kL_820 ?_
                                                            obtain ⟨hc, hE⟩ := zif_some hE
                                                            refine y_sld kL_821 hc ?_
                                                            obtain ⟨r1154, g1153, hc1155, hE⟩ := zbd_some hE
                                                            refine y_invVi (j := 122) (As := [.int (xs (x3 + 1).toNatClampNeg), .int (xs (x3 + 2).toNatClampNeg), .int (xs (x3 + 3).toNatClampNeg)]) (rest := []) (N := zm122) (F122 K (xs (x3 + 1).toNatClampNeg) (xs (x3 + 2).toNatClampNeg) (xs (x3 + 3).toNatClampNeg) _ r1154 g1153 hc1155 (d + 5)) kL_822 lk_11_122 zm122_get na122 rfl (Nat.le_of_ble_eq_true rfl) sh0 (by decide) rfl ?_
                                                            refine y_aload_n kL_825 rfl rfl ?_
                                                            refine y_aload_n kL_826 rfl rfl ?_
                                                            refine y_iload_n kL_827 rfl ?_
                                                            refine y_iconst (v := 1) kL_828 oi_1 ?_
                                                            refine y_iadd kL_829 ?_
                                                            obtain ⟨hc, hE⟩ := zif_some hE
                                                            refine y_sld kL_830 hc ?_
                                                            refine y_aload_n kL_831 rfl rfl ?_
                                                            refine y_iload_n kL_832 rfl ?_
                                                            refine y_iconst (v := 2) kL_833 oi_2 ?_
                                                            refine y_iadd kL_834 ?_
                                                            obtain ⟨hc, hE⟩ := zif_some hE
                                                            refine y_sld kL_835 hc ?_
                                                            refine y_aload_n kL_836 rfl rfl ?_
                                                            refine y_iload_n kL_837 rfl ?_
                                                            refine y_iconst (v := 3) kL_838 oi_3 ?_
                                                            refine y_iadd kL_839 ?_
                                                            obtain ⟨hc, hE⟩ := zif_some hE
                                                            refine y_sld kL_840 hc ?_
                                                            obtain ⟨r1157, g1156, hc1158, hE⟩ := zbd_some hE
                                                            refine y_invVi (j := 216) (As := [.int (xs (x3 + 1).toNatClampNeg), .int (xs (x3 + 2).toNatClampNeg), .int (xs (x3 + 3).toNatClampNeg)]) (rest := [.int r1154]) (N := zm216) (F216 K (xs (x3 + 1).toNatClampNeg) (xs (x3 + 2).toNatClampNeg) (xs (x3 + 3).toNatClampNeg) _ r1157 g1156 hc1158 (d + 5)) kL_841 lk_11_125 zm216_get na216 rfl (Nat.le_of_ble_eq_true rfl) sh222 (by decide) rfl ?_
                                                            by_cases c1159 : r1154 = r1157
                                                            · rw [if_pos c1159] at hE
                                                              refine y_icT (tgt := 1033) kL_844 (by decide) c1159 ?_
                                                              exact FL_1033 K (fL_18 L xs K n) ih x3 _ _ _ hE
                                                            · rw [if_neg c1159] at hE
                                                              refine y_icF 1033 kL_844 (by decide) c1159 ?_
                                                              refine y_iconst (v := 0) kL_847 oi_0 ?_
                                                              obtain ⟨rfl, rfl⟩ := zpr hE
                                                              exact y_zret kL_848 rfl (by decide)
                                                          · rw [if_neg c1152] at hE
                                                            by_cases c1160 : ((xs x3.toNatClampNeg) &&& 63) = 27
                                                            · rw [if_pos c1160] at hE
                                                              refine y_tsw (tgt := 849) (off := 817) 27 kL_32 c1160 (by decide) (by decide) (by decide) (by decide) ?_
                                                              refine y_aload_n kL_849 rfl rfl ?_
                                                              refine y_aload_n kL_850 rfl rfl ?_
                                                              refine y_iload_n kL_851 rfl ?_
                                                              refine y_iconst (v := 1) kL_852 oi_1 ?_
                                                              refine y_iadd kL_853 ?_
                                                              obtain ⟨hc, hE⟩ := zif_some hE
                                                              refine y_sld kL_854 hc ?_
                                                              refine y_aload_n kL_855 rfl rfl ?_
                                                              refine y_iload_n kL_856 rfl ?_
                                                              refine y_iconst (v := 2) kL_857 oi_2 ?_
                                                              refine y_iadd kL_858 ?_
                                                              obtain ⟨hc, hE⟩ := zif_some hE
                                                              refine y_sld kL_859 hc ?_
                                                              obtain ⟨r1162, g1161, hc1163, hE⟩ := zbd_some hE
                                                              refine y_invVi (j := 123) (As := [.int (xs (x3 + 1).toNatClampNeg), .int (xs (x3 + 2).toNatClampNeg)]) (rest := []) (N := zm123) (F123 K (xs (x3 + 1).toNatClampNeg) (xs (x3 + 2).toNatClampNeg) _ r1162 g1161 hc1163 (d + 4)) kL_860 lk_11_126 zm123_get na123 rfl (Nat.le_of_ble_eq_true rfl) sh0 (by decide) rfl ?_
                                                              refine y_aload_n kL_863 rfl rfl ?_
                                                              refine y_aload_n kL_864 rfl rfl ?_
                                                              refine y_iload_n kL_865 rfl ?_
                                                              refine y_iconst (v := 1) kL_866 oi_1 ?_
                                                              refine y_iadd kL_867 ?_
                                                              obtain ⟨hc, hE⟩ := zif_some hE
                                                              refine y_sld kL_868 hc ?_
                                                              refine y_aload_n kL_869 rfl rfl ?_
                                                              refine y_iload_n kL_870 rfl ?_
                                                              refine y_iconst (v := 2) kL_871 oi_2 ?_
                                                              refine y_iadd kL_872 ?_
                                                              obtain ⟨hc, hE⟩ := zif_some hE
                                                              refine y_sld kL_873 hc ?_
                                                              obtain ⟨r1165, g1164, hc1166, hE⟩ := zbd_some hE
                                                              refine y_invVi (j := 218) (As := [.int (xs (x3 + 1).toNatClampNeg), .int (xs (x3 + 2).toNatClampNeg)]) (rest := [.int r1162]) (N := zm218) (F218 K (xs (x3 + 1).toNatClampNeg) (xs (x3 + 2).toNatClampNeg) _ r1165 g1164 hc1166 (d + 4)) kL_874 lk_11_129 zm218_get na218 rfl (Nat.le_of_ble_eq_true rfl) sh222 (by decide) rfl ?_
                                                              by_cases c1167 : r1162 = r1165
                                                              · rw [if_pos c1167] at hE
                                                                refine y_icT (tgt := 1033) kL_877 (by decide) c1167 ?_
                                                                exact FL_1033 K (fL_18 L xs K n) ih x3 _ _ _ hE
                                                              · rw [if_neg c1167] at hE
                                                                refine y_icF 1033 kL_877 (by decide) c1167 ?_
                                                                refine y_iconst (v := 0) kL_880 oi_0 ?_
                                                                obtain ⟨rfl, rfl⟩ := zpr hE
                                                                exact y_zret kL_881 rfl (by decide)
                                                            · rw [if_neg c1160] at hE
                                                              by_cases c1168 : ((xs x3.toNatClampNeg) &&& 63) = 28
                                                              · rw [if_pos c1168] at hE
                                                                refine y_tsw (tgt := 882) (off := 850) 28 kL_32 c1168 (by decide) (by decide) (by decide) (by decide) ?_
                                                                refine y_aload_n kL_882 rfl rfl ?_
                                                                refine y_aload_n kL_883 rfl rfl ?_
                                                                refine y_iload_n kL_884 rfl ?_
                                                                refine y_iconst (v := 1) kL_885 oi_1 ?_
                                                                refine y_iadd kL_886 ?_
                                                                obtain ⟨hc, hE⟩ := zif_some hE
                                                                refine y_sld kL_887 hc ?_
                                                                refine y_aload_n kL_888 rfl rfl ?_
                                                                refine y_iload_n kL_889 rfl ?_
                                                                refine y_iconst (v := 2) kL_890 oi_2 ?_
                                                                refine y_iadd kL_891 ?_
                                                                obtain ⟨hc, hE⟩ := zif_some hE
                                                                refine y_sld kL_892 hc ?_
                                                                obtain ⟨r1170, g1169, hc1171, hE⟩ := zbd_some hE
                                                                refine y_invVi (j := 129) (As := [.int (xs (x3 + 1).toNatClampNeg), .int (xs (x3 + 2).toNatClampNeg)]) (rest := []) (N := zm129) (F129 K (xs (x3 + 1).toNatClampNeg) (xs (x3 + 2).toNatClampNeg) _ r1170 g1169 hc1171 (d + 4)) kL_893 lk_11_130 zm129_get na129 rfl (Nat.le_of_ble_eq_true rfl) sh0 (by decide) rfl ?_
                                                                refine y_aload_n kL_896 rfl rfl ?_
                                                                refine y_aload_n kL_897 rfl rfl ?_
                                                                refine y_iload_n kL_898 rfl ?_
                                                                refine y_iconst (v := 1) kL_899 oi_1 ?_
                                                                refine y_iadd kL_900 ?_
                                                                obtain ⟨hc, hE⟩ := zif_some hE
                                                                refine y_sld kL_901 hc ?_
                                                                refine y_aload_n kL_902 rfl rfl ?_
                                                                refine y_iload_n kL_903 rfl ?_
                                                                refine y_iconst (v := 2) kL_904 oi_2 ?_
                                                                refine y_iadd kL_905 ?_
                                                                obtain ⟨hc, hE⟩ := zif_some hE
                                                                refine y_sld kL_906 hc ?_
                                                                obtain ⟨r1173, g1172, hc1174, hE⟩ := zbd_some hE
                                                                refine y_invVi (j := 220) (As := [.int (xs (x3 + 1).toNatClampNeg), .int (xs (x3 + 2).toNatClampNeg)]) (rest := [.int r1170]) (N := zm220) (F220 K (xs (x3 + 1).toNatClampNeg) (xs (x3 + 2).toNatClampNeg) _ r1173 g1172 hc1174 (d + 4)) kL_907 lk_11_133 zm220_get na220 rfl (Nat.le_of_ble_eq_true rfl) sh222 (by decide) rfl ?_
                                                                by_cases c1175 : r1170 = r1173
                                                                · rw [if_pos c1175] at hE
                                                                  refine y_icT (tgt := 1033) kL_910 (by decide) c1175 ?_
                                                                  exact FL_1033 K (fL_18 L xs K n) ih x3 _ _ _ hE
                                                                · rw [if_neg c1175] at hE
                                                                  refine y_icF 1033 kL_910 (by decide) c1175 ?_
                                                                  refine y_iconst (v := 0) kL_913 oi_0 ?_
                                                                  obtain ⟨rfl, rfl⟩ := zpr hE
                                                                  exact y_zret kL_914 rfl (by decide)
                                                              · rw [if_neg c1168] at hE
                                                                by_cases c1176 : ((xs x3.toNatClampNeg) &&& 63) = 29
                                                                · rw [if_pos c1176] at hE
                                                                  refine y_tsw (tgt := 915) (off := 883) 29 kL_32 c1176 (by decide) (by decide) (by decide) (by decide) ?_
                                                                  refine y_aload_n kL_915 rfl rfl ?_
                                                                  refine y_aload_n kL_916 rfl rfl ?_
                                                                  refine y_iload_n kL_917 rfl ?_
                                                                  refine y_iconst (v := 1) kL_918 oi_1 ?_
                                                                  refine y_iadd kL_919 ?_
                                                                  obtain ⟨hc, hE⟩ := zif_some hE
                                                                  refine y_sld kL_920 hc ?_
                                                                  obtain ⟨r1178, g1177, hc1179, hE⟩ := zbd_some hE
                                                                  refine y_invVi (j := 133) (As := [.int (xs (x3 + 1).toNatClampNeg)]) (rest := []) (N := zm133) (F133 K (xs (x3 + 1).toNatClampNeg) _ r1178 g1177 hc1179 (d + 5)) kL_921 lk_11_134 zm133_get na133 rfl (Nat.le_of_ble_eq_true rfl) sh0 (by decide) rfl ?_
                                                                  refine y_aload_n kL_924 rfl rfl ?_
                                                                  refine y_aload_n kL_925 rfl rfl ?_
                                                                  refine y_iload_n kL_926 rfl ?_
                                                                  refine y_iconst (v := 1) kL_927 oi_1 ?_
                                                                  refine y_iadd kL_928 ?_
                                                                  obtain ⟨hc, hE⟩ := zif_some hE
                                                                  refine y_sld kL_929 hc ?_
                                                                  obtain ⟨r1181, g1180, hc1182, hE⟩ := zbd_some hE
                                                                  refine y_invVi (j := 222) (As := [.int (xs (x3 + 1).toNatClampNeg)]) (rest := [.int r1178]) (N := zm222) (F222 K (xs (x3 + 1).toNatClampNeg) _ r1181 g1180 hc1182 (d + 7)) kL_930 lk_11_137 zm222_get na222 rfl (Nat.le_of_ble_eq_true rfl) sh222 (by decide) rfl ?_
                                                                  by_cases c1183 : r1178 = r1181
                                                                  · rw [if_pos c1183] at hE
                                                                    refine y_icT (tgt := 1033) kL_933 (by decide) c1183 ?_
                                                                    exact FL_1033 K (fL_18 L xs K n) ih x3 _ _ _ hE
                                                                  · rw [if_neg c1183] at hE
                                                                    refine y_icF 1033 kL_933 (by decide) c1183 ?_
                                                                    refine y_iconst (v := 0) kL_936 oi_0 ?_
                                                                    obtain ⟨rfl, rfl⟩ := zpr hE
                                                                    exact y_zret kL_937 rfl (by decide)
                                                                · rw [if_neg c1176] at hE
                                                                  by_cases c1184 : ((xs x3.toNatClampNeg) &&& 63) = 30
                                                                  · rw [if_pos c1184] at hE
                                                                    refine y_tsw (tgt := 938) (off := 906) 30 kL_32 c1184 (by decide) (by decide) (by decide) (by decide) ?_
                                                                    refine y_aload_n kL_938 rfl rfl ?_
                                                                    obtain ⟨r1186, g1185, hc1187, hE⟩ := zbd_some hE
                                                                    refine y_invVi (j := 135) (As := []) (rest := []) (N := zm135) (F135 K  _ r1186 g1185 hc1187 (d + 5)) kL_939 lk_11_138 zm135_get na135 rfl (Nat.le_of_ble_eq_true rfl) sh0 (by decide) rfl ?_
                                                                    refine y_aload_n kL_942 rfl rfl ?_
                                                                    obtain ⟨r1189, g1188, hc1190, hE⟩ := zbd_some hE
                                                                    refine y_invVi (j := 224) (As := []) (rest := [.int r1186]) (N := zm224) (F224 K  _ r1189 g1188 hc1190 (d + 7)) kL_943 lk_11_141 zm224_get na224 rfl (Nat.le_of_ble_eq_true rfl) sh222 (by decide) rfl ?_
                                                                    by_cases c1191 : r1186 = r1189
                                                                    · rw [if_pos c1191] at hE
                                                                      refine y_icT (tgt := 1033) kL_946 (by decide) c1191 ?_
                                                                      exact FL_1033 K (fL_18 L xs K n) ih x3 _ _ _ hE
                                                                    · rw [if_neg c1191] at hE
                                                                      refine y_icF 1033 kL_946 (by decide) c1191 ?_
                                                                      refine y_iconst (v := 0) kL_949 oi_0 ?_
                                                                      obtain ⟨rfl, rfl⟩ := zpr hE
                                                                      exact y_zret kL_950 rfl (by decide)
                                                                  · rw [if_neg c1184] at hE
                                                                    by_cases c1192 : ((xs x3.toNatClampNeg) &&& 63) = 31
                                                                    · rw [if_pos c1192] at hE
                                                                      refine y_tsw (tgt := 951) (off := 919) 31 kL_32 c1192 (by decide) (by decide) (by decide) (by decide) ?_
                                                                      refine y_aload_n kL_951 rfl rfl ?_
                                                                      refine y_aload_n kL_952 rfl rfl ?_
                                                                      refine y_iload_n kL_953 rfl ?_
                                                                      refine y_iconst (v := 1) kL_954 oi_1 ?_
                                                                      refine y_iadd kL_955 ?_
                                                                      obtain ⟨hc, hE⟩ := zif_some hE
                                                                      refine y_sld kL_956 hc ?_
                                                                      obtain ⟨r1194, g1193, hc1195, hE⟩ := zbd_some hE
                                                                      refine y_invVi (j := 136) (As := [.int (xs (x3 + 1).toNatClampNeg)]) (rest := []) (N := zm136) (F136 K (xs (x3 + 1).toNatClampNeg) _ r1194 g1193 hc1195 (d + 7)) kL_957 lk_11_142 zm136_get na136 rfl (Nat.le_of_ble_eq_true rfl) sh0 (by decide) rfl ?_
                                                                      refine y_aload_n kL_960 rfl rfl ?_
                                                                      refine y_aload_n kL_961 rfl rfl ?_
                                                                      refine y_iload_n kL_962 rfl ?_
                                                                      refine y_iconst (v := 1) kL_963 oi_1 ?_
                                                                      refine y_iadd kL_964 ?_
                                                                      obtain ⟨hc, hE⟩ := zif_some hE
                                                                      refine y_sld kL_965 hc ?_
                                                                      obtain ⟨r1197, g1196, hc1198, hE⟩ := zbd_some hE
                                                                      refine y_invVi (j := 225) (As := [.int (xs (x3 + 1).toNatClampNeg)]) (rest := [.int r1194]) (N := zm225) (F225 K (xs (x3 + 1).toNatClampNeg) _ r1197 g1196 hc1198 (d + 6)) kL_966 lk_11_145 zm225_get na225 rfl (Nat.le_of_ble_eq_true rfl) sh222 (by decide) rfl ?_
                                                                      by_cases c1199 : r1194 = r1197
                                                                      · rw [if_pos c1199] at hE
                                                                        refine y_icT (tgt := 1033) kL_969 (by decide) c1199 ?_
                                                                        exact FL_1033 K (fL_18 L xs K n) ih x3 _ _ _ hE
                                                                      · rw [if_neg c1199] at hE
                                                                        refine y_icF 1033 kL_969 (by decide) c1199 ?_
                                                                        refine y_iconst (v := 0) kL_972 oi_0 ?_
                                                                        obtain ⟨rfl, rfl⟩ := zpr hE
                                                                        exact y_zret kL_973 rfl (by decide)
                                                                    · rw [if_neg c1192] at hE
                                                                      by_cases c1200 : ((xs x3.toNatClampNeg) &&& 63) = 32
                                                                      · rw [if_pos c1200] at hE
                                                                        refine y_tsw (tgt := 974) (off := 942) 32 kL_32 c1200 (by decide) (by decide) (by decide) (by decide) ?_
                                                                        refine y_aload_n kL_974 rfl rfl ?_
                                                                        refine y_aload_n kL_975 rfl rfl ?_
                                                                        refine y_iload_n kL_976 rfl ?_
                                                                        refine y_iconst (v := 1) kL_977 oi_1 ?_
                                                                        refine y_iadd kL_978 ?_
                                                                        obtain ⟨hc, hE⟩ := zif_some hE
                                                                        refine y_sld kL_979 hc ?_
                                                                        obtain ⟨r1202, g1201, hc1203, hE⟩ := zbd_some hE
                                                                        refine y_invVi (j := 138) (As := [.int (xs (x3 + 1).toNatClampNeg)]) (rest := []) (N := zm138) (F138 K (xs (x3 + 1).toNatClampNeg) _ r1202 g1201 hc1203 (d + 6)) kL_980 lk_11_146 zm138_get na138 rfl (Nat.le_of_ble_eq_true rfl) sh0 (by decide) rfl ?_
                                                                        refine y_aload_n kL_983 rfl rfl ?_
                                                                        refine y_aload_n kL_984 rfl rfl ?_
                                                                        refine y_iload_n kL_985 rfl ?_
                                                                        refine y_iconst (v := 1) kL_986 oi_1 ?_
                                                                        refine y_iadd kL_987 ?_
                                                                        obtain ⟨hc, hE⟩ := zif_some hE
                                                                        refine y_sld kL_988 hc ?_
                                                                        obtain ⟨r1205, g1204, hc1206, hE⟩ := zbd_some hE
                                                                        refine y_invVi (j := 226) (As := [.int (xs (x3 + 1).toNatClampNeg)]) (rest := [.int r1202]) (N := zm226) (F226 K (xs (x3 + 1).toNatClampNeg) _ r1205 g1204 hc1206 (d + 7)) kL_989 lk_11_149 zm226_get na226 rfl (Nat.le_of_ble_eq_true rfl) sh222 (by decide) rfl ?_
                                                                        by_cases c1207 : r1202 = r1205
                                                                        · rw [if_pos c1207] at hE
                                                                          refine y_icT (tgt := 1033) kL_992 (by decide) c1207 ?_
                                                                          exact FL_1033 K (fL_18 L xs K n) ih x3 _ _ _ hE
                                                                        · rw [if_neg c1207] at hE
                                                                          refine y_icF 1033 kL_992 (by decide) c1207 ?_
                                                                          refine y_iconst (v := 0) kL_995 oi_0 ?_
                                                                          obtain ⟨rfl, rfl⟩ := zpr hE
                                                                          exact y_zret kL_996 rfl (by decide)
                                                                      · rw [if_neg c1200] at hE
                                                                        by_cases c1208 : ((xs x3.toNatClampNeg) &&& 63) = 33
                                                                        · rw [if_pos c1208] at hE
                                                                          refine y_tsw (tgt := 997) (off := 965) 33 kL_32 c1208 (by decide) (by decide) (by decide) (by decide) ?_
                                                                          refine y_aload_n kL_997 rfl rfl ?_
                                                                          obtain ⟨r1210, g1209, hc1211, hE⟩ := zbd_some hE
                                                                          refine y_invVi (j := 140) (As := []) (rest := []) (N := zm140) (F140 K  _ r1210 g1209 hc1211 (d + 5)) kL_998 lk_11_150 zm140_get na140 rfl (Nat.le_of_ble_eq_true rfl) sh0 (by decide) rfl ?_
                                                                          refine y_aload_n kL_1001 rfl rfl ?_
                                                                          obtain ⟨r1213, g1212, hc1214, hE⟩ := zbd_some hE
                                                                          refine y_invVi (j := 228) (As := []) (rest := [.int r1210]) (N := zm228) (F228 K  _ r1213 g1212 hc1214 (d + 7)) kL_1002 lk_11_153 zm228_get na228 rfl (Nat.le_of_ble_eq_true rfl) sh222 (by decide) rfl ?_
                                                                          by_cases c1215 : r1210 = r1213
                                                                          · rw [if_pos c1215] at hE
                                                                            refine y_icT (tgt := 1033) kL_1005 (by decide) c1215 ?_
                                                                            exact FL_1033 K (fL_18 L xs K n) ih x3 _ _ _ hE
                                                                          · rw [if_neg c1215] at hE
                                                                            refine y_icF 1033 kL_1005 (by decide) c1215 ?_
                                                                            refine y_iconst (v := 0) kL_1008 oi_0 ?_
                                                                            obtain ⟨rfl, rfl⟩ := zpr hE
                                                                            exact y_zret kL_1009 rfl (by decide)
                                                                        · rw [if_neg c1208] at hE
                                                                          by_cases c1216 : ((xs x3.toNatClampNeg) &&& 63) = 34
                                                                          · rw [if_pos c1216] at hE
                                                                            refine y_tsw (tgt := 1010) (off := 978) 34 kL_32 c1216 (by decide) (by decide) (by decide) (by decide) ?_
                                                                            refine y_aload_n kL_1010 rfl rfl ?_
                                                                            refine y_aload_n kL_1011 rfl rfl ?_
                                                                            refine y_iload_n kL_1012 rfl ?_
                                                                            refine y_iconst (v := 1) kL_1013 oi_1 ?_
                                                                            refine y_iadd kL_1014 ?_
                                                                            obtain ⟨hc, hE⟩ := zif_some hE
                                                                            refine y_sld kL_1015 hc ?_
                                                                            obtain ⟨r1218, g1217, hc1219, hE⟩ := zbd_some hE
                                                                            refine y_invVi (j := 142) (As := [.int (xs (x3 + 1).toNatClampNeg)]) (rest := []) (N := zm142) (F142 K (xs (x3 + 1).toNatClampNeg) _ r1218 g1217 hc1219 (d + 8)) kL_1016 lk_11_154 zm142_get na142 rfl (Nat.le_of_ble_eq_true rfl) sh0 (by decide) rfl ?_
                                                                            refine y_aload_n kL_1019 rfl rfl ?_
                                                                            refine y_aload_n kL_1020 rfl rfl ?_
                                                                            refine y_iload_n kL_1021 rfl ?_
                                                                            refine y_iconst (v := 1) kL_1022 oi_1 ?_
                                                                            refine y_iadd kL_1023 ?_
                                                                            obtain ⟨hc, hE⟩ := zif_some hE
                                                                            refine y_sld kL_1024 hc ?_
                                                                            obtain ⟨r1221, g1220, hc1222, hE⟩ := zbd_some hE
                                                                            refine y_invVi (j := 230) (As := [.int (xs (x3 + 1).toNatClampNeg)]) (rest := [.int r1218]) (N := zm230) (F230 K (xs (x3 + 1).toNatClampNeg) _ r1221 g1220 hc1222 (d + 9)) kL_1025 lk_11_157 zm230_get na230 rfl (Nat.le_of_ble_eq_true rfl) sh222 (by decide) rfl ?_
                                                                            by_cases c1223 : r1218 = r1221
                                                                            · rw [if_pos c1223] at hE
                                                                              refine y_icT (tgt := 1033) kL_1028 (by decide) c1223 ?_
                                                                              exact FL_1033 K (fL_18 L xs K n) ih x3 _ _ _ hE
                                                                            · rw [if_neg c1223] at hE
                                                                              refine y_icF 1033 kL_1028 (by decide) c1223 ?_
                                                                              refine y_iconst (v := 0) kL_1031 oi_0 ?_
                                                                              obtain ⟨rfl, rfl⟩ := zpr hE
                                                                              exact y_zret kL_1032 rfl (by decide)
                                                                          · rw [if_neg c1216] at hE
                                                                            have w32 : ((xs x3.toNatClampNeg) &&& 63).toInt < 0 ∨ 34 < ((xs x3.toNatClampNeg) &&& 63).toInt := by
                                                                              have e0 := lv_neT (a := 0) c944 (by decide)
                                                                              have e1 := lv_neT (a := 1) c952 (by decide)
                                                                              have e2 := lv_neT (a := 2) c960 (by decide)
                                                                              have e3 := lv_neT (a := 3) c968 (by decide)
                                                                              have e4 := lv_neT (a := 4) c976 (by decide)
                                                                              have e5 := lv_neT (a := 5) c984 (by decide)
                                                                              have e6 := lv_neT (a := 6) c992 (by decide)
                                                                              have e7 := lv_neT (a := 7) c1000 (by decide)
                                                                              have e8 := lv_neT (a := 8) c1008 (by decide)
                                                                              have e9 := lv_neT (a := 9) c1016 (by decide)
                                                                              have e10 := lv_neT (a := 10) c1024 (by decide)
                                                                              have e11 := lv_neT (a := 11) c1032 (by decide)
                                                                              have e12 := lv_neT (a := 12) c1040 (by decide)
                                                                              have e13 := lv_neT (a := 13) c1048 (by decide)
                                                                              have e14 := lv_neT (a := 14) c1056 (by decide)
                                                                              have e15 := lv_neT (a := 15) c1064 (by decide)
                                                                              have e16 := lv_neT (a := 16) c1072 (by decide)
                                                                              have e17 := lv_neT (a := 17) c1080 (by decide)
                                                                              have e18 := lv_neT (a := 18) c1088 (by decide)
                                                                              have e19 := lv_neT (a := 19) c1096 (by decide)
                                                                              have e20 := lv_neT (a := 20) c1104 (by decide)
                                                                              have e21 := lv_neT (a := 21) c1112 (by decide)
                                                                              have e22 := lv_neT (a := 22) c1120 (by decide)
                                                                              have e23 := lv_neT (a := 23) c1128 (by decide)
                                                                              have e24 := lv_neT (a := 24) c1136 (by decide)
                                                                              have e25 := lv_neT (a := 25) c1144 (by decide)
                                                                              have e26 := lv_neT (a := 26) c1152 (by decide)
                                                                              have e27 := lv_neT (a := 27) c1160 (by decide)
                                                                              have e28 := lv_neT (a := 28) c1168 (by decide)
                                                                              have e29 := lv_neT (a := 29) c1176 (by decide)
                                                                              have e30 := lv_neT (a := 30) c1184 (by decide)
                                                                              have e31 := lv_neT (a := 31) c1192 (by decide)
                                                                              have e32 := lv_neT (a := 32) c1200 (by decide)
                                                                              have e33 := lv_neT (a := 33) c1208 (by decide)
                                                                              have e34 := lv_neT (a := 34) c1216 (by decide)
                                                                              omega
                                                                            refine y_tswD (tgt := 1033) kL_32 w32 (by decide) ?_
                                                                            exact FL_1033 K (fL_18 L xs K n) ih x3 _ _ _ hE
