theorem tdL_law_0 : decs cL_law [(0, .new 7, 3), (3, .dup, 1), (4, .invokespecial 9, 3), (7, .astore_n 1, 1), (8, .new 10, 3), (11, .dup, 1), (12, .invokespecial 12, 3), (15, .astore_n 2, 1), (16, .iconst 0, 1), (17, .istore_n 3, 1), (18, .iload_n 3, 1), (19, .aload_n 0, 1), (20, .arraylength, 1), (21, .bipush 7, 2), (23, .isub, 1), (24, .if_icmp .gt 2048, 3), (27, .aload_n 0, 1), (28, .iload_n 3, 1), (29, .iaload, 1), (30, .bipush 63, 2), (32, .iand, 1), (33, .tableswitch 2033 0 50 #[219, 262, 335, 398, 432, 455, 488, 521, 544, 593, 646, 679, 712, 755, 778, 791, 804, 837, 860, 913, 946, 989, 1042, 1105, 1148, 1191, 1224, 1267, 1320, 1373, 1416, 1449, 1492, 1525, 1558, 1591, 1604, 1627, 1650, 1663, 1676, 1689, 1712, 1787, 1862, 1895, 1938, 1961, 1984, 1997, 2010], 219), (252, .aload_n 1, 1), (253, .aload_n 0, 1), (254, .iload_n 3, 1), (255, .iconst 1, 1), (256, .iadd, 1), (257, .iaload, 1), (258, .aload_n 0, 1), (259, .iload_n 3, 1), (260, .iconst 2, 1), (261, .iadd, 1), (262, .iaload, 1), (263, .aload_n 0, 1), (264, .iload_n 3, 1), (265, .iconst 3, 1), (266, .iadd, 1), (267, .iaload, 1), (268, .invokevirtual 13, 3), (271, .aload_n 2, 1)] = true := by decide +kernel
theorem dL_law_0 : decode cL_law 0 = .ok (.new 7, 3) := decs_at tdL_law_0 0 rfl
theorem dL_law_3 : decode cL_law 3 = .ok (.dup, 1) := decs_at tdL_law_0 1 rfl
theorem dL_law_4 : decode cL_law 4 = .ok (.invokespecial 9, 3) := decs_at tdL_law_0 2 rfl
theorem dL_law_7 : decode cL_law 7 = .ok (.astore_n 1, 1) := decs_at tdL_law_0 3 rfl
theorem dL_law_8 : decode cL_law 8 = .ok (.new 10, 3) := decs_at tdL_law_0 4 rfl
theorem dL_law_11 : decode cL_law 11 = .ok (.dup, 1) := decs_at tdL_law_0 5 rfl
theorem dL_law_12 : decode cL_law 12 = .ok (.invokespecial 12, 3) := decs_at tdL_law_0 6 rfl
theorem dL_law_15 : decode cL_law 15 = .ok (.astore_n 2, 1) := decs_at tdL_law_0 7 rfl
theorem dL_law_16 : decode cL_law 16 = .ok (.iconst 0, 1) := decs_at tdL_law_0 8 rfl
theorem dL_law_17 : decode cL_law 17 = .ok (.istore_n 3, 1) := decs_at tdL_law_0 9 rfl
theorem dL_law_18 : decode cL_law 18 = .ok (.iload_n 3, 1) := decs_at tdL_law_0 10 rfl
theorem dL_law_19 : decode cL_law 19 = .ok (.aload_n 0, 1) := decs_at tdL_law_0 11 rfl
theorem dL_law_20 : decode cL_law 20 = .ok (.arraylength, 1) := decs_at tdL_law_0 12 rfl
theorem dL_law_21 : decode cL_law 21 = .ok (.bipush 7, 2) := decs_at tdL_law_0 13 rfl
theorem dL_law_23 : decode cL_law 23 = .ok (.isub, 1) := decs_at tdL_law_0 14 rfl
theorem dL_law_24 : decode cL_law 24 = .ok (.if_icmp .gt 2048, 3) := decs_at tdL_law_0 15 rfl
theorem dL_law_27 : decode cL_law 27 = .ok (.aload_n 0, 1) := decs_at tdL_law_0 16 rfl
theorem dL_law_28 : decode cL_law 28 = .ok (.iload_n 3, 1) := decs_at tdL_law_0 17 rfl
theorem dL_law_29 : decode cL_law 29 = .ok (.iaload, 1) := decs_at tdL_law_0 18 rfl
theorem dL_law_30 : decode cL_law 30 = .ok (.bipush 63, 2) := decs_at tdL_law_0 19 rfl
theorem dL_law_32 : decode cL_law 32 = .ok (.iand, 1) := decs_at tdL_law_0 20 rfl
theorem dL_law_33 : decode cL_law 33 = .ok (.tableswitch 2033 0 50 #[219, 262, 335, 398, 432, 455, 488, 521, 544, 593, 646, 679, 712, 755, 778, 791, 804, 837, 860, 913, 946, 989, 1042, 1105, 1148, 1191, 1224, 1267, 1320, 1373, 1416, 1449, 1492, 1525, 1558, 1591, 1604, 1627, 1650, 1663, 1676, 1689, 1712, 1787, 1862, 1895, 1938, 1961, 1984, 1997, 2010], 219) := decs_at tdL_law_0 21 rfl
theorem dL_law_252 : decode cL_law 252 = .ok (.aload_n 1, 1) := decs_at tdL_law_0 22 rfl
theorem dL_law_253 : decode cL_law 253 = .ok (.aload_n 0, 1) := decs_at tdL_law_0 23 rfl
theorem dL_law_254 : decode cL_law 254 = .ok (.iload_n 3, 1) := decs_at tdL_law_0 24 rfl
theorem dL_law_255 : decode cL_law 255 = .ok (.iconst 1, 1) := decs_at tdL_law_0 25 rfl
theorem dL_law_256 : decode cL_law 256 = .ok (.iadd, 1) := decs_at tdL_law_0 26 rfl
theorem dL_law_257 : decode cL_law 257 = .ok (.iaload, 1) := decs_at tdL_law_0 27 rfl
theorem dL_law_258 : decode cL_law 258 = .ok (.aload_n 0, 1) := decs_at tdL_law_0 28 rfl
theorem dL_law_259 : decode cL_law 259 = .ok (.iload_n 3, 1) := decs_at tdL_law_0 29 rfl
theorem dL_law_260 : decode cL_law 260 = .ok (.iconst 2, 1) := decs_at tdL_law_0 30 rfl
theorem dL_law_261 : decode cL_law 261 = .ok (.iadd, 1) := decs_at tdL_law_0 31 rfl
theorem dL_law_262 : decode cL_law 262 = .ok (.iaload, 1) := decs_at tdL_law_0 32 rfl
theorem dL_law_263 : decode cL_law 263 = .ok (.aload_n 0, 1) := decs_at tdL_law_0 33 rfl
theorem dL_law_264 : decode cL_law 264 = .ok (.iload_n 3, 1) := decs_at tdL_law_0 34 rfl
theorem dL_law_265 : decode cL_law 265 = .ok (.iconst 3, 1) := decs_at tdL_law_0 35 rfl
theorem dL_law_266 : decode cL_law 266 = .ok (.iadd, 1) := decs_at tdL_law_0 36 rfl
theorem dL_law_267 : decode cL_law 267 = .ok (.iaload, 1) := decs_at tdL_law_0 37 rfl
theorem dL_law_268 : decode cL_law 268 = .ok (.invokevirtual 13, 3) := decs_at tdL_law_0 38 rfl
theorem dL_law_271 : decode cL_law 271 = .ok (.aload_n 2, 1) := decs_at tdL_law_0 39 rfl
theorem tdL_law_272 : decs cL_law [(272, .aload_n 0, 1), (273, .iload_n 3, 1), (274, .iconst 1, 1), (275, .iadd, 1), (276, .iaload, 1), (277, .aload_n 0, 1), (278, .iload_n 3, 1), (279, .iconst 2, 1), (280, .iadd, 1), (281, .iaload, 1), (282, .aload_n 0, 1), (283, .iload_n 3, 1), (284, .iconst 3, 1), (285, .iadd, 1), (286, .iaload, 1), (287, .invokevirtual 17, 3), (290, .if_icmp .eq 1776, 3), (293, .iconst 0, 1), (294, .ireturn, 1), (295, .aload_n 1, 1), (296, .aload_n 0, 1), (297, .iload_n 3, 1), (298, .iconst 1, 1), (299, .iadd, 1), (300, .iaload, 1), (301, .aload_n 0, 1), (302, .iload_n 3, 1), (303, .iconst 2, 1), (304, .iadd, 1), (305, .iaload, 1), (306, .aload_n 0, 1), (307, .iload_n 3, 1), (308, .iconst 3, 1), (309, .iadd, 1), (310, .iaload, 1), (311, .i2l, 1), (312, .bipush 32, 2), (314, .lshl, 1), (315, .aload_n 0, 1), (316, .iload_n 3, 1)] = true := by decide +kernel
theorem dL_law_272 : decode cL_law 272 = .ok (.aload_n 0, 1) := decs_at tdL_law_272 0 rfl
theorem dL_law_273 : decode cL_law 273 = .ok (.iload_n 3, 1) := decs_at tdL_law_272 1 rfl
theorem dL_law_274 : decode cL_law 274 = .ok (.iconst 1, 1) := decs_at tdL_law_272 2 rfl
theorem dL_law_275 : decode cL_law 275 = .ok (.iadd, 1) := decs_at tdL_law_272 3 rfl
theorem dL_law_276 : decode cL_law 276 = .ok (.iaload, 1) := decs_at tdL_law_272 4 rfl
theorem dL_law_277 : decode cL_law 277 = .ok (.aload_n 0, 1) := decs_at tdL_law_272 5 rfl
theorem dL_law_278 : decode cL_law 278 = .ok (.iload_n 3, 1) := decs_at tdL_law_272 6 rfl
theorem dL_law_279 : decode cL_law 279 = .ok (.iconst 2, 1) := decs_at tdL_law_272 7 rfl
theorem dL_law_280 : decode cL_law 280 = .ok (.iadd, 1) := decs_at tdL_law_272 8 rfl
theorem dL_law_281 : decode cL_law 281 = .ok (.iaload, 1) := decs_at tdL_law_272 9 rfl
theorem dL_law_282 : decode cL_law 282 = .ok (.aload_n 0, 1) := decs_at tdL_law_272 10 rfl
theorem dL_law_283 : decode cL_law 283 = .ok (.iload_n 3, 1) := decs_at tdL_law_272 11 rfl
theorem dL_law_284 : decode cL_law 284 = .ok (.iconst 3, 1) := decs_at tdL_law_272 12 rfl
theorem dL_law_285 : decode cL_law 285 = .ok (.iadd, 1) := decs_at tdL_law_272 13 rfl
theorem dL_law_286 : decode cL_law 286 = .ok (.iaload, 1) := decs_at tdL_law_272 14 rfl
theorem dL_law_287 : decode cL_law 287 = .ok (.invokevirtual 17, 3) := decs_at tdL_law_272 15 rfl
theorem dL_law_290 : decode cL_law 290 = .ok (.if_icmp .eq 1776, 3) := decs_at tdL_law_272 16 rfl
theorem dL_law_293 : decode cL_law 293 = .ok (.iconst 0, 1) := decs_at tdL_law_272 17 rfl
theorem dL_law_294 : decode cL_law 294 = .ok (.ireturn, 1) := decs_at tdL_law_272 18 rfl
theorem dL_law_295 : decode cL_law 295 = .ok (.aload_n 1, 1) := decs_at tdL_law_272 19 rfl
theorem dL_law_296 : decode cL_law 296 = .ok (.aload_n 0, 1) := decs_at tdL_law_272 20 rfl
theorem dL_law_297 : decode cL_law 297 = .ok (.iload_n 3, 1) := decs_at tdL_law_272 21 rfl
theorem dL_law_298 : decode cL_law 298 = .ok (.iconst 1, 1) := decs_at tdL_law_272 22 rfl
theorem dL_law_299 : decode cL_law 299 = .ok (.iadd, 1) := decs_at tdL_law_272 23 rfl
theorem dL_law_300 : decode cL_law 300 = .ok (.iaload, 1) := decs_at tdL_law_272 24 rfl
theorem dL_law_301 : decode cL_law 301 = .ok (.aload_n 0, 1) := decs_at tdL_law_272 25 rfl
theorem dL_law_302 : decode cL_law 302 = .ok (.iload_n 3, 1) := decs_at tdL_law_272 26 rfl
theorem dL_law_303 : decode cL_law 303 = .ok (.iconst 2, 1) := decs_at tdL_law_272 27 rfl
theorem dL_law_304 : decode cL_law 304 = .ok (.iadd, 1) := decs_at tdL_law_272 28 rfl
theorem dL_law_305 : decode cL_law 305 = .ok (.iaload, 1) := decs_at tdL_law_272 29 rfl
theorem dL_law_306 : decode cL_law 306 = .ok (.aload_n 0, 1) := decs_at tdL_law_272 30 rfl
theorem dL_law_307 : decode cL_law 307 = .ok (.iload_n 3, 1) := decs_at tdL_law_272 31 rfl
theorem dL_law_308 : decode cL_law 308 = .ok (.iconst 3, 1) := decs_at tdL_law_272 32 rfl
theorem dL_law_309 : decode cL_law 309 = .ok (.iadd, 1) := decs_at tdL_law_272 33 rfl
theorem dL_law_310 : decode cL_law 310 = .ok (.iaload, 1) := decs_at tdL_law_272 34 rfl
theorem dL_law_311 : decode cL_law 311 = .ok (.i2l, 1) := decs_at tdL_law_272 35 rfl
theorem dL_law_312 : decode cL_law 312 = .ok (.bipush 32, 2) := decs_at tdL_law_272 36 rfl
theorem dL_law_314 : decode cL_law 314 = .ok (.lshl, 1) := decs_at tdL_law_272 37 rfl
theorem dL_law_315 : decode cL_law 315 = .ok (.aload_n 0, 1) := decs_at tdL_law_272 38 rfl
theorem dL_law_316 : decode cL_law 316 = .ok (.iload_n 3, 1) := decs_at tdL_law_272 39 rfl
theorem tdL_law_317 : decs cL_law [(317, .iconst 4, 1), (318, .iadd, 1), (319, .iaload, 1), (320, .i2l, 1), (321, .ldc2_w 18, 3), (324, .land, 1), (325, .lor, 1), (326, .invokevirtual 20, 3), (329, .aload_n 2, 1), (330, .aload_n 0, 1), (331, .iload_n 3, 1), (332, .iconst 1, 1), (333, .iadd, 1), (334, .iaload, 1), (335, .aload_n 0, 1), (336, .iload_n 3, 1), (337, .iconst 2, 1), (338, .iadd, 1), (339, .iaload, 1), (340, .aload_n 0, 1), (341, .iload_n 3, 1), (342, .iconst 3, 1), (343, .iadd, 1), (344, .iaload, 1), (345, .i2l, 1), (346, .bipush 32, 2), (348, .lshl, 1), (349, .aload_n 0, 1), (350, .iload_n 3, 1), (351, .iconst 4, 1), (352, .iadd, 1), (353, .iaload, 1), (354, .i2l, 1), (355, .ldc2_w 18, 3), (358, .land, 1), (359, .lor, 1), (360, .invokevirtual 24, 3), (363, .if_icmp .eq 1703, 3), (366, .iconst 0, 1), (367, .ireturn, 1)] = true := by decide +kernel
theorem dL_law_317 : decode cL_law 317 = .ok (.iconst 4, 1) := decs_at tdL_law_317 0 rfl
theorem dL_law_318 : decode cL_law 318 = .ok (.iadd, 1) := decs_at tdL_law_317 1 rfl
theorem dL_law_319 : decode cL_law 319 = .ok (.iaload, 1) := decs_at tdL_law_317 2 rfl
theorem dL_law_320 : decode cL_law 320 = .ok (.i2l, 1) := decs_at tdL_law_317 3 rfl
theorem dL_law_321 : decode cL_law 321 = .ok (.ldc2_w 18, 3) := decs_at tdL_law_317 4 rfl
theorem dL_law_324 : decode cL_law 324 = .ok (.land, 1) := decs_at tdL_law_317 5 rfl
theorem dL_law_325 : decode cL_law 325 = .ok (.lor, 1) := decs_at tdL_law_317 6 rfl
theorem dL_law_326 : decode cL_law 326 = .ok (.invokevirtual 20, 3) := decs_at tdL_law_317 7 rfl
theorem dL_law_329 : decode cL_law 329 = .ok (.aload_n 2, 1) := decs_at tdL_law_317 8 rfl
theorem dL_law_330 : decode cL_law 330 = .ok (.aload_n 0, 1) := decs_at tdL_law_317 9 rfl
theorem dL_law_331 : decode cL_law 331 = .ok (.iload_n 3, 1) := decs_at tdL_law_317 10 rfl
theorem dL_law_332 : decode cL_law 332 = .ok (.iconst 1, 1) := decs_at tdL_law_317 11 rfl
theorem dL_law_333 : decode cL_law 333 = .ok (.iadd, 1) := decs_at tdL_law_317 12 rfl
theorem dL_law_334 : decode cL_law 334 = .ok (.iaload, 1) := decs_at tdL_law_317 13 rfl
theorem dL_law_335 : decode cL_law 335 = .ok (.aload_n 0, 1) := decs_at tdL_law_317 14 rfl
theorem dL_law_336 : decode cL_law 336 = .ok (.iload_n 3, 1) := decs_at tdL_law_317 15 rfl
theorem dL_law_337 : decode cL_law 337 = .ok (.iconst 2, 1) := decs_at tdL_law_317 16 rfl
theorem dL_law_338 : decode cL_law 338 = .ok (.iadd, 1) := decs_at tdL_law_317 17 rfl
theorem dL_law_339 : decode cL_law 339 = .ok (.iaload, 1) := decs_at tdL_law_317 18 rfl
theorem dL_law_340 : decode cL_law 340 = .ok (.aload_n 0, 1) := decs_at tdL_law_317 19 rfl
theorem dL_law_341 : decode cL_law 341 = .ok (.iload_n 3, 1) := decs_at tdL_law_317 20 rfl
theorem dL_law_342 : decode cL_law 342 = .ok (.iconst 3, 1) := decs_at tdL_law_317 21 rfl
theorem dL_law_343 : decode cL_law 343 = .ok (.iadd, 1) := decs_at tdL_law_317 22 rfl
theorem dL_law_344 : decode cL_law 344 = .ok (.iaload, 1) := decs_at tdL_law_317 23 rfl
theorem dL_law_345 : decode cL_law 345 = .ok (.i2l, 1) := decs_at tdL_law_317 24 rfl
theorem dL_law_346 : decode cL_law 346 = .ok (.bipush 32, 2) := decs_at tdL_law_317 25 rfl
theorem dL_law_348 : decode cL_law 348 = .ok (.lshl, 1) := decs_at tdL_law_317 26 rfl
theorem dL_law_349 : decode cL_law 349 = .ok (.aload_n 0, 1) := decs_at tdL_law_317 27 rfl
theorem dL_law_350 : decode cL_law 350 = .ok (.iload_n 3, 1) := decs_at tdL_law_317 28 rfl
theorem dL_law_351 : decode cL_law 351 = .ok (.iconst 4, 1) := decs_at tdL_law_317 29 rfl
theorem dL_law_352 : decode cL_law 352 = .ok (.iadd, 1) := decs_at tdL_law_317 30 rfl
theorem dL_law_353 : decode cL_law 353 = .ok (.iaload, 1) := decs_at tdL_law_317 31 rfl
theorem dL_law_354 : decode cL_law 354 = .ok (.i2l, 1) := decs_at tdL_law_317 32 rfl
theorem dL_law_355 : decode cL_law 355 = .ok (.ldc2_w 18, 3) := decs_at tdL_law_317 33 rfl
theorem dL_law_358 : decode cL_law 358 = .ok (.land, 1) := decs_at tdL_law_317 34 rfl
theorem dL_law_359 : decode cL_law 359 = .ok (.lor, 1) := decs_at tdL_law_317 35 rfl
theorem dL_law_360 : decode cL_law 360 = .ok (.invokevirtual 24, 3) := decs_at tdL_law_317 36 rfl
theorem dL_law_363 : decode cL_law 363 = .ok (.if_icmp .eq 1703, 3) := decs_at tdL_law_317 37 rfl
theorem dL_law_366 : decode cL_law 366 = .ok (.iconst 0, 1) := decs_at tdL_law_317 38 rfl
theorem dL_law_367 : decode cL_law 367 = .ok (.ireturn, 1) := decs_at tdL_law_317 39 rfl
theorem tdL_law_368 : decs cL_law [(368, .aload_n 1, 1), (369, .aload_n 0, 1), (370, .iload_n 3, 1), (371, .iconst 1, 1), (372, .iadd, 1), (373, .iaload, 1), (374, .aload_n 0, 1), (375, .iload_n 3, 1), (376, .iconst 2, 1), (377, .iadd, 1), (378, .iaload, 1), (379, .aload_n 0, 1), (380, .iload_n 3, 1), (381, .iconst 3, 1), (382, .iadd, 1), (383, .iaload, 1), (384, .aload_n 0, 1), (385, .iload_n 3, 1), (386, .iconst 4, 1), (387, .iadd, 1), (388, .iaload, 1), (389, .aload_n 0, 1), (390, .iload_n 3, 1), (391, .iconst 5, 1), (392, .iadd, 1), (393, .iaload, 1), (394, .invokevirtual 25, 3), (397, .aload_n 2, 1), (398, .aload_n 0, 1), (399, .iload_n 3, 1), (400, .iconst 1, 1), (401, .iadd, 1), (402, .iaload, 1), (403, .aload_n 0, 1), (404, .iload_n 3, 1), (405, .iconst 2, 1), (406, .iadd, 1), (407, .iaload, 1), (408, .aload_n 0, 1), (409, .iload_n 3, 1)] = true := by decide +kernel
theorem dL_law_368 : decode cL_law 368 = .ok (.aload_n 1, 1) := decs_at tdL_law_368 0 rfl
theorem dL_law_369 : decode cL_law 369 = .ok (.aload_n 0, 1) := decs_at tdL_law_368 1 rfl
theorem dL_law_370 : decode cL_law 370 = .ok (.iload_n 3, 1) := decs_at tdL_law_368 2 rfl
theorem dL_law_371 : decode cL_law 371 = .ok (.iconst 1, 1) := decs_at tdL_law_368 3 rfl
theorem dL_law_372 : decode cL_law 372 = .ok (.iadd, 1) := decs_at tdL_law_368 4 rfl
theorem dL_law_373 : decode cL_law 373 = .ok (.iaload, 1) := decs_at tdL_law_368 5 rfl
theorem dL_law_374 : decode cL_law 374 = .ok (.aload_n 0, 1) := decs_at tdL_law_368 6 rfl
theorem dL_law_375 : decode cL_law 375 = .ok (.iload_n 3, 1) := decs_at tdL_law_368 7 rfl
theorem dL_law_376 : decode cL_law 376 = .ok (.iconst 2, 1) := decs_at tdL_law_368 8 rfl
theorem dL_law_377 : decode cL_law 377 = .ok (.iadd, 1) := decs_at tdL_law_368 9 rfl
theorem dL_law_378 : decode cL_law 378 = .ok (.iaload, 1) := decs_at tdL_law_368 10 rfl
theorem dL_law_379 : decode cL_law 379 = .ok (.aload_n 0, 1) := decs_at tdL_law_368 11 rfl
theorem dL_law_380 : decode cL_law 380 = .ok (.iload_n 3, 1) := decs_at tdL_law_368 12 rfl
theorem dL_law_381 : decode cL_law 381 = .ok (.iconst 3, 1) := decs_at tdL_law_368 13 rfl
theorem dL_law_382 : decode cL_law 382 = .ok (.iadd, 1) := decs_at tdL_law_368 14 rfl
theorem dL_law_383 : decode cL_law 383 = .ok (.iaload, 1) := decs_at tdL_law_368 15 rfl
theorem dL_law_384 : decode cL_law 384 = .ok (.aload_n 0, 1) := decs_at tdL_law_368 16 rfl
theorem dL_law_385 : decode cL_law 385 = .ok (.iload_n 3, 1) := decs_at tdL_law_368 17 rfl
theorem dL_law_386 : decode cL_law 386 = .ok (.iconst 4, 1) := decs_at tdL_law_368 18 rfl
theorem dL_law_387 : decode cL_law 387 = .ok (.iadd, 1) := decs_at tdL_law_368 19 rfl
theorem dL_law_388 : decode cL_law 388 = .ok (.iaload, 1) := decs_at tdL_law_368 20 rfl
theorem dL_law_389 : decode cL_law 389 = .ok (.aload_n 0, 1) := decs_at tdL_law_368 21 rfl
theorem dL_law_390 : decode cL_law 390 = .ok (.iload_n 3, 1) := decs_at tdL_law_368 22 rfl
theorem dL_law_391 : decode cL_law 391 = .ok (.iconst 5, 1) := decs_at tdL_law_368 23 rfl
theorem dL_law_392 : decode cL_law 392 = .ok (.iadd, 1) := decs_at tdL_law_368 24 rfl
theorem dL_law_393 : decode cL_law 393 = .ok (.iaload, 1) := decs_at tdL_law_368 25 rfl
theorem dL_law_394 : decode cL_law 394 = .ok (.invokevirtual 25, 3) := decs_at tdL_law_368 26 rfl
theorem dL_law_397 : decode cL_law 397 = .ok (.aload_n 2, 1) := decs_at tdL_law_368 27 rfl
theorem dL_law_398 : decode cL_law 398 = .ok (.aload_n 0, 1) := decs_at tdL_law_368 28 rfl
theorem dL_law_399 : decode cL_law 399 = .ok (.iload_n 3, 1) := decs_at tdL_law_368 29 rfl
theorem dL_law_400 : decode cL_law 400 = .ok (.iconst 1, 1) := decs_at tdL_law_368 30 rfl
theorem dL_law_401 : decode cL_law 401 = .ok (.iadd, 1) := decs_at tdL_law_368 31 rfl
theorem dL_law_402 : decode cL_law 402 = .ok (.iaload, 1) := decs_at tdL_law_368 32 rfl
theorem dL_law_403 : decode cL_law 403 = .ok (.aload_n 0, 1) := decs_at tdL_law_368 33 rfl
theorem dL_law_404 : decode cL_law 404 = .ok (.iload_n 3, 1) := decs_at tdL_law_368 34 rfl
theorem dL_law_405 : decode cL_law 405 = .ok (.iconst 2, 1) := decs_at tdL_law_368 35 rfl
theorem dL_law_406 : decode cL_law 406 = .ok (.iadd, 1) := decs_at tdL_law_368 36 rfl
theorem dL_law_407 : decode cL_law 407 = .ok (.iaload, 1) := decs_at tdL_law_368 37 rfl
theorem dL_law_408 : decode cL_law 408 = .ok (.aload_n 0, 1) := decs_at tdL_law_368 38 rfl
theorem dL_law_409 : decode cL_law 409 = .ok (.iload_n 3, 1) := decs_at tdL_law_368 39 rfl
theorem tdL_law_410 : decs cL_law [(410, .iconst 3, 1), (411, .iadd, 1), (412, .iaload, 1), (413, .aload_n 0, 1), (414, .iload_n 3, 1), (415, .iconst 4, 1), (416, .iadd, 1), (417, .iaload, 1), (418, .aload_n 0, 1), (419, .iload_n 3, 1), (420, .iconst 5, 1), (421, .iadd, 1), (422, .iaload, 1), (423, .invokevirtual 29, 3), (426, .if_icmp .eq 1640, 3), (429, .iconst 0, 1), (430, .ireturn, 1), (431, .aload_n 1, 1), (432, .aload_n 0, 1), (433, .iload_n 3, 1), (434, .iconst 1, 1), (435, .iadd, 1), (436, .iaload, 1), (437, .aload_n 0, 1), (438, .iload_n 3, 1), (439, .iconst 2, 1), (440, .iadd, 1), (441, .iaload, 1), (442, .invokevirtual 30, 3), (445, .aload_n 2, 1), (446, .aload_n 0, 1), (447, .iload_n 3, 1), (448, .iconst 1, 1), (449, .iadd, 1), (450, .iaload, 1), (451, .aload_n 0, 1), (452, .iload_n 3, 1), (453, .iconst 2, 1), (454, .iadd, 1), (455, .iaload, 1)] = true := by decide +kernel
theorem dL_law_410 : decode cL_law 410 = .ok (.iconst 3, 1) := decs_at tdL_law_410 0 rfl
theorem dL_law_411 : decode cL_law 411 = .ok (.iadd, 1) := decs_at tdL_law_410 1 rfl
theorem dL_law_412 : decode cL_law 412 = .ok (.iaload, 1) := decs_at tdL_law_410 2 rfl
theorem dL_law_413 : decode cL_law 413 = .ok (.aload_n 0, 1) := decs_at tdL_law_410 3 rfl
theorem dL_law_414 : decode cL_law 414 = .ok (.iload_n 3, 1) := decs_at tdL_law_410 4 rfl
theorem dL_law_415 : decode cL_law 415 = .ok (.iconst 4, 1) := decs_at tdL_law_410 5 rfl
theorem dL_law_416 : decode cL_law 416 = .ok (.iadd, 1) := decs_at tdL_law_410 6 rfl
theorem dL_law_417 : decode cL_law 417 = .ok (.iaload, 1) := decs_at tdL_law_410 7 rfl
theorem dL_law_418 : decode cL_law 418 = .ok (.aload_n 0, 1) := decs_at tdL_law_410 8 rfl
theorem dL_law_419 : decode cL_law 419 = .ok (.iload_n 3, 1) := decs_at tdL_law_410 9 rfl
theorem dL_law_420 : decode cL_law 420 = .ok (.iconst 5, 1) := decs_at tdL_law_410 10 rfl
theorem dL_law_421 : decode cL_law 421 = .ok (.iadd, 1) := decs_at tdL_law_410 11 rfl
theorem dL_law_422 : decode cL_law 422 = .ok (.iaload, 1) := decs_at tdL_law_410 12 rfl
theorem dL_law_423 : decode cL_law 423 = .ok (.invokevirtual 29, 3) := decs_at tdL_law_410 13 rfl
theorem dL_law_426 : decode cL_law 426 = .ok (.if_icmp .eq 1640, 3) := decs_at tdL_law_410 14 rfl
theorem dL_law_429 : decode cL_law 429 = .ok (.iconst 0, 1) := decs_at tdL_law_410 15 rfl
theorem dL_law_430 : decode cL_law 430 = .ok (.ireturn, 1) := decs_at tdL_law_410 16 rfl
theorem dL_law_431 : decode cL_law 431 = .ok (.aload_n 1, 1) := decs_at tdL_law_410 17 rfl
theorem dL_law_432 : decode cL_law 432 = .ok (.aload_n 0, 1) := decs_at tdL_law_410 18 rfl
theorem dL_law_433 : decode cL_law 433 = .ok (.iload_n 3, 1) := decs_at tdL_law_410 19 rfl
theorem dL_law_434 : decode cL_law 434 = .ok (.iconst 1, 1) := decs_at tdL_law_410 20 rfl
theorem dL_law_435 : decode cL_law 435 = .ok (.iadd, 1) := decs_at tdL_law_410 21 rfl
theorem dL_law_436 : decode cL_law 436 = .ok (.iaload, 1) := decs_at tdL_law_410 22 rfl
theorem dL_law_437 : decode cL_law 437 = .ok (.aload_n 0, 1) := decs_at tdL_law_410 23 rfl
theorem dL_law_438 : decode cL_law 438 = .ok (.iload_n 3, 1) := decs_at tdL_law_410 24 rfl
theorem dL_law_439 : decode cL_law 439 = .ok (.iconst 2, 1) := decs_at tdL_law_410 25 rfl
theorem dL_law_440 : decode cL_law 440 = .ok (.iadd, 1) := decs_at tdL_law_410 26 rfl
theorem dL_law_441 : decode cL_law 441 = .ok (.iaload, 1) := decs_at tdL_law_410 27 rfl
theorem dL_law_442 : decode cL_law 442 = .ok (.invokevirtual 30, 3) := decs_at tdL_law_410 28 rfl
theorem dL_law_445 : decode cL_law 445 = .ok (.aload_n 2, 1) := decs_at tdL_law_410 29 rfl
theorem dL_law_446 : decode cL_law 446 = .ok (.aload_n 0, 1) := decs_at tdL_law_410 30 rfl
theorem dL_law_447 : decode cL_law 447 = .ok (.iload_n 3, 1) := decs_at tdL_law_410 31 rfl
theorem dL_law_448 : decode cL_law 448 = .ok (.iconst 1, 1) := decs_at tdL_law_410 32 rfl
theorem dL_law_449 : decode cL_law 449 = .ok (.iadd, 1) := decs_at tdL_law_410 33 rfl
theorem dL_law_450 : decode cL_law 450 = .ok (.iaload, 1) := decs_at tdL_law_410 34 rfl
theorem dL_law_451 : decode cL_law 451 = .ok (.aload_n 0, 1) := decs_at tdL_law_410 35 rfl
theorem dL_law_452 : decode cL_law 452 = .ok (.iload_n 3, 1) := decs_at tdL_law_410 36 rfl
theorem dL_law_453 : decode cL_law 453 = .ok (.iconst 2, 1) := decs_at tdL_law_410 37 rfl
theorem dL_law_454 : decode cL_law 454 = .ok (.iadd, 1) := decs_at tdL_law_410 38 rfl
theorem dL_law_455 : decode cL_law 455 = .ok (.iaload, 1) := decs_at tdL_law_410 39 rfl
theorem tdL_law_456 : decs cL_law [(456, .invokevirtual 34, 3), (459, .lcmp, 1), (460, .ifCond .eq 1606, 3), (463, .iconst 0, 1), (464, .ireturn, 1), (465, .aload_n 1, 1), (466, .aload_n 0, 1), (467, .iload_n 3, 1), (468, .iconst 1, 1), (469, .iadd, 1), (470, .iaload, 1), (471, .invokevirtual 35, 3), (474, .aload_n 2, 1), (475, .aload_n 0, 1), (476, .iload_n 3, 1), (477, .iconst 1, 1), (478, .iadd, 1), (479, .iaload, 1), (480, .invokevirtual 39, 3), (483, .if_icmp .eq 1583, 3), (486, .iconst 0, 1), (487, .ireturn, 1), (488, .aload_n 1, 1), (489, .aload_n 0, 1), (490, .iload_n 3, 1), (491, .iconst 1, 1), (492, .iadd, 1), (493, .iaload, 1), (494, .aload_n 0, 1), (495, .iload_n 3, 1), (496, .iconst 2, 1), (497, .iadd, 1), (498, .iaload, 1), (499, .invokevirtual 40, 3), (502, .aload_n 2, 1), (503, .aload_n 0, 1), (504, .iload_n 3, 1), (505, .iconst 1, 1), (506, .iadd, 1), (507, .iaload, 1)] = true := by decide +kernel
theorem dL_law_456 : decode cL_law 456 = .ok (.invokevirtual 34, 3) := decs_at tdL_law_456 0 rfl
theorem dL_law_459 : decode cL_law 459 = .ok (.lcmp, 1) := decs_at tdL_law_456 1 rfl
theorem dL_law_460 : decode cL_law 460 = .ok (.ifCond .eq 1606, 3) := decs_at tdL_law_456 2 rfl
theorem dL_law_463 : decode cL_law 463 = .ok (.iconst 0, 1) := decs_at tdL_law_456 3 rfl
theorem dL_law_464 : decode cL_law 464 = .ok (.ireturn, 1) := decs_at tdL_law_456 4 rfl
theorem dL_law_465 : decode cL_law 465 = .ok (.aload_n 1, 1) := decs_at tdL_law_456 5 rfl
theorem dL_law_466 : decode cL_law 466 = .ok (.aload_n 0, 1) := decs_at tdL_law_456 6 rfl
theorem dL_law_467 : decode cL_law 467 = .ok (.iload_n 3, 1) := decs_at tdL_law_456 7 rfl
theorem dL_law_468 : decode cL_law 468 = .ok (.iconst 1, 1) := decs_at tdL_law_456 8 rfl
theorem dL_law_469 : decode cL_law 469 = .ok (.iadd, 1) := decs_at tdL_law_456 9 rfl
theorem dL_law_470 : decode cL_law 470 = .ok (.iaload, 1) := decs_at tdL_law_456 10 rfl
theorem dL_law_471 : decode cL_law 471 = .ok (.invokevirtual 35, 3) := decs_at tdL_law_456 11 rfl
theorem dL_law_474 : decode cL_law 474 = .ok (.aload_n 2, 1) := decs_at tdL_law_456 12 rfl
theorem dL_law_475 : decode cL_law 475 = .ok (.aload_n 0, 1) := decs_at tdL_law_456 13 rfl
theorem dL_law_476 : decode cL_law 476 = .ok (.iload_n 3, 1) := decs_at tdL_law_456 14 rfl
theorem dL_law_477 : decode cL_law 477 = .ok (.iconst 1, 1) := decs_at tdL_law_456 15 rfl
theorem dL_law_478 : decode cL_law 478 = .ok (.iadd, 1) := decs_at tdL_law_456 16 rfl
theorem dL_law_479 : decode cL_law 479 = .ok (.iaload, 1) := decs_at tdL_law_456 17 rfl
theorem dL_law_480 : decode cL_law 480 = .ok (.invokevirtual 39, 3) := decs_at tdL_law_456 18 rfl
theorem dL_law_483 : decode cL_law 483 = .ok (.if_icmp .eq 1583, 3) := decs_at tdL_law_456 19 rfl
theorem dL_law_486 : decode cL_law 486 = .ok (.iconst 0, 1) := decs_at tdL_law_456 20 rfl
theorem dL_law_487 : decode cL_law 487 = .ok (.ireturn, 1) := decs_at tdL_law_456 21 rfl
theorem dL_law_488 : decode cL_law 488 = .ok (.aload_n 1, 1) := decs_at tdL_law_456 22 rfl
theorem dL_law_489 : decode cL_law 489 = .ok (.aload_n 0, 1) := decs_at tdL_law_456 23 rfl
theorem dL_law_490 : decode cL_law 490 = .ok (.iload_n 3, 1) := decs_at tdL_law_456 24 rfl
theorem dL_law_491 : decode cL_law 491 = .ok (.iconst 1, 1) := decs_at tdL_law_456 25 rfl
theorem dL_law_492 : decode cL_law 492 = .ok (.iadd, 1) := decs_at tdL_law_456 26 rfl
theorem dL_law_493 : decode cL_law 493 = .ok (.iaload, 1) := decs_at tdL_law_456 27 rfl
theorem dL_law_494 : decode cL_law 494 = .ok (.aload_n 0, 1) := decs_at tdL_law_456 28 rfl
theorem dL_law_495 : decode cL_law 495 = .ok (.iload_n 3, 1) := decs_at tdL_law_456 29 rfl
theorem dL_law_496 : decode cL_law 496 = .ok (.iconst 2, 1) := decs_at tdL_law_456 30 rfl
theorem dL_law_497 : decode cL_law 497 = .ok (.iadd, 1) := decs_at tdL_law_456 31 rfl
theorem dL_law_498 : decode cL_law 498 = .ok (.iaload, 1) := decs_at tdL_law_456 32 rfl
theorem dL_law_499 : decode cL_law 499 = .ok (.invokevirtual 40, 3) := decs_at tdL_law_456 33 rfl
theorem dL_law_502 : decode cL_law 502 = .ok (.aload_n 2, 1) := decs_at tdL_law_456 34 rfl
theorem dL_law_503 : decode cL_law 503 = .ok (.aload_n 0, 1) := decs_at tdL_law_456 35 rfl
theorem dL_law_504 : decode cL_law 504 = .ok (.iload_n 3, 1) := decs_at tdL_law_456 36 rfl
theorem dL_law_505 : decode cL_law 505 = .ok (.iconst 1, 1) := decs_at tdL_law_456 37 rfl
theorem dL_law_506 : decode cL_law 506 = .ok (.iadd, 1) := decs_at tdL_law_456 38 rfl
theorem dL_law_507 : decode cL_law 507 = .ok (.iaload, 1) := decs_at tdL_law_456 39 rfl
theorem tdL_law_508 : decs cL_law [(508, .aload_n 0, 1), (509, .iload_n 3, 1), (510, .iconst 2, 1), (511, .iadd, 1), (512, .iaload, 1), (513, .invokevirtual 44, 3), (516, .if_icmp .eq 1550, 3), (519, .iconst 0, 1), (520, .ireturn, 1), (521, .aload_n 1, 1), (522, .aload_n 0, 1), (523, .iload_n 3, 1), (524, .iconst 1, 1), (525, .iadd, 1), (526, .iaload, 1), (527, .aload_n 0, 1), (528, .iload_n 3, 1), (529, .iconst 2, 1), (530, .iadd, 1), (531, .iaload, 1), (532, .invokevirtual 45, 3), (535, .aload_n 2, 1), (536, .aload_n 0, 1), (537, .iload_n 3, 1), (538, .iconst 1, 1), (539, .iadd, 1), (540, .iaload, 1), (541, .aload_n 0, 1), (542, .iload_n 3, 1), (543, .iconst 2, 1), (544, .iadd, 1), (545, .iaload, 1), (546, .invokevirtual 48, 3), (549, .if_icmp .eq 1517, 3), (552, .iconst 0, 1), (553, .ireturn, 1), (554, .aload_n 1, 1), (555, .aload_n 0, 1), (556, .iload_n 3, 1), (557, .iconst 1, 1)] = true := by decide +kernel
theorem dL_law_508 : decode cL_law 508 = .ok (.aload_n 0, 1) := decs_at tdL_law_508 0 rfl
theorem dL_law_509 : decode cL_law 509 = .ok (.iload_n 3, 1) := decs_at tdL_law_508 1 rfl
theorem dL_law_510 : decode cL_law 510 = .ok (.iconst 2, 1) := decs_at tdL_law_508 2 rfl
theorem dL_law_511 : decode cL_law 511 = .ok (.iadd, 1) := decs_at tdL_law_508 3 rfl
theorem dL_law_512 : decode cL_law 512 = .ok (.iaload, 1) := decs_at tdL_law_508 4 rfl
theorem dL_law_513 : decode cL_law 513 = .ok (.invokevirtual 44, 3) := decs_at tdL_law_508 5 rfl
theorem dL_law_516 : decode cL_law 516 = .ok (.if_icmp .eq 1550, 3) := decs_at tdL_law_508 6 rfl
theorem dL_law_519 : decode cL_law 519 = .ok (.iconst 0, 1) := decs_at tdL_law_508 7 rfl
theorem dL_law_520 : decode cL_law 520 = .ok (.ireturn, 1) := decs_at tdL_law_508 8 rfl
theorem dL_law_521 : decode cL_law 521 = .ok (.aload_n 1, 1) := decs_at tdL_law_508 9 rfl
theorem dL_law_522 : decode cL_law 522 = .ok (.aload_n 0, 1) := decs_at tdL_law_508 10 rfl
theorem dL_law_523 : decode cL_law 523 = .ok (.iload_n 3, 1) := decs_at tdL_law_508 11 rfl
theorem dL_law_524 : decode cL_law 524 = .ok (.iconst 1, 1) := decs_at tdL_law_508 12 rfl
theorem dL_law_525 : decode cL_law 525 = .ok (.iadd, 1) := decs_at tdL_law_508 13 rfl
theorem dL_law_526 : decode cL_law 526 = .ok (.iaload, 1) := decs_at tdL_law_508 14 rfl
theorem dL_law_527 : decode cL_law 527 = .ok (.aload_n 0, 1) := decs_at tdL_law_508 15 rfl
theorem dL_law_528 : decode cL_law 528 = .ok (.iload_n 3, 1) := decs_at tdL_law_508 16 rfl
theorem dL_law_529 : decode cL_law 529 = .ok (.iconst 2, 1) := decs_at tdL_law_508 17 rfl
theorem dL_law_530 : decode cL_law 530 = .ok (.iadd, 1) := decs_at tdL_law_508 18 rfl
theorem dL_law_531 : decode cL_law 531 = .ok (.iaload, 1) := decs_at tdL_law_508 19 rfl
theorem dL_law_532 : decode cL_law 532 = .ok (.invokevirtual 45, 3) := decs_at tdL_law_508 20 rfl
theorem dL_law_535 : decode cL_law 535 = .ok (.aload_n 2, 1) := decs_at tdL_law_508 21 rfl
theorem dL_law_536 : decode cL_law 536 = .ok (.aload_n 0, 1) := decs_at tdL_law_508 22 rfl
theorem dL_law_537 : decode cL_law 537 = .ok (.iload_n 3, 1) := decs_at tdL_law_508 23 rfl
theorem dL_law_538 : decode cL_law 538 = .ok (.iconst 1, 1) := decs_at tdL_law_508 24 rfl
theorem dL_law_539 : decode cL_law 539 = .ok (.iadd, 1) := decs_at tdL_law_508 25 rfl
theorem dL_law_540 : decode cL_law 540 = .ok (.iaload, 1) := decs_at tdL_law_508 26 rfl
theorem dL_law_541 : decode cL_law 541 = .ok (.aload_n 0, 1) := decs_at tdL_law_508 27 rfl
theorem dL_law_542 : decode cL_law 542 = .ok (.iload_n 3, 1) := decs_at tdL_law_508 28 rfl
theorem dL_law_543 : decode cL_law 543 = .ok (.iconst 2, 1) := decs_at tdL_law_508 29 rfl
theorem dL_law_544 : decode cL_law 544 = .ok (.iadd, 1) := decs_at tdL_law_508 30 rfl
theorem dL_law_545 : decode cL_law 545 = .ok (.iaload, 1) := decs_at tdL_law_508 31 rfl
theorem dL_law_546 : decode cL_law 546 = .ok (.invokevirtual 48, 3) := decs_at tdL_law_508 32 rfl
theorem dL_law_549 : decode cL_law 549 = .ok (.if_icmp .eq 1517, 3) := decs_at tdL_law_508 33 rfl
theorem dL_law_552 : decode cL_law 552 = .ok (.iconst 0, 1) := decs_at tdL_law_508 34 rfl
theorem dL_law_553 : decode cL_law 553 = .ok (.ireturn, 1) := decs_at tdL_law_508 35 rfl
theorem dL_law_554 : decode cL_law 554 = .ok (.aload_n 1, 1) := decs_at tdL_law_508 36 rfl
theorem dL_law_555 : decode cL_law 555 = .ok (.aload_n 0, 1) := decs_at tdL_law_508 37 rfl
theorem dL_law_556 : decode cL_law 556 = .ok (.iload_n 3, 1) := decs_at tdL_law_508 38 rfl
theorem dL_law_557 : decode cL_law 557 = .ok (.iconst 1, 1) := decs_at tdL_law_508 39 rfl
theorem tdL_law_558 : decs cL_law [(558, .iadd, 1), (559, .iaload, 1), (560, .invokevirtual 49, 3), (563, .aload_n 2, 1), (564, .aload_n 0, 1), (565, .iload_n 3, 1), (566, .iconst 1, 1), (567, .iadd, 1), (568, .iaload, 1), (569, .invokevirtual 52, 3), (572, .if_icmp .eq 1494, 3), (575, .iconst 0, 1), (576, .ireturn, 1), (577, .aload_n 1, 1), (578, .aload_n 0, 1), (579, .iload_n 3, 1), (580, .iconst 1, 1), (581, .iadd, 1), (582, .iaload, 1), (583, .aload_n 0, 1), (584, .iload_n 3, 1), (585, .iconst 2, 1), (586, .iadd, 1), (587, .iaload, 1), (588, .ifCond .eq 7, 3), (591, .iconst 1, 1), (592, .goto 4, 3), (595, .iconst 0, 1), (596, .invokevirtual 53, 3), (599, .aload_n 2, 1), (600, .aload_n 0, 1), (601, .iload_n 3, 1), (602, .iconst 1, 1), (603, .iadd, 1), (604, .iaload, 1), (605, .aload_n 0, 1), (606, .iload_n 3, 1), (607, .iconst 2, 1), (608, .iadd, 1), (609, .iaload, 1)] = true := by decide +kernel
theorem dL_law_558 : decode cL_law 558 = .ok (.iadd, 1) := decs_at tdL_law_558 0 rfl
theorem dL_law_559 : decode cL_law 559 = .ok (.iaload, 1) := decs_at tdL_law_558 1 rfl
theorem dL_law_560 : decode cL_law 560 = .ok (.invokevirtual 49, 3) := decs_at tdL_law_558 2 rfl
theorem dL_law_563 : decode cL_law 563 = .ok (.aload_n 2, 1) := decs_at tdL_law_558 3 rfl
theorem dL_law_564 : decode cL_law 564 = .ok (.aload_n 0, 1) := decs_at tdL_law_558 4 rfl
theorem dL_law_565 : decode cL_law 565 = .ok (.iload_n 3, 1) := decs_at tdL_law_558 5 rfl
theorem dL_law_566 : decode cL_law 566 = .ok (.iconst 1, 1) := decs_at tdL_law_558 6 rfl
theorem dL_law_567 : decode cL_law 567 = .ok (.iadd, 1) := decs_at tdL_law_558 7 rfl
theorem dL_law_568 : decode cL_law 568 = .ok (.iaload, 1) := decs_at tdL_law_558 8 rfl
theorem dL_law_569 : decode cL_law 569 = .ok (.invokevirtual 52, 3) := decs_at tdL_law_558 9 rfl
theorem dL_law_572 : decode cL_law 572 = .ok (.if_icmp .eq 1494, 3) := decs_at tdL_law_558 10 rfl
theorem dL_law_575 : decode cL_law 575 = .ok (.iconst 0, 1) := decs_at tdL_law_558 11 rfl
theorem dL_law_576 : decode cL_law 576 = .ok (.ireturn, 1) := decs_at tdL_law_558 12 rfl
theorem dL_law_577 : decode cL_law 577 = .ok (.aload_n 1, 1) := decs_at tdL_law_558 13 rfl
theorem dL_law_578 : decode cL_law 578 = .ok (.aload_n 0, 1) := decs_at tdL_law_558 14 rfl
theorem dL_law_579 : decode cL_law 579 = .ok (.iload_n 3, 1) := decs_at tdL_law_558 15 rfl
theorem dL_law_580 : decode cL_law 580 = .ok (.iconst 1, 1) := decs_at tdL_law_558 16 rfl
theorem dL_law_581 : decode cL_law 581 = .ok (.iadd, 1) := decs_at tdL_law_558 17 rfl
theorem dL_law_582 : decode cL_law 582 = .ok (.iaload, 1) := decs_at tdL_law_558 18 rfl
theorem dL_law_583 : decode cL_law 583 = .ok (.aload_n 0, 1) := decs_at tdL_law_558 19 rfl
theorem dL_law_584 : decode cL_law 584 = .ok (.iload_n 3, 1) := decs_at tdL_law_558 20 rfl
theorem dL_law_585 : decode cL_law 585 = .ok (.iconst 2, 1) := decs_at tdL_law_558 21 rfl
theorem dL_law_586 : decode cL_law 586 = .ok (.iadd, 1) := decs_at tdL_law_558 22 rfl
theorem dL_law_587 : decode cL_law 587 = .ok (.iaload, 1) := decs_at tdL_law_558 23 rfl
theorem dL_law_588 : decode cL_law 588 = .ok (.ifCond .eq 7, 3) := decs_at tdL_law_558 24 rfl
theorem dL_law_591 : decode cL_law 591 = .ok (.iconst 1, 1) := decs_at tdL_law_558 25 rfl
theorem dL_law_592 : decode cL_law 592 = .ok (.goto 4, 3) := decs_at tdL_law_558 26 rfl
theorem dL_law_595 : decode cL_law 595 = .ok (.iconst 0, 1) := decs_at tdL_law_558 27 rfl
theorem dL_law_596 : decode cL_law 596 = .ok (.invokevirtual 53, 3) := decs_at tdL_law_558 28 rfl
theorem dL_law_599 : decode cL_law 599 = .ok (.aload_n 2, 1) := decs_at tdL_law_558 29 rfl
theorem dL_law_600 : decode cL_law 600 = .ok (.aload_n 0, 1) := decs_at tdL_law_558 30 rfl
theorem dL_law_601 : decode cL_law 601 = .ok (.iload_n 3, 1) := decs_at tdL_law_558 31 rfl
theorem dL_law_602 : decode cL_law 602 = .ok (.iconst 1, 1) := decs_at tdL_law_558 32 rfl
theorem dL_law_603 : decode cL_law 603 = .ok (.iadd, 1) := decs_at tdL_law_558 33 rfl
theorem dL_law_604 : decode cL_law 604 = .ok (.iaload, 1) := decs_at tdL_law_558 34 rfl
theorem dL_law_605 : decode cL_law 605 = .ok (.aload_n 0, 1) := decs_at tdL_law_558 35 rfl
theorem dL_law_606 : decode cL_law 606 = .ok (.iload_n 3, 1) := decs_at tdL_law_558 36 rfl
theorem dL_law_607 : decode cL_law 607 = .ok (.iconst 2, 1) := decs_at tdL_law_558 37 rfl
theorem dL_law_608 : decode cL_law 608 = .ok (.iadd, 1) := decs_at tdL_law_558 38 rfl
theorem dL_law_609 : decode cL_law 609 = .ok (.iaload, 1) := decs_at tdL_law_558 39 rfl
theorem tdL_law_610 : decs cL_law [(610, .ifCond .eq 7, 3), (613, .iconst 1, 1), (614, .goto 4, 3), (617, .iconst 0, 1), (618, .invokevirtual 57, 3), (621, .if_icmp .eq 1445, 3), (624, .iconst 0, 1), (625, .ireturn, 1), (626, .aload_n 1, 1), (627, .aload_n 0, 1), (628, .iload_n 3, 1), (629, .iconst 1, 1), (630, .iadd, 1), (631, .iaload, 1), (632, .aload_n 0, 1), (633, .iload_n 3, 1), (634, .iconst 2, 1), (635, .iadd, 1), (636, .iaload, 1), (637, .aload_n 0, 1), (638, .iload_n 3, 1), (639, .iconst 3, 1), (640, .iadd, 1), (641, .iaload, 1), (642, .aload_n 0, 1), (643, .iload_n 3, 1), (644, .iconst 4, 1), (645, .iadd, 1), (646, .iaload, 1), (647, .invokevirtual 58, 3), (650, .aload_n 2, 1), (651, .aload_n 0, 1), (652, .iload_n 3, 1), (653, .iconst 1, 1), (654, .iadd, 1), (655, .iaload, 1), (656, .aload_n 0, 1), (657, .iload_n 3, 1), (658, .iconst 2, 1), (659, .iadd, 1)] = true := by decide +kernel
theorem dL_law_610 : decode cL_law 610 = .ok (.ifCond .eq 7, 3) := decs_at tdL_law_610 0 rfl
theorem dL_law_613 : decode cL_law 613 = .ok (.iconst 1, 1) := decs_at tdL_law_610 1 rfl
theorem dL_law_614 : decode cL_law 614 = .ok (.goto 4, 3) := decs_at tdL_law_610 2 rfl
theorem dL_law_617 : decode cL_law 617 = .ok (.iconst 0, 1) := decs_at tdL_law_610 3 rfl
theorem dL_law_618 : decode cL_law 618 = .ok (.invokevirtual 57, 3) := decs_at tdL_law_610 4 rfl
theorem dL_law_621 : decode cL_law 621 = .ok (.if_icmp .eq 1445, 3) := decs_at tdL_law_610 5 rfl
theorem dL_law_624 : decode cL_law 624 = .ok (.iconst 0, 1) := decs_at tdL_law_610 6 rfl
theorem dL_law_625 : decode cL_law 625 = .ok (.ireturn, 1) := decs_at tdL_law_610 7 rfl
theorem dL_law_626 : decode cL_law 626 = .ok (.aload_n 1, 1) := decs_at tdL_law_610 8 rfl
theorem dL_law_627 : decode cL_law 627 = .ok (.aload_n 0, 1) := decs_at tdL_law_610 9 rfl
theorem dL_law_628 : decode cL_law 628 = .ok (.iload_n 3, 1) := decs_at tdL_law_610 10 rfl
theorem dL_law_629 : decode cL_law 629 = .ok (.iconst 1, 1) := decs_at tdL_law_610 11 rfl
theorem dL_law_630 : decode cL_law 630 = .ok (.iadd, 1) := decs_at tdL_law_610 12 rfl
theorem dL_law_631 : decode cL_law 631 = .ok (.iaload, 1) := decs_at tdL_law_610 13 rfl
theorem dL_law_632 : decode cL_law 632 = .ok (.aload_n 0, 1) := decs_at tdL_law_610 14 rfl
theorem dL_law_633 : decode cL_law 633 = .ok (.iload_n 3, 1) := decs_at tdL_law_610 15 rfl
theorem dL_law_634 : decode cL_law 634 = .ok (.iconst 2, 1) := decs_at tdL_law_610 16 rfl
theorem dL_law_635 : decode cL_law 635 = .ok (.iadd, 1) := decs_at tdL_law_610 17 rfl
theorem dL_law_636 : decode cL_law 636 = .ok (.iaload, 1) := decs_at tdL_law_610 18 rfl
theorem dL_law_637 : decode cL_law 637 = .ok (.aload_n 0, 1) := decs_at tdL_law_610 19 rfl
theorem dL_law_638 : decode cL_law 638 = .ok (.iload_n 3, 1) := decs_at tdL_law_610 20 rfl
theorem dL_law_639 : decode cL_law 639 = .ok (.iconst 3, 1) := decs_at tdL_law_610 21 rfl
theorem dL_law_640 : decode cL_law 640 = .ok (.iadd, 1) := decs_at tdL_law_610 22 rfl
theorem dL_law_641 : decode cL_law 641 = .ok (.iaload, 1) := decs_at tdL_law_610 23 rfl
theorem dL_law_642 : decode cL_law 642 = .ok (.aload_n 0, 1) := decs_at tdL_law_610 24 rfl
theorem dL_law_643 : decode cL_law 643 = .ok (.iload_n 3, 1) := decs_at tdL_law_610 25 rfl
theorem dL_law_644 : decode cL_law 644 = .ok (.iconst 4, 1) := decs_at tdL_law_610 26 rfl
theorem dL_law_645 : decode cL_law 645 = .ok (.iadd, 1) := decs_at tdL_law_610 27 rfl
theorem dL_law_646 : decode cL_law 646 = .ok (.iaload, 1) := decs_at tdL_law_610 28 rfl
theorem dL_law_647 : decode cL_law 647 = .ok (.invokevirtual 58, 3) := decs_at tdL_law_610 29 rfl
theorem dL_law_650 : decode cL_law 650 = .ok (.aload_n 2, 1) := decs_at tdL_law_610 30 rfl
theorem dL_law_651 : decode cL_law 651 = .ok (.aload_n 0, 1) := decs_at tdL_law_610 31 rfl
theorem dL_law_652 : decode cL_law 652 = .ok (.iload_n 3, 1) := decs_at tdL_law_610 32 rfl
theorem dL_law_653 : decode cL_law 653 = .ok (.iconst 1, 1) := decs_at tdL_law_610 33 rfl
theorem dL_law_654 : decode cL_law 654 = .ok (.iadd, 1) := decs_at tdL_law_610 34 rfl
theorem dL_law_655 : decode cL_law 655 = .ok (.iaload, 1) := decs_at tdL_law_610 35 rfl
theorem dL_law_656 : decode cL_law 656 = .ok (.aload_n 0, 1) := decs_at tdL_law_610 36 rfl
theorem dL_law_657 : decode cL_law 657 = .ok (.iload_n 3, 1) := decs_at tdL_law_610 37 rfl
theorem dL_law_658 : decode cL_law 658 = .ok (.iconst 2, 1) := decs_at tdL_law_610 38 rfl
theorem dL_law_659 : decode cL_law 659 = .ok (.iadd, 1) := decs_at tdL_law_610 39 rfl
theorem tdL_law_660 : decs cL_law [(660, .iaload, 1), (661, .aload_n 0, 1), (662, .iload_n 3, 1), (663, .iconst 3, 1), (664, .iadd, 1), (665, .iaload, 1), (666, .aload_n 0, 1), (667, .iload_n 3, 1), (668, .iconst 4, 1), (669, .iadd, 1), (670, .iaload, 1), (671, .invokevirtual 62, 3), (674, .if_icmp .eq 1392, 3), (677, .iconst 0, 1), (678, .ireturn, 1), (679, .aload_n 1, 1), (680, .aload_n 0, 1), (681, .iload_n 3, 1), (682, .iconst 1, 1), (683, .iadd, 1), (684, .iaload, 1), (685, .aload_n 0, 1), (686, .iload_n 3, 1), (687, .iconst 2, 1), (688, .iadd, 1), (689, .iaload, 1), (690, .invokevirtual 63, 3), (693, .aload_n 2, 1), (694, .aload_n 0, 1), (695, .iload_n 3, 1), (696, .iconst 1, 1), (697, .iadd, 1), (698, .iaload, 1), (699, .aload_n 0, 1), (700, .iload_n 3, 1), (701, .iconst 2, 1), (702, .iadd, 1), (703, .iaload, 1), (704, .invokevirtual 66, 3), (707, .if_icmp .eq 1359, 3)] = true := by decide +kernel
theorem dL_law_660 : decode cL_law 660 = .ok (.iaload, 1) := decs_at tdL_law_660 0 rfl
theorem dL_law_661 : decode cL_law 661 = .ok (.aload_n 0, 1) := decs_at tdL_law_660 1 rfl
theorem dL_law_662 : decode cL_law 662 = .ok (.iload_n 3, 1) := decs_at tdL_law_660 2 rfl
theorem dL_law_663 : decode cL_law 663 = .ok (.iconst 3, 1) := decs_at tdL_law_660 3 rfl
theorem dL_law_664 : decode cL_law 664 = .ok (.iadd, 1) := decs_at tdL_law_660 4 rfl
theorem dL_law_665 : decode cL_law 665 = .ok (.iaload, 1) := decs_at tdL_law_660 5 rfl
theorem dL_law_666 : decode cL_law 666 = .ok (.aload_n 0, 1) := decs_at tdL_law_660 6 rfl
theorem dL_law_667 : decode cL_law 667 = .ok (.iload_n 3, 1) := decs_at tdL_law_660 7 rfl
theorem dL_law_668 : decode cL_law 668 = .ok (.iconst 4, 1) := decs_at tdL_law_660 8 rfl
theorem dL_law_669 : decode cL_law 669 = .ok (.iadd, 1) := decs_at tdL_law_660 9 rfl
theorem dL_law_670 : decode cL_law 670 = .ok (.iaload, 1) := decs_at tdL_law_660 10 rfl
theorem dL_law_671 : decode cL_law 671 = .ok (.invokevirtual 62, 3) := decs_at tdL_law_660 11 rfl
theorem dL_law_674 : decode cL_law 674 = .ok (.if_icmp .eq 1392, 3) := decs_at tdL_law_660 12 rfl
theorem dL_law_677 : decode cL_law 677 = .ok (.iconst 0, 1) := decs_at tdL_law_660 13 rfl
theorem dL_law_678 : decode cL_law 678 = .ok (.ireturn, 1) := decs_at tdL_law_660 14 rfl
theorem dL_law_679 : decode cL_law 679 = .ok (.aload_n 1, 1) := decs_at tdL_law_660 15 rfl
theorem dL_law_680 : decode cL_law 680 = .ok (.aload_n 0, 1) := decs_at tdL_law_660 16 rfl
theorem dL_law_681 : decode cL_law 681 = .ok (.iload_n 3, 1) := decs_at tdL_law_660 17 rfl
theorem dL_law_682 : decode cL_law 682 = .ok (.iconst 1, 1) := decs_at tdL_law_660 18 rfl
theorem dL_law_683 : decode cL_law 683 = .ok (.iadd, 1) := decs_at tdL_law_660 19 rfl
theorem dL_law_684 : decode cL_law 684 = .ok (.iaload, 1) := decs_at tdL_law_660 20 rfl
theorem dL_law_685 : decode cL_law 685 = .ok (.aload_n 0, 1) := decs_at tdL_law_660 21 rfl
theorem dL_law_686 : decode cL_law 686 = .ok (.iload_n 3, 1) := decs_at tdL_law_660 22 rfl
theorem dL_law_687 : decode cL_law 687 = .ok (.iconst 2, 1) := decs_at tdL_law_660 23 rfl
theorem dL_law_688 : decode cL_law 688 = .ok (.iadd, 1) := decs_at tdL_law_660 24 rfl
theorem dL_law_689 : decode cL_law 689 = .ok (.iaload, 1) := decs_at tdL_law_660 25 rfl
theorem dL_law_690 : decode cL_law 690 = .ok (.invokevirtual 63, 3) := decs_at tdL_law_660 26 rfl
theorem dL_law_693 : decode cL_law 693 = .ok (.aload_n 2, 1) := decs_at tdL_law_660 27 rfl
theorem dL_law_694 : decode cL_law 694 = .ok (.aload_n 0, 1) := decs_at tdL_law_660 28 rfl
theorem dL_law_695 : decode cL_law 695 = .ok (.iload_n 3, 1) := decs_at tdL_law_660 29 rfl
theorem dL_law_696 : decode cL_law 696 = .ok (.iconst 1, 1) := decs_at tdL_law_660 30 rfl
theorem dL_law_697 : decode cL_law 697 = .ok (.iadd, 1) := decs_at tdL_law_660 31 rfl
theorem dL_law_698 : decode cL_law 698 = .ok (.iaload, 1) := decs_at tdL_law_660 32 rfl
theorem dL_law_699 : decode cL_law 699 = .ok (.aload_n 0, 1) := decs_at tdL_law_660 33 rfl
theorem dL_law_700 : decode cL_law 700 = .ok (.iload_n 3, 1) := decs_at tdL_law_660 34 rfl
theorem dL_law_701 : decode cL_law 701 = .ok (.iconst 2, 1) := decs_at tdL_law_660 35 rfl
theorem dL_law_702 : decode cL_law 702 = .ok (.iadd, 1) := decs_at tdL_law_660 36 rfl
theorem dL_law_703 : decode cL_law 703 = .ok (.iaload, 1) := decs_at tdL_law_660 37 rfl
theorem dL_law_704 : decode cL_law 704 = .ok (.invokevirtual 66, 3) := decs_at tdL_law_660 38 rfl
theorem dL_law_707 : decode cL_law 707 = .ok (.if_icmp .eq 1359, 3) := decs_at tdL_law_660 39 rfl
theorem tdL_law_710 : decs cL_law [(710, .iconst 0, 1), (711, .ireturn, 1), (712, .aload_n 1, 1), (713, .aload_n 0, 1), (714, .iload_n 3, 1), (715, .iconst 1, 1), (716, .iadd, 1), (717, .iaload, 1), (718, .aload_n 0, 1), (719, .iload_n 3, 1), (720, .iconst 2, 1), (721, .iadd, 1), (722, .iaload, 1), (723, .invokevirtual 67, 3), (726, .aload_n 2, 1), (727, .aload_n 0, 1), (728, .iload_n 3, 1), (729, .iconst 1, 1), (730, .iadd, 1), (731, .iaload, 1), (732, .aload_n 0, 1), (733, .iload_n 3, 1), (734, .iconst 2, 1), (735, .iadd, 1), (736, .iaload, 1), (737, .invokevirtual 70, 3), (740, .if_icmp .eq 1326, 3), (743, .iconst 0, 1), (744, .ireturn, 1), (745, .aload_n 1, 1), (746, .aload_n 0, 1), (747, .iload_n 3, 1), (748, .iconst 1, 1), (749, .iadd, 1), (750, .iaload, 1), (751, .aload_n 0, 1), (752, .iload_n 3, 1), (753, .iconst 2, 1), (754, .iadd, 1), (755, .iaload, 1)] = true := by decide +kernel
theorem dL_law_710 : decode cL_law 710 = .ok (.iconst 0, 1) := decs_at tdL_law_710 0 rfl
theorem dL_law_711 : decode cL_law 711 = .ok (.ireturn, 1) := decs_at tdL_law_710 1 rfl
theorem dL_law_712 : decode cL_law 712 = .ok (.aload_n 1, 1) := decs_at tdL_law_710 2 rfl
theorem dL_law_713 : decode cL_law 713 = .ok (.aload_n 0, 1) := decs_at tdL_law_710 3 rfl
theorem dL_law_714 : decode cL_law 714 = .ok (.iload_n 3, 1) := decs_at tdL_law_710 4 rfl
theorem dL_law_715 : decode cL_law 715 = .ok (.iconst 1, 1) := decs_at tdL_law_710 5 rfl
theorem dL_law_716 : decode cL_law 716 = .ok (.iadd, 1) := decs_at tdL_law_710 6 rfl
theorem dL_law_717 : decode cL_law 717 = .ok (.iaload, 1) := decs_at tdL_law_710 7 rfl
theorem dL_law_718 : decode cL_law 718 = .ok (.aload_n 0, 1) := decs_at tdL_law_710 8 rfl
theorem dL_law_719 : decode cL_law 719 = .ok (.iload_n 3, 1) := decs_at tdL_law_710 9 rfl
theorem dL_law_720 : decode cL_law 720 = .ok (.iconst 2, 1) := decs_at tdL_law_710 10 rfl
theorem dL_law_721 : decode cL_law 721 = .ok (.iadd, 1) := decs_at tdL_law_710 11 rfl
theorem dL_law_722 : decode cL_law 722 = .ok (.iaload, 1) := decs_at tdL_law_710 12 rfl
theorem dL_law_723 : decode cL_law 723 = .ok (.invokevirtual 67, 3) := decs_at tdL_law_710 13 rfl
theorem dL_law_726 : decode cL_law 726 = .ok (.aload_n 2, 1) := decs_at tdL_law_710 14 rfl
theorem dL_law_727 : decode cL_law 727 = .ok (.aload_n 0, 1) := decs_at tdL_law_710 15 rfl
theorem dL_law_728 : decode cL_law 728 = .ok (.iload_n 3, 1) := decs_at tdL_law_710 16 rfl
theorem dL_law_729 : decode cL_law 729 = .ok (.iconst 1, 1) := decs_at tdL_law_710 17 rfl
theorem dL_law_730 : decode cL_law 730 = .ok (.iadd, 1) := decs_at tdL_law_710 18 rfl
theorem dL_law_731 : decode cL_law 731 = .ok (.iaload, 1) := decs_at tdL_law_710 19 rfl
theorem dL_law_732 : decode cL_law 732 = .ok (.aload_n 0, 1) := decs_at tdL_law_710 20 rfl
theorem dL_law_733 : decode cL_law 733 = .ok (.iload_n 3, 1) := decs_at tdL_law_710 21 rfl
theorem dL_law_734 : decode cL_law 734 = .ok (.iconst 2, 1) := decs_at tdL_law_710 22 rfl
theorem dL_law_735 : decode cL_law 735 = .ok (.iadd, 1) := decs_at tdL_law_710 23 rfl
theorem dL_law_736 : decode cL_law 736 = .ok (.iaload, 1) := decs_at tdL_law_710 24 rfl
theorem dL_law_737 : decode cL_law 737 = .ok (.invokevirtual 70, 3) := decs_at tdL_law_710 25 rfl
theorem dL_law_740 : decode cL_law 740 = .ok (.if_icmp .eq 1326, 3) := decs_at tdL_law_710 26 rfl
theorem dL_law_743 : decode cL_law 743 = .ok (.iconst 0, 1) := decs_at tdL_law_710 27 rfl
theorem dL_law_744 : decode cL_law 744 = .ok (.ireturn, 1) := decs_at tdL_law_710 28 rfl
theorem dL_law_745 : decode cL_law 745 = .ok (.aload_n 1, 1) := decs_at tdL_law_710 29 rfl
theorem dL_law_746 : decode cL_law 746 = .ok (.aload_n 0, 1) := decs_at tdL_law_710 30 rfl
theorem dL_law_747 : decode cL_law 747 = .ok (.iload_n 3, 1) := decs_at tdL_law_710 31 rfl
theorem dL_law_748 : decode cL_law 748 = .ok (.iconst 1, 1) := decs_at tdL_law_710 32 rfl
theorem dL_law_749 : decode cL_law 749 = .ok (.iadd, 1) := decs_at tdL_law_710 33 rfl
theorem dL_law_750 : decode cL_law 750 = .ok (.iaload, 1) := decs_at tdL_law_710 34 rfl
theorem dL_law_751 : decode cL_law 751 = .ok (.aload_n 0, 1) := decs_at tdL_law_710 35 rfl
theorem dL_law_752 : decode cL_law 752 = .ok (.iload_n 3, 1) := decs_at tdL_law_710 36 rfl
theorem dL_law_753 : decode cL_law 753 = .ok (.iconst 2, 1) := decs_at tdL_law_710 37 rfl
theorem dL_law_754 : decode cL_law 754 = .ok (.iadd, 1) := decs_at tdL_law_710 38 rfl
theorem dL_law_755 : decode cL_law 755 = .ok (.iaload, 1) := decs_at tdL_law_710 39 rfl
theorem tdL_law_756 : decs cL_law [(756, .aload_n 0, 1), (757, .iload_n 3, 1), (758, .iconst 3, 1), (759, .iadd, 1), (760, .iaload, 1), (761, .invokevirtual 71, 3), (764, .aload_n 2, 1), (765, .aload_n 0, 1), (766, .iload_n 3, 1), (767, .iconst 1, 1), (768, .iadd, 1), (769, .iaload, 1), (770, .aload_n 0, 1), (771, .iload_n 3, 1), (772, .iconst 2, 1), (773, .iadd, 1), (774, .iaload, 1), (775, .aload_n 0, 1), (776, .iload_n 3, 1), (777, .iconst 3, 1), (778, .iadd, 1), (779, .iaload, 1), (780, .invokevirtual 74, 3), (783, .if_icmp .eq 1283, 3), (786, .iconst 0, 1), (787, .ireturn, 1), (788, .aload_n 1, 1), (789, .aload_n 0, 1), (790, .iload_n 3, 1), (791, .iconst 1, 1), (792, .iadd, 1), (793, .iaload, 1), (794, .invokevirtual 75, 3), (797, .aload_n 2, 1), (798, .aload_n 0, 1), (799, .iload_n 3, 1), (800, .iconst 1, 1), (801, .iadd, 1), (802, .iaload, 1), (803, .invokevirtual 78, 3)] = true := by decide +kernel
theorem dL_law_756 : decode cL_law 756 = .ok (.aload_n 0, 1) := decs_at tdL_law_756 0 rfl
theorem dL_law_757 : decode cL_law 757 = .ok (.iload_n 3, 1) := decs_at tdL_law_756 1 rfl
theorem dL_law_758 : decode cL_law 758 = .ok (.iconst 3, 1) := decs_at tdL_law_756 2 rfl
theorem dL_law_759 : decode cL_law 759 = .ok (.iadd, 1) := decs_at tdL_law_756 3 rfl
theorem dL_law_760 : decode cL_law 760 = .ok (.iaload, 1) := decs_at tdL_law_756 4 rfl
theorem dL_law_761 : decode cL_law 761 = .ok (.invokevirtual 71, 3) := decs_at tdL_law_756 5 rfl
theorem dL_law_764 : decode cL_law 764 = .ok (.aload_n 2, 1) := decs_at tdL_law_756 6 rfl
theorem dL_law_765 : decode cL_law 765 = .ok (.aload_n 0, 1) := decs_at tdL_law_756 7 rfl
theorem dL_law_766 : decode cL_law 766 = .ok (.iload_n 3, 1) := decs_at tdL_law_756 8 rfl
theorem dL_law_767 : decode cL_law 767 = .ok (.iconst 1, 1) := decs_at tdL_law_756 9 rfl
theorem dL_law_768 : decode cL_law 768 = .ok (.iadd, 1) := decs_at tdL_law_756 10 rfl
theorem dL_law_769 : decode cL_law 769 = .ok (.iaload, 1) := decs_at tdL_law_756 11 rfl
theorem dL_law_770 : decode cL_law 770 = .ok (.aload_n 0, 1) := decs_at tdL_law_756 12 rfl
theorem dL_law_771 : decode cL_law 771 = .ok (.iload_n 3, 1) := decs_at tdL_law_756 13 rfl
theorem dL_law_772 : decode cL_law 772 = .ok (.iconst 2, 1) := decs_at tdL_law_756 14 rfl
theorem dL_law_773 : decode cL_law 773 = .ok (.iadd, 1) := decs_at tdL_law_756 15 rfl
theorem dL_law_774 : decode cL_law 774 = .ok (.iaload, 1) := decs_at tdL_law_756 16 rfl
theorem dL_law_775 : decode cL_law 775 = .ok (.aload_n 0, 1) := decs_at tdL_law_756 17 rfl
theorem dL_law_776 : decode cL_law 776 = .ok (.iload_n 3, 1) := decs_at tdL_law_756 18 rfl
theorem dL_law_777 : decode cL_law 777 = .ok (.iconst 3, 1) := decs_at tdL_law_756 19 rfl
theorem dL_law_778 : decode cL_law 778 = .ok (.iadd, 1) := decs_at tdL_law_756 20 rfl
theorem dL_law_779 : decode cL_law 779 = .ok (.iaload, 1) := decs_at tdL_law_756 21 rfl
theorem dL_law_780 : decode cL_law 780 = .ok (.invokevirtual 74, 3) := decs_at tdL_law_756 22 rfl
theorem dL_law_783 : decode cL_law 783 = .ok (.if_icmp .eq 1283, 3) := decs_at tdL_law_756 23 rfl
theorem dL_law_786 : decode cL_law 786 = .ok (.iconst 0, 1) := decs_at tdL_law_756 24 rfl
theorem dL_law_787 : decode cL_law 787 = .ok (.ireturn, 1) := decs_at tdL_law_756 25 rfl
theorem dL_law_788 : decode cL_law 788 = .ok (.aload_n 1, 1) := decs_at tdL_law_756 26 rfl
theorem dL_law_789 : decode cL_law 789 = .ok (.aload_n 0, 1) := decs_at tdL_law_756 27 rfl
theorem dL_law_790 : decode cL_law 790 = .ok (.iload_n 3, 1) := decs_at tdL_law_756 28 rfl
theorem dL_law_791 : decode cL_law 791 = .ok (.iconst 1, 1) := decs_at tdL_law_756 29 rfl
theorem dL_law_792 : decode cL_law 792 = .ok (.iadd, 1) := decs_at tdL_law_756 30 rfl
theorem dL_law_793 : decode cL_law 793 = .ok (.iaload, 1) := decs_at tdL_law_756 31 rfl
theorem dL_law_794 : decode cL_law 794 = .ok (.invokevirtual 75, 3) := decs_at tdL_law_756 32 rfl
theorem dL_law_797 : decode cL_law 797 = .ok (.aload_n 2, 1) := decs_at tdL_law_756 33 rfl
theorem dL_law_798 : decode cL_law 798 = .ok (.aload_n 0, 1) := decs_at tdL_law_756 34 rfl
theorem dL_law_799 : decode cL_law 799 = .ok (.iload_n 3, 1) := decs_at tdL_law_756 35 rfl
theorem dL_law_800 : decode cL_law 800 = .ok (.iconst 1, 1) := decs_at tdL_law_756 36 rfl
theorem dL_law_801 : decode cL_law 801 = .ok (.iadd, 1) := decs_at tdL_law_756 37 rfl
theorem dL_law_802 : decode cL_law 802 = .ok (.iaload, 1) := decs_at tdL_law_756 38 rfl
theorem dL_law_803 : decode cL_law 803 = .ok (.invokevirtual 78, 3) := decs_at tdL_law_756 39 rfl
theorem tdL_law_806 : decs cL_law [(806, .if_icmp .eq 1260, 3), (809, .iconst 0, 1), (810, .ireturn, 1), (811, .aload_n 1, 1), (812, .invokevirtual 79, 3), (815, .aload_n 2, 1), (816, .invokevirtual 83, 3), (819, .if_icmp .eq 1247, 3), (822, .iconst 0, 1), (823, .ireturn, 1), (824, .aload_n 1, 1), (825, .invokevirtual 84, 3), (828, .aload_n 2, 1), (829, .invokevirtual 87, 3), (832, .if_icmp .eq 1234, 3), (835, .iconst 0, 1), (836, .ireturn, 1), (837, .aload_n 1, 1), (838, .aload_n 0, 1), (839, .iload_n 3, 1), (840, .iconst 1, 1), (841, .iadd, 1), (842, .iaload, 1), (843, .aload_n 0, 1), (844, .iload_n 3, 1), (845, .iconst 2, 1), (846, .iadd, 1), (847, .iaload, 1), (848, .invokevirtual 88, 3), (851, .aload_n 2, 1), (852, .aload_n 0, 1), (853, .iload_n 3, 1), (854, .iconst 1, 1), (855, .iadd, 1), (856, .iaload, 1), (857, .aload_n 0, 1), (858, .iload_n 3, 1), (859, .iconst 2, 1), (860, .iadd, 1), (861, .iaload, 1)] = true := by decide +kernel
theorem dL_law_806 : decode cL_law 806 = .ok (.if_icmp .eq 1260, 3) := decs_at tdL_law_806 0 rfl
theorem dL_law_809 : decode cL_law 809 = .ok (.iconst 0, 1) := decs_at tdL_law_806 1 rfl
theorem dL_law_810 : decode cL_law 810 = .ok (.ireturn, 1) := decs_at tdL_law_806 2 rfl
theorem dL_law_811 : decode cL_law 811 = .ok (.aload_n 1, 1) := decs_at tdL_law_806 3 rfl
theorem dL_law_812 : decode cL_law 812 = .ok (.invokevirtual 79, 3) := decs_at tdL_law_806 4 rfl
theorem dL_law_815 : decode cL_law 815 = .ok (.aload_n 2, 1) := decs_at tdL_law_806 5 rfl
theorem dL_law_816 : decode cL_law 816 = .ok (.invokevirtual 83, 3) := decs_at tdL_law_806 6 rfl
theorem dL_law_819 : decode cL_law 819 = .ok (.if_icmp .eq 1247, 3) := decs_at tdL_law_806 7 rfl
theorem dL_law_822 : decode cL_law 822 = .ok (.iconst 0, 1) := decs_at tdL_law_806 8 rfl
theorem dL_law_823 : decode cL_law 823 = .ok (.ireturn, 1) := decs_at tdL_law_806 9 rfl
theorem dL_law_824 : decode cL_law 824 = .ok (.aload_n 1, 1) := decs_at tdL_law_806 10 rfl
theorem dL_law_825 : decode cL_law 825 = .ok (.invokevirtual 84, 3) := decs_at tdL_law_806 11 rfl
theorem dL_law_828 : decode cL_law 828 = .ok (.aload_n 2, 1) := decs_at tdL_law_806 12 rfl
theorem dL_law_829 : decode cL_law 829 = .ok (.invokevirtual 87, 3) := decs_at tdL_law_806 13 rfl
theorem dL_law_832 : decode cL_law 832 = .ok (.if_icmp .eq 1234, 3) := decs_at tdL_law_806 14 rfl
theorem dL_law_835 : decode cL_law 835 = .ok (.iconst 0, 1) := decs_at tdL_law_806 15 rfl
theorem dL_law_836 : decode cL_law 836 = .ok (.ireturn, 1) := decs_at tdL_law_806 16 rfl
theorem dL_law_837 : decode cL_law 837 = .ok (.aload_n 1, 1) := decs_at tdL_law_806 17 rfl
theorem dL_law_838 : decode cL_law 838 = .ok (.aload_n 0, 1) := decs_at tdL_law_806 18 rfl
theorem dL_law_839 : decode cL_law 839 = .ok (.iload_n 3, 1) := decs_at tdL_law_806 19 rfl
theorem dL_law_840 : decode cL_law 840 = .ok (.iconst 1, 1) := decs_at tdL_law_806 20 rfl
theorem dL_law_841 : decode cL_law 841 = .ok (.iadd, 1) := decs_at tdL_law_806 21 rfl
theorem dL_law_842 : decode cL_law 842 = .ok (.iaload, 1) := decs_at tdL_law_806 22 rfl
theorem dL_law_843 : decode cL_law 843 = .ok (.aload_n 0, 1) := decs_at tdL_law_806 23 rfl
theorem dL_law_844 : decode cL_law 844 = .ok (.iload_n 3, 1) := decs_at tdL_law_806 24 rfl
theorem dL_law_845 : decode cL_law 845 = .ok (.iconst 2, 1) := decs_at tdL_law_806 25 rfl
theorem dL_law_846 : decode cL_law 846 = .ok (.iadd, 1) := decs_at tdL_law_806 26 rfl
theorem dL_law_847 : decode cL_law 847 = .ok (.iaload, 1) := decs_at tdL_law_806 27 rfl
theorem dL_law_848 : decode cL_law 848 = .ok (.invokevirtual 88, 3) := decs_at tdL_law_806 28 rfl
theorem dL_law_851 : decode cL_law 851 = .ok (.aload_n 2, 1) := decs_at tdL_law_806 29 rfl
theorem dL_law_852 : decode cL_law 852 = .ok (.aload_n 0, 1) := decs_at tdL_law_806 30 rfl
theorem dL_law_853 : decode cL_law 853 = .ok (.iload_n 3, 1) := decs_at tdL_law_806 31 rfl
theorem dL_law_854 : decode cL_law 854 = .ok (.iconst 1, 1) := decs_at tdL_law_806 32 rfl
theorem dL_law_855 : decode cL_law 855 = .ok (.iadd, 1) := decs_at tdL_law_806 33 rfl
theorem dL_law_856 : decode cL_law 856 = .ok (.iaload, 1) := decs_at tdL_law_806 34 rfl
theorem dL_law_857 : decode cL_law 857 = .ok (.aload_n 0, 1) := decs_at tdL_law_806 35 rfl
theorem dL_law_858 : decode cL_law 858 = .ok (.iload_n 3, 1) := decs_at tdL_law_806 36 rfl
theorem dL_law_859 : decode cL_law 859 = .ok (.iconst 2, 1) := decs_at tdL_law_806 37 rfl
theorem dL_law_860 : decode cL_law 860 = .ok (.iadd, 1) := decs_at tdL_law_806 38 rfl
theorem dL_law_861 : decode cL_law 861 = .ok (.iaload, 1) := decs_at tdL_law_806 39 rfl
theorem tdL_law_862 : decs cL_law [(862, .invokevirtual 91, 3), (865, .if_icmp .eq 1201, 3), (868, .iconst 0, 1), (869, .ireturn, 1), (870, .aload_n 1, 1), (871, .aload_n 0, 1), (872, .iload_n 3, 1), (873, .iconst 1, 1), (874, .iadd, 1), (875, .iaload, 1), (876, .invokevirtual 92, 3), (879, .aload_n 2, 1), (880, .aload_n 0, 1), (881, .iload_n 3, 1), (882, .iconst 1, 1), (883, .iadd, 1), (884, .iaload, 1), (885, .invokevirtual 95, 3), (888, .if_icmp .eq 1178, 3), (891, .iconst 0, 1), (892, .ireturn, 1), (893, .aload_n 1, 1), (894, .aload_n 0, 1), (895, .iload_n 3, 1), (896, .iconst 1, 1), (897, .iadd, 1), (898, .iaload, 1), (899, .aload_n 0, 1), (900, .iload_n 3, 1), (901, .iconst 2, 1), (902, .iadd, 1), (903, .iaload, 1), (904, .aload_n 0, 1), (905, .iload_n 3, 1), (906, .iconst 3, 1), (907, .iadd, 1), (908, .iaload, 1), (909, .aload_n 0, 1), (910, .iload_n 3, 1), (911, .iconst 4, 1)] = true := by decide +kernel
theorem dL_law_862 : decode cL_law 862 = .ok (.invokevirtual 91, 3) := decs_at tdL_law_862 0 rfl
theorem dL_law_865 : decode cL_law 865 = .ok (.if_icmp .eq 1201, 3) := decs_at tdL_law_862 1 rfl
theorem dL_law_868 : decode cL_law 868 = .ok (.iconst 0, 1) := decs_at tdL_law_862 2 rfl
theorem dL_law_869 : decode cL_law 869 = .ok (.ireturn, 1) := decs_at tdL_law_862 3 rfl
theorem dL_law_870 : decode cL_law 870 = .ok (.aload_n 1, 1) := decs_at tdL_law_862 4 rfl
theorem dL_law_871 : decode cL_law 871 = .ok (.aload_n 0, 1) := decs_at tdL_law_862 5 rfl
theorem dL_law_872 : decode cL_law 872 = .ok (.iload_n 3, 1) := decs_at tdL_law_862 6 rfl
theorem dL_law_873 : decode cL_law 873 = .ok (.iconst 1, 1) := decs_at tdL_law_862 7 rfl
theorem dL_law_874 : decode cL_law 874 = .ok (.iadd, 1) := decs_at tdL_law_862 8 rfl
theorem dL_law_875 : decode cL_law 875 = .ok (.iaload, 1) := decs_at tdL_law_862 9 rfl
theorem dL_law_876 : decode cL_law 876 = .ok (.invokevirtual 92, 3) := decs_at tdL_law_862 10 rfl
theorem dL_law_879 : decode cL_law 879 = .ok (.aload_n 2, 1) := decs_at tdL_law_862 11 rfl
theorem dL_law_880 : decode cL_law 880 = .ok (.aload_n 0, 1) := decs_at tdL_law_862 12 rfl
theorem dL_law_881 : decode cL_law 881 = .ok (.iload_n 3, 1) := decs_at tdL_law_862 13 rfl
theorem dL_law_882 : decode cL_law 882 = .ok (.iconst 1, 1) := decs_at tdL_law_862 14 rfl
theorem dL_law_883 : decode cL_law 883 = .ok (.iadd, 1) := decs_at tdL_law_862 15 rfl
theorem dL_law_884 : decode cL_law 884 = .ok (.iaload, 1) := decs_at tdL_law_862 16 rfl
theorem dL_law_885 : decode cL_law 885 = .ok (.invokevirtual 95, 3) := decs_at tdL_law_862 17 rfl
theorem dL_law_888 : decode cL_law 888 = .ok (.if_icmp .eq 1178, 3) := decs_at tdL_law_862 18 rfl
theorem dL_law_891 : decode cL_law 891 = .ok (.iconst 0, 1) := decs_at tdL_law_862 19 rfl
theorem dL_law_892 : decode cL_law 892 = .ok (.ireturn, 1) := decs_at tdL_law_862 20 rfl
theorem dL_law_893 : decode cL_law 893 = .ok (.aload_n 1, 1) := decs_at tdL_law_862 21 rfl
theorem dL_law_894 : decode cL_law 894 = .ok (.aload_n 0, 1) := decs_at tdL_law_862 22 rfl
theorem dL_law_895 : decode cL_law 895 = .ok (.iload_n 3, 1) := decs_at tdL_law_862 23 rfl
theorem dL_law_896 : decode cL_law 896 = .ok (.iconst 1, 1) := decs_at tdL_law_862 24 rfl
theorem dL_law_897 : decode cL_law 897 = .ok (.iadd, 1) := decs_at tdL_law_862 25 rfl
theorem dL_law_898 : decode cL_law 898 = .ok (.iaload, 1) := decs_at tdL_law_862 26 rfl
theorem dL_law_899 : decode cL_law 899 = .ok (.aload_n 0, 1) := decs_at tdL_law_862 27 rfl
theorem dL_law_900 : decode cL_law 900 = .ok (.iload_n 3, 1) := decs_at tdL_law_862 28 rfl
theorem dL_law_901 : decode cL_law 901 = .ok (.iconst 2, 1) := decs_at tdL_law_862 29 rfl
theorem dL_law_902 : decode cL_law 902 = .ok (.iadd, 1) := decs_at tdL_law_862 30 rfl
theorem dL_law_903 : decode cL_law 903 = .ok (.iaload, 1) := decs_at tdL_law_862 31 rfl
theorem dL_law_904 : decode cL_law 904 = .ok (.aload_n 0, 1) := decs_at tdL_law_862 32 rfl
theorem dL_law_905 : decode cL_law 905 = .ok (.iload_n 3, 1) := decs_at tdL_law_862 33 rfl
theorem dL_law_906 : decode cL_law 906 = .ok (.iconst 3, 1) := decs_at tdL_law_862 34 rfl
theorem dL_law_907 : decode cL_law 907 = .ok (.iadd, 1) := decs_at tdL_law_862 35 rfl
theorem dL_law_908 : decode cL_law 908 = .ok (.iaload, 1) := decs_at tdL_law_862 36 rfl
theorem dL_law_909 : decode cL_law 909 = .ok (.aload_n 0, 1) := decs_at tdL_law_862 37 rfl
theorem dL_law_910 : decode cL_law 910 = .ok (.iload_n 3, 1) := decs_at tdL_law_862 38 rfl
theorem dL_law_911 : decode cL_law 911 = .ok (.iconst 4, 1) := decs_at tdL_law_862 39 rfl
theorem tdL_law_912 : decs cL_law [(912, .iadd, 1), (913, .iaload, 1), (914, .invokevirtual 96, 3), (917, .aload_n 2, 1), (918, .aload_n 0, 1), (919, .iload_n 3, 1), (920, .iconst 1, 1), (921, .iadd, 1), (922, .iaload, 1), (923, .aload_n 0, 1), (924, .iload_n 3, 1), (925, .iconst 2, 1), (926, .iadd, 1), (927, .iaload, 1), (928, .aload_n 0, 1), (929, .iload_n 3, 1), (930, .iconst 3, 1), (931, .iadd, 1), (932, .iaload, 1), (933, .aload_n 0, 1), (934, .iload_n 3, 1), (935, .iconst 4, 1), (936, .iadd, 1), (937, .iaload, 1), (938, .invokevirtual 99, 3), (941, .if_icmp .eq 1125, 3), (944, .iconst 0, 1), (945, .ireturn, 1), (946, .aload_n 1, 1), (947, .aload_n 0, 1), (948, .iload_n 3, 1), (949, .iconst 1, 1), (950, .iadd, 1), (951, .iaload, 1), (952, .aload_n 0, 1), (953, .iload_n 3, 1), (954, .iconst 2, 1), (955, .iadd, 1), (956, .iaload, 1), (957, .invokevirtual 100, 3)] = true := by decide +kernel
theorem dL_law_912 : decode cL_law 912 = .ok (.iadd, 1) := decs_at tdL_law_912 0 rfl
theorem dL_law_913 : decode cL_law 913 = .ok (.iaload, 1) := decs_at tdL_law_912 1 rfl
theorem dL_law_914 : decode cL_law 914 = .ok (.invokevirtual 96, 3) := decs_at tdL_law_912 2 rfl
theorem dL_law_917 : decode cL_law 917 = .ok (.aload_n 2, 1) := decs_at tdL_law_912 3 rfl
theorem dL_law_918 : decode cL_law 918 = .ok (.aload_n 0, 1) := decs_at tdL_law_912 4 rfl
theorem dL_law_919 : decode cL_law 919 = .ok (.iload_n 3, 1) := decs_at tdL_law_912 5 rfl
theorem dL_law_920 : decode cL_law 920 = .ok (.iconst 1, 1) := decs_at tdL_law_912 6 rfl
theorem dL_law_921 : decode cL_law 921 = .ok (.iadd, 1) := decs_at tdL_law_912 7 rfl
theorem dL_law_922 : decode cL_law 922 = .ok (.iaload, 1) := decs_at tdL_law_912 8 rfl
theorem dL_law_923 : decode cL_law 923 = .ok (.aload_n 0, 1) := decs_at tdL_law_912 9 rfl
theorem dL_law_924 : decode cL_law 924 = .ok (.iload_n 3, 1) := decs_at tdL_law_912 10 rfl
theorem dL_law_925 : decode cL_law 925 = .ok (.iconst 2, 1) := decs_at tdL_law_912 11 rfl
theorem dL_law_926 : decode cL_law 926 = .ok (.iadd, 1) := decs_at tdL_law_912 12 rfl
theorem dL_law_927 : decode cL_law 927 = .ok (.iaload, 1) := decs_at tdL_law_912 13 rfl
theorem dL_law_928 : decode cL_law 928 = .ok (.aload_n 0, 1) := decs_at tdL_law_912 14 rfl
theorem dL_law_929 : decode cL_law 929 = .ok (.iload_n 3, 1) := decs_at tdL_law_912 15 rfl
theorem dL_law_930 : decode cL_law 930 = .ok (.iconst 3, 1) := decs_at tdL_law_912 16 rfl
theorem dL_law_931 : decode cL_law 931 = .ok (.iadd, 1) := decs_at tdL_law_912 17 rfl
theorem dL_law_932 : decode cL_law 932 = .ok (.iaload, 1) := decs_at tdL_law_912 18 rfl
theorem dL_law_933 : decode cL_law 933 = .ok (.aload_n 0, 1) := decs_at tdL_law_912 19 rfl
theorem dL_law_934 : decode cL_law 934 = .ok (.iload_n 3, 1) := decs_at tdL_law_912 20 rfl
theorem dL_law_935 : decode cL_law 935 = .ok (.iconst 4, 1) := decs_at tdL_law_912 21 rfl
theorem dL_law_936 : decode cL_law 936 = .ok (.iadd, 1) := decs_at tdL_law_912 22 rfl
theorem dL_law_937 : decode cL_law 937 = .ok (.iaload, 1) := decs_at tdL_law_912 23 rfl
theorem dL_law_938 : decode cL_law 938 = .ok (.invokevirtual 99, 3) := decs_at tdL_law_912 24 rfl
theorem dL_law_941 : decode cL_law 941 = .ok (.if_icmp .eq 1125, 3) := decs_at tdL_law_912 25 rfl
theorem dL_law_944 : decode cL_law 944 = .ok (.iconst 0, 1) := decs_at tdL_law_912 26 rfl
theorem dL_law_945 : decode cL_law 945 = .ok (.ireturn, 1) := decs_at tdL_law_912 27 rfl
theorem dL_law_946 : decode cL_law 946 = .ok (.aload_n 1, 1) := decs_at tdL_law_912 28 rfl
theorem dL_law_947 : decode cL_law 947 = .ok (.aload_n 0, 1) := decs_at tdL_law_912 29 rfl
theorem dL_law_948 : decode cL_law 948 = .ok (.iload_n 3, 1) := decs_at tdL_law_912 30 rfl
theorem dL_law_949 : decode cL_law 949 = .ok (.iconst 1, 1) := decs_at tdL_law_912 31 rfl
theorem dL_law_950 : decode cL_law 950 = .ok (.iadd, 1) := decs_at tdL_law_912 32 rfl
theorem dL_law_951 : decode cL_law 951 = .ok (.iaload, 1) := decs_at tdL_law_912 33 rfl
theorem dL_law_952 : decode cL_law 952 = .ok (.aload_n 0, 1) := decs_at tdL_law_912 34 rfl
theorem dL_law_953 : decode cL_law 953 = .ok (.iload_n 3, 1) := decs_at tdL_law_912 35 rfl
theorem dL_law_954 : decode cL_law 954 = .ok (.iconst 2, 1) := decs_at tdL_law_912 36 rfl
theorem dL_law_955 : decode cL_law 955 = .ok (.iadd, 1) := decs_at tdL_law_912 37 rfl
theorem dL_law_956 : decode cL_law 956 = .ok (.iaload, 1) := decs_at tdL_law_912 38 rfl
theorem dL_law_957 : decode cL_law 957 = .ok (.invokevirtual 100, 3) := decs_at tdL_law_912 39 rfl
theorem tdL_law_960 : decs cL_law [(960, .aload_n 2, 1), (961, .aload_n 0, 1), (962, .iload_n 3, 1), (963, .iconst 1, 1), (964, .iadd, 1), (965, .iaload, 1), (966, .aload_n 0, 1), (967, .iload_n 3, 1), (968, .iconst 2, 1), (969, .iadd, 1), (970, .iaload, 1), (971, .invokevirtual 103, 3), (974, .if_icmp .eq 1092, 3), (977, .iconst 0, 1), (978, .ireturn, 1), (979, .aload_n 1, 1), (980, .aload_n 0, 1), (981, .iload_n 3, 1), (982, .iconst 1, 1), (983, .iadd, 1), (984, .iaload, 1), (985, .aload_n 0, 1), (986, .iload_n 3, 1), (987, .iconst 2, 1), (988, .iadd, 1), (989, .iaload, 1), (990, .aload_n 0, 1), (991, .iload_n 3, 1), (992, .iconst 3, 1), (993, .iadd, 1), (994, .iaload, 1), (995, .invokevirtual 104, 3), (998, .aload_n 2, 1), (999, .aload_n 0, 1), (1000, .iload_n 3, 1), (1001, .iconst 1, 1), (1002, .iadd, 1), (1003, .iaload, 1), (1004, .aload_n 0, 1), (1005, .iload_n 3, 1)] = true := by decide +kernel
theorem dL_law_960 : decode cL_law 960 = .ok (.aload_n 2, 1) := decs_at tdL_law_960 0 rfl
theorem dL_law_961 : decode cL_law 961 = .ok (.aload_n 0, 1) := decs_at tdL_law_960 1 rfl
theorem dL_law_962 : decode cL_law 962 = .ok (.iload_n 3, 1) := decs_at tdL_law_960 2 rfl
theorem dL_law_963 : decode cL_law 963 = .ok (.iconst 1, 1) := decs_at tdL_law_960 3 rfl
theorem dL_law_964 : decode cL_law 964 = .ok (.iadd, 1) := decs_at tdL_law_960 4 rfl
theorem dL_law_965 : decode cL_law 965 = .ok (.iaload, 1) := decs_at tdL_law_960 5 rfl
theorem dL_law_966 : decode cL_law 966 = .ok (.aload_n 0, 1) := decs_at tdL_law_960 6 rfl
theorem dL_law_967 : decode cL_law 967 = .ok (.iload_n 3, 1) := decs_at tdL_law_960 7 rfl
theorem dL_law_968 : decode cL_law 968 = .ok (.iconst 2, 1) := decs_at tdL_law_960 8 rfl
theorem dL_law_969 : decode cL_law 969 = .ok (.iadd, 1) := decs_at tdL_law_960 9 rfl
theorem dL_law_970 : decode cL_law 970 = .ok (.iaload, 1) := decs_at tdL_law_960 10 rfl
theorem dL_law_971 : decode cL_law 971 = .ok (.invokevirtual 103, 3) := decs_at tdL_law_960 11 rfl
theorem dL_law_974 : decode cL_law 974 = .ok (.if_icmp .eq 1092, 3) := decs_at tdL_law_960 12 rfl
theorem dL_law_977 : decode cL_law 977 = .ok (.iconst 0, 1) := decs_at tdL_law_960 13 rfl
theorem dL_law_978 : decode cL_law 978 = .ok (.ireturn, 1) := decs_at tdL_law_960 14 rfl
theorem dL_law_979 : decode cL_law 979 = .ok (.aload_n 1, 1) := decs_at tdL_law_960 15 rfl
theorem dL_law_980 : decode cL_law 980 = .ok (.aload_n 0, 1) := decs_at tdL_law_960 16 rfl
theorem dL_law_981 : decode cL_law 981 = .ok (.iload_n 3, 1) := decs_at tdL_law_960 17 rfl
theorem dL_law_982 : decode cL_law 982 = .ok (.iconst 1, 1) := decs_at tdL_law_960 18 rfl
theorem dL_law_983 : decode cL_law 983 = .ok (.iadd, 1) := decs_at tdL_law_960 19 rfl
theorem dL_law_984 : decode cL_law 984 = .ok (.iaload, 1) := decs_at tdL_law_960 20 rfl
theorem dL_law_985 : decode cL_law 985 = .ok (.aload_n 0, 1) := decs_at tdL_law_960 21 rfl
theorem dL_law_986 : decode cL_law 986 = .ok (.iload_n 3, 1) := decs_at tdL_law_960 22 rfl
theorem dL_law_987 : decode cL_law 987 = .ok (.iconst 2, 1) := decs_at tdL_law_960 23 rfl
theorem dL_law_988 : decode cL_law 988 = .ok (.iadd, 1) := decs_at tdL_law_960 24 rfl
theorem dL_law_989 : decode cL_law 989 = .ok (.iaload, 1) := decs_at tdL_law_960 25 rfl
theorem dL_law_990 : decode cL_law 990 = .ok (.aload_n 0, 1) := decs_at tdL_law_960 26 rfl
theorem dL_law_991 : decode cL_law 991 = .ok (.iload_n 3, 1) := decs_at tdL_law_960 27 rfl
theorem dL_law_992 : decode cL_law 992 = .ok (.iconst 3, 1) := decs_at tdL_law_960 28 rfl
theorem dL_law_993 : decode cL_law 993 = .ok (.iadd, 1) := decs_at tdL_law_960 29 rfl
theorem dL_law_994 : decode cL_law 994 = .ok (.iaload, 1) := decs_at tdL_law_960 30 rfl
theorem dL_law_995 : decode cL_law 995 = .ok (.invokevirtual 104, 3) := decs_at tdL_law_960 31 rfl
theorem dL_law_998 : decode cL_law 998 = .ok (.aload_n 2, 1) := decs_at tdL_law_960 32 rfl
theorem dL_law_999 : decode cL_law 999 = .ok (.aload_n 0, 1) := decs_at tdL_law_960 33 rfl
theorem dL_law_1000 : decode cL_law 1000 = .ok (.iload_n 3, 1) := decs_at tdL_law_960 34 rfl
theorem dL_law_1001 : decode cL_law 1001 = .ok (.iconst 1, 1) := decs_at tdL_law_960 35 rfl
theorem dL_law_1002 : decode cL_law 1002 = .ok (.iadd, 1) := decs_at tdL_law_960 36 rfl
theorem dL_law_1003 : decode cL_law 1003 = .ok (.iaload, 1) := decs_at tdL_law_960 37 rfl
theorem dL_law_1004 : decode cL_law 1004 = .ok (.aload_n 0, 1) := decs_at tdL_law_960 38 rfl
theorem dL_law_1005 : decode cL_law 1005 = .ok (.iload_n 3, 1) := decs_at tdL_law_960 39 rfl
theorem tdL_law_1006 : decs cL_law [(1006, .iconst 2, 1), (1007, .iadd, 1), (1008, .iaload, 1), (1009, .aload_n 0, 1), (1010, .iload_n 3, 1), (1011, .iconst 3, 1), (1012, .iadd, 1), (1013, .iaload, 1), (1014, .invokevirtual 107, 3), (1017, .if_icmp .eq 1049, 3), (1020, .iconst 0, 1), (1021, .ireturn, 1), (1022, .aload_n 1, 1), (1023, .aload_n 0, 1), (1024, .iload_n 3, 1), (1025, .iconst 1, 1), (1026, .iadd, 1), (1027, .iaload, 1), (1028, .aload_n 0, 1), (1029, .iload_n 3, 1), (1030, .iconst 2, 1), (1031, .iadd, 1), (1032, .iaload, 1), (1033, .aload_n 0, 1), (1034, .iload_n 3, 1), (1035, .iconst 3, 1), (1036, .iadd, 1), (1037, .iaload, 1), (1038, .aload_n 0, 1), (1039, .iload_n 3, 1), (1040, .iconst 4, 1), (1041, .iadd, 1), (1042, .iaload, 1), (1043, .invokevirtual 108, 3), (1046, .aload_n 2, 1), (1047, .aload_n 0, 1), (1048, .iload_n 3, 1), (1049, .iconst 1, 1), (1050, .iadd, 1), (1051, .iaload, 1)] = true := by decide +kernel
theorem dL_law_1006 : decode cL_law 1006 = .ok (.iconst 2, 1) := decs_at tdL_law_1006 0 rfl
theorem dL_law_1007 : decode cL_law 1007 = .ok (.iadd, 1) := decs_at tdL_law_1006 1 rfl
theorem dL_law_1008 : decode cL_law 1008 = .ok (.iaload, 1) := decs_at tdL_law_1006 2 rfl
theorem dL_law_1009 : decode cL_law 1009 = .ok (.aload_n 0, 1) := decs_at tdL_law_1006 3 rfl
theorem dL_law_1010 : decode cL_law 1010 = .ok (.iload_n 3, 1) := decs_at tdL_law_1006 4 rfl
theorem dL_law_1011 : decode cL_law 1011 = .ok (.iconst 3, 1) := decs_at tdL_law_1006 5 rfl
theorem dL_law_1012 : decode cL_law 1012 = .ok (.iadd, 1) := decs_at tdL_law_1006 6 rfl
theorem dL_law_1013 : decode cL_law 1013 = .ok (.iaload, 1) := decs_at tdL_law_1006 7 rfl
theorem dL_law_1014 : decode cL_law 1014 = .ok (.invokevirtual 107, 3) := decs_at tdL_law_1006 8 rfl
theorem dL_law_1017 : decode cL_law 1017 = .ok (.if_icmp .eq 1049, 3) := decs_at tdL_law_1006 9 rfl
theorem dL_law_1020 : decode cL_law 1020 = .ok (.iconst 0, 1) := decs_at tdL_law_1006 10 rfl
theorem dL_law_1021 : decode cL_law 1021 = .ok (.ireturn, 1) := decs_at tdL_law_1006 11 rfl
theorem dL_law_1022 : decode cL_law 1022 = .ok (.aload_n 1, 1) := decs_at tdL_law_1006 12 rfl
theorem dL_law_1023 : decode cL_law 1023 = .ok (.aload_n 0, 1) := decs_at tdL_law_1006 13 rfl
theorem dL_law_1024 : decode cL_law 1024 = .ok (.iload_n 3, 1) := decs_at tdL_law_1006 14 rfl
theorem dL_law_1025 : decode cL_law 1025 = .ok (.iconst 1, 1) := decs_at tdL_law_1006 15 rfl
theorem dL_law_1026 : decode cL_law 1026 = .ok (.iadd, 1) := decs_at tdL_law_1006 16 rfl
theorem dL_law_1027 : decode cL_law 1027 = .ok (.iaload, 1) := decs_at tdL_law_1006 17 rfl
theorem dL_law_1028 : decode cL_law 1028 = .ok (.aload_n 0, 1) := decs_at tdL_law_1006 18 rfl
theorem dL_law_1029 : decode cL_law 1029 = .ok (.iload_n 3, 1) := decs_at tdL_law_1006 19 rfl
theorem dL_law_1030 : decode cL_law 1030 = .ok (.iconst 2, 1) := decs_at tdL_law_1006 20 rfl
theorem dL_law_1031 : decode cL_law 1031 = .ok (.iadd, 1) := decs_at tdL_law_1006 21 rfl
theorem dL_law_1032 : decode cL_law 1032 = .ok (.iaload, 1) := decs_at tdL_law_1006 22 rfl
theorem dL_law_1033 : decode cL_law 1033 = .ok (.aload_n 0, 1) := decs_at tdL_law_1006 23 rfl
theorem dL_law_1034 : decode cL_law 1034 = .ok (.iload_n 3, 1) := decs_at tdL_law_1006 24 rfl
theorem dL_law_1035 : decode cL_law 1035 = .ok (.iconst 3, 1) := decs_at tdL_law_1006 25 rfl
theorem dL_law_1036 : decode cL_law 1036 = .ok (.iadd, 1) := decs_at tdL_law_1006 26 rfl
theorem dL_law_1037 : decode cL_law 1037 = .ok (.iaload, 1) := decs_at tdL_law_1006 27 rfl
theorem dL_law_1038 : decode cL_law 1038 = .ok (.aload_n 0, 1) := decs_at tdL_law_1006 28 rfl
theorem dL_law_1039 : decode cL_law 1039 = .ok (.iload_n 3, 1) := decs_at tdL_law_1006 29 rfl
theorem dL_law_1040 : decode cL_law 1040 = .ok (.iconst 4, 1) := decs_at tdL_law_1006 30 rfl
theorem dL_law_1041 : decode cL_law 1041 = .ok (.iadd, 1) := decs_at tdL_law_1006 31 rfl
theorem dL_law_1042 : decode cL_law 1042 = .ok (.iaload, 1) := decs_at tdL_law_1006 32 rfl
theorem dL_law_1043 : decode cL_law 1043 = .ok (.invokevirtual 108, 3) := decs_at tdL_law_1006 33 rfl
theorem dL_law_1046 : decode cL_law 1046 = .ok (.aload_n 2, 1) := decs_at tdL_law_1006 34 rfl
theorem dL_law_1047 : decode cL_law 1047 = .ok (.aload_n 0, 1) := decs_at tdL_law_1006 35 rfl
theorem dL_law_1048 : decode cL_law 1048 = .ok (.iload_n 3, 1) := decs_at tdL_law_1006 36 rfl
theorem dL_law_1049 : decode cL_law 1049 = .ok (.iconst 1, 1) := decs_at tdL_law_1006 37 rfl
theorem dL_law_1050 : decode cL_law 1050 = .ok (.iadd, 1) := decs_at tdL_law_1006 38 rfl
theorem dL_law_1051 : decode cL_law 1051 = .ok (.iaload, 1) := decs_at tdL_law_1006 39 rfl
theorem tdL_law_1052 : decs cL_law [(1052, .aload_n 0, 1), (1053, .iload_n 3, 1), (1054, .iconst 2, 1), (1055, .iadd, 1), (1056, .iaload, 1), (1057, .aload_n 0, 1), (1058, .iload_n 3, 1), (1059, .iconst 3, 1), (1060, .iadd, 1), (1061, .iaload, 1), (1062, .aload_n 0, 1), (1063, .iload_n 3, 1), (1064, .iconst 4, 1), (1065, .iadd, 1), (1066, .iaload, 1), (1067, .invokevirtual 111, 3), (1070, .if_icmp .eq 996, 3), (1073, .iconst 0, 1), (1074, .ireturn, 1), (1075, .aload_n 1, 1), (1076, .aload_n 0, 1), (1077, .iload_n 3, 1), (1078, .iconst 1, 1), (1079, .iadd, 1), (1080, .iaload, 1), (1081, .aload_n 0, 1), (1082, .iload_n 3, 1), (1083, .iconst 2, 1), (1084, .iadd, 1), (1085, .iaload, 1), (1086, .aload_n 0, 1), (1087, .iload_n 3, 1), (1088, .iconst 3, 1), (1089, .iadd, 1), (1090, .iaload, 1), (1091, .aload_n 0, 1), (1092, .iload_n 3, 1), (1093, .iconst 4, 1), (1094, .iadd, 1), (1095, .iaload, 1)] = true := by decide +kernel
theorem dL_law_1052 : decode cL_law 1052 = .ok (.aload_n 0, 1) := decs_at tdL_law_1052 0 rfl
theorem dL_law_1053 : decode cL_law 1053 = .ok (.iload_n 3, 1) := decs_at tdL_law_1052 1 rfl
theorem dL_law_1054 : decode cL_law 1054 = .ok (.iconst 2, 1) := decs_at tdL_law_1052 2 rfl
theorem dL_law_1055 : decode cL_law 1055 = .ok (.iadd, 1) := decs_at tdL_law_1052 3 rfl
theorem dL_law_1056 : decode cL_law 1056 = .ok (.iaload, 1) := decs_at tdL_law_1052 4 rfl
theorem dL_law_1057 : decode cL_law 1057 = .ok (.aload_n 0, 1) := decs_at tdL_law_1052 5 rfl
theorem dL_law_1058 : decode cL_law 1058 = .ok (.iload_n 3, 1) := decs_at tdL_law_1052 6 rfl
theorem dL_law_1059 : decode cL_law 1059 = .ok (.iconst 3, 1) := decs_at tdL_law_1052 7 rfl
theorem dL_law_1060 : decode cL_law 1060 = .ok (.iadd, 1) := decs_at tdL_law_1052 8 rfl
theorem dL_law_1061 : decode cL_law 1061 = .ok (.iaload, 1) := decs_at tdL_law_1052 9 rfl
theorem dL_law_1062 : decode cL_law 1062 = .ok (.aload_n 0, 1) := decs_at tdL_law_1052 10 rfl
theorem dL_law_1063 : decode cL_law 1063 = .ok (.iload_n 3, 1) := decs_at tdL_law_1052 11 rfl
theorem dL_law_1064 : decode cL_law 1064 = .ok (.iconst 4, 1) := decs_at tdL_law_1052 12 rfl
theorem dL_law_1065 : decode cL_law 1065 = .ok (.iadd, 1) := decs_at tdL_law_1052 13 rfl
theorem dL_law_1066 : decode cL_law 1066 = .ok (.iaload, 1) := decs_at tdL_law_1052 14 rfl
theorem dL_law_1067 : decode cL_law 1067 = .ok (.invokevirtual 111, 3) := decs_at tdL_law_1052 15 rfl
theorem dL_law_1070 : decode cL_law 1070 = .ok (.if_icmp .eq 996, 3) := decs_at tdL_law_1052 16 rfl
theorem dL_law_1073 : decode cL_law 1073 = .ok (.iconst 0, 1) := decs_at tdL_law_1052 17 rfl
theorem dL_law_1074 : decode cL_law 1074 = .ok (.ireturn, 1) := decs_at tdL_law_1052 18 rfl
theorem dL_law_1075 : decode cL_law 1075 = .ok (.aload_n 1, 1) := decs_at tdL_law_1052 19 rfl
theorem dL_law_1076 : decode cL_law 1076 = .ok (.aload_n 0, 1) := decs_at tdL_law_1052 20 rfl
theorem dL_law_1077 : decode cL_law 1077 = .ok (.iload_n 3, 1) := decs_at tdL_law_1052 21 rfl
theorem dL_law_1078 : decode cL_law 1078 = .ok (.iconst 1, 1) := decs_at tdL_law_1052 22 rfl
theorem dL_law_1079 : decode cL_law 1079 = .ok (.iadd, 1) := decs_at tdL_law_1052 23 rfl
theorem dL_law_1080 : decode cL_law 1080 = .ok (.iaload, 1) := decs_at tdL_law_1052 24 rfl
theorem dL_law_1081 : decode cL_law 1081 = .ok (.aload_n 0, 1) := decs_at tdL_law_1052 25 rfl
theorem dL_law_1082 : decode cL_law 1082 = .ok (.iload_n 3, 1) := decs_at tdL_law_1052 26 rfl
theorem dL_law_1083 : decode cL_law 1083 = .ok (.iconst 2, 1) := decs_at tdL_law_1052 27 rfl
theorem dL_law_1084 : decode cL_law 1084 = .ok (.iadd, 1) := decs_at tdL_law_1052 28 rfl
theorem dL_law_1085 : decode cL_law 1085 = .ok (.iaload, 1) := decs_at tdL_law_1052 29 rfl
theorem dL_law_1086 : decode cL_law 1086 = .ok (.aload_n 0, 1) := decs_at tdL_law_1052 30 rfl
theorem dL_law_1087 : decode cL_law 1087 = .ok (.iload_n 3, 1) := decs_at tdL_law_1052 31 rfl
theorem dL_law_1088 : decode cL_law 1088 = .ok (.iconst 3, 1) := decs_at tdL_law_1052 32 rfl
theorem dL_law_1089 : decode cL_law 1089 = .ok (.iadd, 1) := decs_at tdL_law_1052 33 rfl
theorem dL_law_1090 : decode cL_law 1090 = .ok (.iaload, 1) := decs_at tdL_law_1052 34 rfl
theorem dL_law_1091 : decode cL_law 1091 = .ok (.aload_n 0, 1) := decs_at tdL_law_1052 35 rfl
theorem dL_law_1092 : decode cL_law 1092 = .ok (.iload_n 3, 1) := decs_at tdL_law_1052 36 rfl
theorem dL_law_1093 : decode cL_law 1093 = .ok (.iconst 4, 1) := decs_at tdL_law_1052 37 rfl
theorem dL_law_1094 : decode cL_law 1094 = .ok (.iadd, 1) := decs_at tdL_law_1052 38 rfl
theorem dL_law_1095 : decode cL_law 1095 = .ok (.iaload, 1) := decs_at tdL_law_1052 39 rfl
theorem tdL_law_1096 : decs cL_law [(1096, .aload_n 0, 1), (1097, .iload_n 3, 1), (1098, .iconst 5, 1), (1099, .iadd, 1), (1100, .iaload, 1), (1101, .invokevirtual 112, 3), (1104, .aload_n 2, 1), (1105, .aload_n 0, 1), (1106, .iload_n 3, 1), (1107, .iconst 1, 1), (1108, .iadd, 1), (1109, .iaload, 1), (1110, .aload_n 0, 1), (1111, .iload_n 3, 1), (1112, .iconst 2, 1), (1113, .iadd, 1), (1114, .iaload, 1), (1115, .aload_n 0, 1), (1116, .iload_n 3, 1), (1117, .iconst 3, 1), (1118, .iadd, 1), (1119, .iaload, 1), (1120, .aload_n 0, 1), (1121, .iload_n 3, 1), (1122, .iconst 4, 1), (1123, .iadd, 1), (1124, .iaload, 1), (1125, .aload_n 0, 1), (1126, .iload_n 3, 1), (1127, .iconst 5, 1), (1128, .iadd, 1), (1129, .iaload, 1), (1130, .invokevirtual 115, 3), (1133, .if_icmp .eq 933, 3), (1136, .iconst 0, 1), (1137, .ireturn, 1), (1138, .aload_n 1, 1), (1139, .aload_n 0, 1), (1140, .iload_n 3, 1), (1141, .iconst 1, 1)] = true := by decide +kernel
theorem dL_law_1096 : decode cL_law 1096 = .ok (.aload_n 0, 1) := decs_at tdL_law_1096 0 rfl
theorem dL_law_1097 : decode cL_law 1097 = .ok (.iload_n 3, 1) := decs_at tdL_law_1096 1 rfl
theorem dL_law_1098 : decode cL_law 1098 = .ok (.iconst 5, 1) := decs_at tdL_law_1096 2 rfl
theorem dL_law_1099 : decode cL_law 1099 = .ok (.iadd, 1) := decs_at tdL_law_1096 3 rfl
theorem dL_law_1100 : decode cL_law 1100 = .ok (.iaload, 1) := decs_at tdL_law_1096 4 rfl
theorem dL_law_1101 : decode cL_law 1101 = .ok (.invokevirtual 112, 3) := decs_at tdL_law_1096 5 rfl
theorem dL_law_1104 : decode cL_law 1104 = .ok (.aload_n 2, 1) := decs_at tdL_law_1096 6 rfl
theorem dL_law_1105 : decode cL_law 1105 = .ok (.aload_n 0, 1) := decs_at tdL_law_1096 7 rfl
theorem dL_law_1106 : decode cL_law 1106 = .ok (.iload_n 3, 1) := decs_at tdL_law_1096 8 rfl
theorem dL_law_1107 : decode cL_law 1107 = .ok (.iconst 1, 1) := decs_at tdL_law_1096 9 rfl
theorem dL_law_1108 : decode cL_law 1108 = .ok (.iadd, 1) := decs_at tdL_law_1096 10 rfl
theorem dL_law_1109 : decode cL_law 1109 = .ok (.iaload, 1) := decs_at tdL_law_1096 11 rfl
theorem dL_law_1110 : decode cL_law 1110 = .ok (.aload_n 0, 1) := decs_at tdL_law_1096 12 rfl
theorem dL_law_1111 : decode cL_law 1111 = .ok (.iload_n 3, 1) := decs_at tdL_law_1096 13 rfl
theorem dL_law_1112 : decode cL_law 1112 = .ok (.iconst 2, 1) := decs_at tdL_law_1096 14 rfl
theorem dL_law_1113 : decode cL_law 1113 = .ok (.iadd, 1) := decs_at tdL_law_1096 15 rfl
theorem dL_law_1114 : decode cL_law 1114 = .ok (.iaload, 1) := decs_at tdL_law_1096 16 rfl
theorem dL_law_1115 : decode cL_law 1115 = .ok (.aload_n 0, 1) := decs_at tdL_law_1096 17 rfl
theorem dL_law_1116 : decode cL_law 1116 = .ok (.iload_n 3, 1) := decs_at tdL_law_1096 18 rfl
theorem dL_law_1117 : decode cL_law 1117 = .ok (.iconst 3, 1) := decs_at tdL_law_1096 19 rfl
theorem dL_law_1118 : decode cL_law 1118 = .ok (.iadd, 1) := decs_at tdL_law_1096 20 rfl
theorem dL_law_1119 : decode cL_law 1119 = .ok (.iaload, 1) := decs_at tdL_law_1096 21 rfl
theorem dL_law_1120 : decode cL_law 1120 = .ok (.aload_n 0, 1) := decs_at tdL_law_1096 22 rfl
theorem dL_law_1121 : decode cL_law 1121 = .ok (.iload_n 3, 1) := decs_at tdL_law_1096 23 rfl
theorem dL_law_1122 : decode cL_law 1122 = .ok (.iconst 4, 1) := decs_at tdL_law_1096 24 rfl
theorem dL_law_1123 : decode cL_law 1123 = .ok (.iadd, 1) := decs_at tdL_law_1096 25 rfl
theorem dL_law_1124 : decode cL_law 1124 = .ok (.iaload, 1) := decs_at tdL_law_1096 26 rfl
theorem dL_law_1125 : decode cL_law 1125 = .ok (.aload_n 0, 1) := decs_at tdL_law_1096 27 rfl
theorem dL_law_1126 : decode cL_law 1126 = .ok (.iload_n 3, 1) := decs_at tdL_law_1096 28 rfl
theorem dL_law_1127 : decode cL_law 1127 = .ok (.iconst 5, 1) := decs_at tdL_law_1096 29 rfl
theorem dL_law_1128 : decode cL_law 1128 = .ok (.iadd, 1) := decs_at tdL_law_1096 30 rfl
theorem dL_law_1129 : decode cL_law 1129 = .ok (.iaload, 1) := decs_at tdL_law_1096 31 rfl
theorem dL_law_1130 : decode cL_law 1130 = .ok (.invokevirtual 115, 3) := decs_at tdL_law_1096 32 rfl
theorem dL_law_1133 : decode cL_law 1133 = .ok (.if_icmp .eq 933, 3) := decs_at tdL_law_1096 33 rfl
theorem dL_law_1136 : decode cL_law 1136 = .ok (.iconst 0, 1) := decs_at tdL_law_1096 34 rfl
theorem dL_law_1137 : decode cL_law 1137 = .ok (.ireturn, 1) := decs_at tdL_law_1096 35 rfl
theorem dL_law_1138 : decode cL_law 1138 = .ok (.aload_n 1, 1) := decs_at tdL_law_1096 36 rfl
theorem dL_law_1139 : decode cL_law 1139 = .ok (.aload_n 0, 1) := decs_at tdL_law_1096 37 rfl
theorem dL_law_1140 : decode cL_law 1140 = .ok (.iload_n 3, 1) := decs_at tdL_law_1096 38 rfl
theorem dL_law_1141 : decode cL_law 1141 = .ok (.iconst 1, 1) := decs_at tdL_law_1096 39 rfl
theorem tdL_law_1142 : decs cL_law [(1142, .iadd, 1), (1143, .iaload, 1), (1144, .aload_n 0, 1), (1145, .iload_n 3, 1), (1146, .iconst 2, 1), (1147, .iadd, 1), (1148, .iaload, 1), (1149, .aload_n 0, 1), (1150, .iload_n 3, 1), (1151, .iconst 3, 1), (1152, .iadd, 1), (1153, .iaload, 1), (1154, .invokevirtual 116, 3), (1157, .aload_n 2, 1), (1158, .aload_n 0, 1), (1159, .iload_n 3, 1), (1160, .iconst 1, 1), (1161, .iadd, 1), (1162, .iaload, 1), (1163, .aload_n 0, 1), (1164, .iload_n 3, 1), (1165, .iconst 2, 1), (1166, .iadd, 1), (1167, .iaload, 1), (1168, .aload_n 0, 1), (1169, .iload_n 3, 1), (1170, .iconst 3, 1), (1171, .iadd, 1), (1172, .iaload, 1), (1173, .invokevirtual 119, 3), (1176, .if_icmp .eq 890, 3), (1179, .iconst 0, 1), (1180, .ireturn, 1), (1181, .aload_n 1, 1), (1182, .aload_n 0, 1), (1183, .iload_n 3, 1), (1184, .iconst 1, 1), (1185, .iadd, 1), (1186, .iaload, 1), (1187, .aload_n 0, 1)] = true := by decide +kernel
theorem dL_law_1142 : decode cL_law 1142 = .ok (.iadd, 1) := decs_at tdL_law_1142 0 rfl
theorem dL_law_1143 : decode cL_law 1143 = .ok (.iaload, 1) := decs_at tdL_law_1142 1 rfl
theorem dL_law_1144 : decode cL_law 1144 = .ok (.aload_n 0, 1) := decs_at tdL_law_1142 2 rfl
theorem dL_law_1145 : decode cL_law 1145 = .ok (.iload_n 3, 1) := decs_at tdL_law_1142 3 rfl
theorem dL_law_1146 : decode cL_law 1146 = .ok (.iconst 2, 1) := decs_at tdL_law_1142 4 rfl
theorem dL_law_1147 : decode cL_law 1147 = .ok (.iadd, 1) := decs_at tdL_law_1142 5 rfl
theorem dL_law_1148 : decode cL_law 1148 = .ok (.iaload, 1) := decs_at tdL_law_1142 6 rfl
theorem dL_law_1149 : decode cL_law 1149 = .ok (.aload_n 0, 1) := decs_at tdL_law_1142 7 rfl
theorem dL_law_1150 : decode cL_law 1150 = .ok (.iload_n 3, 1) := decs_at tdL_law_1142 8 rfl
theorem dL_law_1151 : decode cL_law 1151 = .ok (.iconst 3, 1) := decs_at tdL_law_1142 9 rfl
theorem dL_law_1152 : decode cL_law 1152 = .ok (.iadd, 1) := decs_at tdL_law_1142 10 rfl
theorem dL_law_1153 : decode cL_law 1153 = .ok (.iaload, 1) := decs_at tdL_law_1142 11 rfl
theorem dL_law_1154 : decode cL_law 1154 = .ok (.invokevirtual 116, 3) := decs_at tdL_law_1142 12 rfl
theorem dL_law_1157 : decode cL_law 1157 = .ok (.aload_n 2, 1) := decs_at tdL_law_1142 13 rfl
theorem dL_law_1158 : decode cL_law 1158 = .ok (.aload_n 0, 1) := decs_at tdL_law_1142 14 rfl
theorem dL_law_1159 : decode cL_law 1159 = .ok (.iload_n 3, 1) := decs_at tdL_law_1142 15 rfl
theorem dL_law_1160 : decode cL_law 1160 = .ok (.iconst 1, 1) := decs_at tdL_law_1142 16 rfl
theorem dL_law_1161 : decode cL_law 1161 = .ok (.iadd, 1) := decs_at tdL_law_1142 17 rfl
theorem dL_law_1162 : decode cL_law 1162 = .ok (.iaload, 1) := decs_at tdL_law_1142 18 rfl
theorem dL_law_1163 : decode cL_law 1163 = .ok (.aload_n 0, 1) := decs_at tdL_law_1142 19 rfl
theorem dL_law_1164 : decode cL_law 1164 = .ok (.iload_n 3, 1) := decs_at tdL_law_1142 20 rfl
theorem dL_law_1165 : decode cL_law 1165 = .ok (.iconst 2, 1) := decs_at tdL_law_1142 21 rfl
theorem dL_law_1166 : decode cL_law 1166 = .ok (.iadd, 1) := decs_at tdL_law_1142 22 rfl
theorem dL_law_1167 : decode cL_law 1167 = .ok (.iaload, 1) := decs_at tdL_law_1142 23 rfl
theorem dL_law_1168 : decode cL_law 1168 = .ok (.aload_n 0, 1) := decs_at tdL_law_1142 24 rfl
theorem dL_law_1169 : decode cL_law 1169 = .ok (.iload_n 3, 1) := decs_at tdL_law_1142 25 rfl
theorem dL_law_1170 : decode cL_law 1170 = .ok (.iconst 3, 1) := decs_at tdL_law_1142 26 rfl
theorem dL_law_1171 : decode cL_law 1171 = .ok (.iadd, 1) := decs_at tdL_law_1142 27 rfl
theorem dL_law_1172 : decode cL_law 1172 = .ok (.iaload, 1) := decs_at tdL_law_1142 28 rfl
theorem dL_law_1173 : decode cL_law 1173 = .ok (.invokevirtual 119, 3) := decs_at tdL_law_1142 29 rfl
theorem dL_law_1176 : decode cL_law 1176 = .ok (.if_icmp .eq 890, 3) := decs_at tdL_law_1142 30 rfl
theorem dL_law_1179 : decode cL_law 1179 = .ok (.iconst 0, 1) := decs_at tdL_law_1142 31 rfl
theorem dL_law_1180 : decode cL_law 1180 = .ok (.ireturn, 1) := decs_at tdL_law_1142 32 rfl
theorem dL_law_1181 : decode cL_law 1181 = .ok (.aload_n 1, 1) := decs_at tdL_law_1142 33 rfl
theorem dL_law_1182 : decode cL_law 1182 = .ok (.aload_n 0, 1) := decs_at tdL_law_1142 34 rfl
theorem dL_law_1183 : decode cL_law 1183 = .ok (.iload_n 3, 1) := decs_at tdL_law_1142 35 rfl
theorem dL_law_1184 : decode cL_law 1184 = .ok (.iconst 1, 1) := decs_at tdL_law_1142 36 rfl
theorem dL_law_1185 : decode cL_law 1185 = .ok (.iadd, 1) := decs_at tdL_law_1142 37 rfl
theorem dL_law_1186 : decode cL_law 1186 = .ok (.iaload, 1) := decs_at tdL_law_1142 38 rfl
theorem dL_law_1187 : decode cL_law 1187 = .ok (.aload_n 0, 1) := decs_at tdL_law_1142 39 rfl
theorem tdL_law_1188 : decs cL_law [(1188, .iload_n 3, 1), (1189, .iconst 2, 1), (1190, .iadd, 1), (1191, .iaload, 1), (1192, .aload_n 0, 1), (1193, .iload_n 3, 1), (1194, .iconst 3, 1), (1195, .iadd, 1), (1196, .iaload, 1), (1197, .invokevirtual 120, 3), (1200, .aload_n 2, 1), (1201, .aload_n 0, 1), (1202, .iload_n 3, 1), (1203, .iconst 1, 1), (1204, .iadd, 1), (1205, .iaload, 1), (1206, .aload_n 0, 1), (1207, .iload_n 3, 1), (1208, .iconst 2, 1), (1209, .iadd, 1), (1210, .iaload, 1), (1211, .aload_n 0, 1), (1212, .iload_n 3, 1), (1213, .iconst 3, 1), (1214, .iadd, 1), (1215, .iaload, 1), (1216, .invokevirtual 123, 3), (1219, .if_icmp .eq 847, 3), (1222, .iconst 0, 1), (1223, .ireturn, 1), (1224, .aload_n 1, 1), (1225, .aload_n 0, 1), (1226, .iload_n 3, 1), (1227, .iconst 1, 1), (1228, .iadd, 1), (1229, .iaload, 1), (1230, .aload_n 0, 1), (1231, .iload_n 3, 1), (1232, .iconst 2, 1), (1233, .iadd, 1)] = true := by decide +kernel
theorem dL_law_1188 : decode cL_law 1188 = .ok (.iload_n 3, 1) := decs_at tdL_law_1188 0 rfl
theorem dL_law_1189 : decode cL_law 1189 = .ok (.iconst 2, 1) := decs_at tdL_law_1188 1 rfl
theorem dL_law_1190 : decode cL_law 1190 = .ok (.iadd, 1) := decs_at tdL_law_1188 2 rfl
theorem dL_law_1191 : decode cL_law 1191 = .ok (.iaload, 1) := decs_at tdL_law_1188 3 rfl
theorem dL_law_1192 : decode cL_law 1192 = .ok (.aload_n 0, 1) := decs_at tdL_law_1188 4 rfl
theorem dL_law_1193 : decode cL_law 1193 = .ok (.iload_n 3, 1) := decs_at tdL_law_1188 5 rfl
theorem dL_law_1194 : decode cL_law 1194 = .ok (.iconst 3, 1) := decs_at tdL_law_1188 6 rfl
theorem dL_law_1195 : decode cL_law 1195 = .ok (.iadd, 1) := decs_at tdL_law_1188 7 rfl
theorem dL_law_1196 : decode cL_law 1196 = .ok (.iaload, 1) := decs_at tdL_law_1188 8 rfl
theorem dL_law_1197 : decode cL_law 1197 = .ok (.invokevirtual 120, 3) := decs_at tdL_law_1188 9 rfl
theorem dL_law_1200 : decode cL_law 1200 = .ok (.aload_n 2, 1) := decs_at tdL_law_1188 10 rfl
theorem dL_law_1201 : decode cL_law 1201 = .ok (.aload_n 0, 1) := decs_at tdL_law_1188 11 rfl
theorem dL_law_1202 : decode cL_law 1202 = .ok (.iload_n 3, 1) := decs_at tdL_law_1188 12 rfl
theorem dL_law_1203 : decode cL_law 1203 = .ok (.iconst 1, 1) := decs_at tdL_law_1188 13 rfl
theorem dL_law_1204 : decode cL_law 1204 = .ok (.iadd, 1) := decs_at tdL_law_1188 14 rfl
theorem dL_law_1205 : decode cL_law 1205 = .ok (.iaload, 1) := decs_at tdL_law_1188 15 rfl
theorem dL_law_1206 : decode cL_law 1206 = .ok (.aload_n 0, 1) := decs_at tdL_law_1188 16 rfl
theorem dL_law_1207 : decode cL_law 1207 = .ok (.iload_n 3, 1) := decs_at tdL_law_1188 17 rfl
theorem dL_law_1208 : decode cL_law 1208 = .ok (.iconst 2, 1) := decs_at tdL_law_1188 18 rfl
theorem dL_law_1209 : decode cL_law 1209 = .ok (.iadd, 1) := decs_at tdL_law_1188 19 rfl
theorem dL_law_1210 : decode cL_law 1210 = .ok (.iaload, 1) := decs_at tdL_law_1188 20 rfl
theorem dL_law_1211 : decode cL_law 1211 = .ok (.aload_n 0, 1) := decs_at tdL_law_1188 21 rfl
theorem dL_law_1212 : decode cL_law 1212 = .ok (.iload_n 3, 1) := decs_at tdL_law_1188 22 rfl
theorem dL_law_1213 : decode cL_law 1213 = .ok (.iconst 3, 1) := decs_at tdL_law_1188 23 rfl
theorem dL_law_1214 : decode cL_law 1214 = .ok (.iadd, 1) := decs_at tdL_law_1188 24 rfl
theorem dL_law_1215 : decode cL_law 1215 = .ok (.iaload, 1) := decs_at tdL_law_1188 25 rfl
theorem dL_law_1216 : decode cL_law 1216 = .ok (.invokevirtual 123, 3) := decs_at tdL_law_1188 26 rfl
theorem dL_law_1219 : decode cL_law 1219 = .ok (.if_icmp .eq 847, 3) := decs_at tdL_law_1188 27 rfl
theorem dL_law_1222 : decode cL_law 1222 = .ok (.iconst 0, 1) := decs_at tdL_law_1188 28 rfl
theorem dL_law_1223 : decode cL_law 1223 = .ok (.ireturn, 1) := decs_at tdL_law_1188 29 rfl
theorem dL_law_1224 : decode cL_law 1224 = .ok (.aload_n 1, 1) := decs_at tdL_law_1188 30 rfl
theorem dL_law_1225 : decode cL_law 1225 = .ok (.aload_n 0, 1) := decs_at tdL_law_1188 31 rfl
theorem dL_law_1226 : decode cL_law 1226 = .ok (.iload_n 3, 1) := decs_at tdL_law_1188 32 rfl
theorem dL_law_1227 : decode cL_law 1227 = .ok (.iconst 1, 1) := decs_at tdL_law_1188 33 rfl
theorem dL_law_1228 : decode cL_law 1228 = .ok (.iadd, 1) := decs_at tdL_law_1188 34 rfl
theorem dL_law_1229 : decode cL_law 1229 = .ok (.iaload, 1) := decs_at tdL_law_1188 35 rfl
theorem dL_law_1230 : decode cL_law 1230 = .ok (.aload_n 0, 1) := decs_at tdL_law_1188 36 rfl
theorem dL_law_1231 : decode cL_law 1231 = .ok (.iload_n 3, 1) := decs_at tdL_law_1188 37 rfl
theorem dL_law_1232 : decode cL_law 1232 = .ok (.iconst 2, 1) := decs_at tdL_law_1188 38 rfl
theorem dL_law_1233 : decode cL_law 1233 = .ok (.iadd, 1) := decs_at tdL_law_1188 39 rfl
theorem tdL_law_1234 : decs cL_law [(1234, .iaload, 1), (1235, .invokevirtual 124, 3), (1238, .aload_n 2, 1), (1239, .aload_n 0, 1), (1240, .iload_n 3, 1), (1241, .iconst 1, 1), (1242, .iadd, 1), (1243, .iaload, 1), (1244, .aload_n 0, 1), (1245, .iload_n 3, 1), (1246, .iconst 2, 1), (1247, .iadd, 1), (1248, .iaload, 1), (1249, .invokevirtual 127, 3), (1252, .if_icmp .eq 814, 3), (1255, .iconst 0, 1), (1256, .ireturn, 1), (1257, .aload_n 1, 1), (1258, .aload_n 0, 1), (1259, .iload_n 3, 1), (1260, .iconst 1, 1), (1261, .iadd, 1), (1262, .iaload, 1), (1263, .aload_n 0, 1), (1264, .iload_n 3, 1), (1265, .iconst 2, 1), (1266, .iadd, 1), (1267, .iaload, 1), (1268, .aload_n 0, 1), (1269, .iload_n 3, 1), (1270, .iconst 3, 1), (1271, .iadd, 1), (1272, .iaload, 1), (1273, .invokevirtual 128, 3), (1276, .aload_n 2, 1), (1277, .aload_n 0, 1), (1278, .iload_n 3, 1), (1279, .iconst 1, 1), (1280, .iadd, 1), (1281, .iaload, 1)] = true := by decide +kernel
theorem dL_law_1234 : decode cL_law 1234 = .ok (.iaload, 1) := decs_at tdL_law_1234 0 rfl
theorem dL_law_1235 : decode cL_law 1235 = .ok (.invokevirtual 124, 3) := decs_at tdL_law_1234 1 rfl
theorem dL_law_1238 : decode cL_law 1238 = .ok (.aload_n 2, 1) := decs_at tdL_law_1234 2 rfl
theorem dL_law_1239 : decode cL_law 1239 = .ok (.aload_n 0, 1) := decs_at tdL_law_1234 3 rfl
theorem dL_law_1240 : decode cL_law 1240 = .ok (.iload_n 3, 1) := decs_at tdL_law_1234 4 rfl
theorem dL_law_1241 : decode cL_law 1241 = .ok (.iconst 1, 1) := decs_at tdL_law_1234 5 rfl
theorem dL_law_1242 : decode cL_law 1242 = .ok (.iadd, 1) := decs_at tdL_law_1234 6 rfl
theorem dL_law_1243 : decode cL_law 1243 = .ok (.iaload, 1) := decs_at tdL_law_1234 7 rfl
theorem dL_law_1244 : decode cL_law 1244 = .ok (.aload_n 0, 1) := decs_at tdL_law_1234 8 rfl
theorem dL_law_1245 : decode cL_law 1245 = .ok (.iload_n 3, 1) := decs_at tdL_law_1234 9 rfl
theorem dL_law_1246 : decode cL_law 1246 = .ok (.iconst 2, 1) := decs_at tdL_law_1234 10 rfl
theorem dL_law_1247 : decode cL_law 1247 = .ok (.iadd, 1) := decs_at tdL_law_1234 11 rfl
theorem dL_law_1248 : decode cL_law 1248 = .ok (.iaload, 1) := decs_at tdL_law_1234 12 rfl
theorem dL_law_1249 : decode cL_law 1249 = .ok (.invokevirtual 127, 3) := decs_at tdL_law_1234 13 rfl
theorem dL_law_1252 : decode cL_law 1252 = .ok (.if_icmp .eq 814, 3) := decs_at tdL_law_1234 14 rfl
theorem dL_law_1255 : decode cL_law 1255 = .ok (.iconst 0, 1) := decs_at tdL_law_1234 15 rfl
theorem dL_law_1256 : decode cL_law 1256 = .ok (.ireturn, 1) := decs_at tdL_law_1234 16 rfl
theorem dL_law_1257 : decode cL_law 1257 = .ok (.aload_n 1, 1) := decs_at tdL_law_1234 17 rfl
theorem dL_law_1258 : decode cL_law 1258 = .ok (.aload_n 0, 1) := decs_at tdL_law_1234 18 rfl
theorem dL_law_1259 : decode cL_law 1259 = .ok (.iload_n 3, 1) := decs_at tdL_law_1234 19 rfl
theorem dL_law_1260 : decode cL_law 1260 = .ok (.iconst 1, 1) := decs_at tdL_law_1234 20 rfl
theorem dL_law_1261 : decode cL_law 1261 = .ok (.iadd, 1) := decs_at tdL_law_1234 21 rfl
theorem dL_law_1262 : decode cL_law 1262 = .ok (.iaload, 1) := decs_at tdL_law_1234 22 rfl
theorem dL_law_1263 : decode cL_law 1263 = .ok (.aload_n 0, 1) := decs_at tdL_law_1234 23 rfl
theorem dL_law_1264 : decode cL_law 1264 = .ok (.iload_n 3, 1) := decs_at tdL_law_1234 24 rfl
theorem dL_law_1265 : decode cL_law 1265 = .ok (.iconst 2, 1) := decs_at tdL_law_1234 25 rfl
theorem dL_law_1266 : decode cL_law 1266 = .ok (.iadd, 1) := decs_at tdL_law_1234 26 rfl
theorem dL_law_1267 : decode cL_law 1267 = .ok (.iaload, 1) := decs_at tdL_law_1234 27 rfl
theorem dL_law_1268 : decode cL_law 1268 = .ok (.aload_n 0, 1) := decs_at tdL_law_1234 28 rfl
theorem dL_law_1269 : decode cL_law 1269 = .ok (.iload_n 3, 1) := decs_at tdL_law_1234 29 rfl
theorem dL_law_1270 : decode cL_law 1270 = .ok (.iconst 3, 1) := decs_at tdL_law_1234 30 rfl
theorem dL_law_1271 : decode cL_law 1271 = .ok (.iadd, 1) := decs_at tdL_law_1234 31 rfl
theorem dL_law_1272 : decode cL_law 1272 = .ok (.iaload, 1) := decs_at tdL_law_1234 32 rfl
theorem dL_law_1273 : decode cL_law 1273 = .ok (.invokevirtual 128, 3) := decs_at tdL_law_1234 33 rfl
theorem dL_law_1276 : decode cL_law 1276 = .ok (.aload_n 2, 1) := decs_at tdL_law_1234 34 rfl
theorem dL_law_1277 : decode cL_law 1277 = .ok (.aload_n 0, 1) := decs_at tdL_law_1234 35 rfl
theorem dL_law_1278 : decode cL_law 1278 = .ok (.iload_n 3, 1) := decs_at tdL_law_1234 36 rfl
theorem dL_law_1279 : decode cL_law 1279 = .ok (.iconst 1, 1) := decs_at tdL_law_1234 37 rfl
theorem dL_law_1280 : decode cL_law 1280 = .ok (.iadd, 1) := decs_at tdL_law_1234 38 rfl
theorem dL_law_1281 : decode cL_law 1281 = .ok (.iaload, 1) := decs_at tdL_law_1234 39 rfl
theorem tdL_law_1282 : decs cL_law [(1282, .aload_n 0, 1), (1283, .iload_n 3, 1), (1284, .iconst 2, 1), (1285, .iadd, 1), (1286, .iaload, 1), (1287, .aload_n 0, 1), (1288, .iload_n 3, 1), (1289, .iconst 3, 1), (1290, .iadd, 1), (1291, .iaload, 1), (1292, .invokevirtual 131, 3), (1295, .if_icmp .eq 771, 3), (1298, .iconst 0, 1), (1299, .ireturn, 1), (1300, .aload_n 1, 1), (1301, .aload_n 0, 1), (1302, .iload_n 3, 1), (1303, .iconst 1, 1), (1304, .iadd, 1), (1305, .iaload, 1), (1306, .aload_n 0, 1), (1307, .iload_n 3, 1), (1308, .iconst 2, 1), (1309, .iadd, 1), (1310, .iaload, 1), (1311, .aload_n 0, 1), (1312, .iload_n 3, 1), (1313, .iconst 3, 1), (1314, .iadd, 1), (1315, .iaload, 1), (1316, .aload_n 0, 1), (1317, .iload_n 3, 1), (1318, .iconst 4, 1), (1319, .iadd, 1), (1320, .iaload, 1), (1321, .invokevirtual 132, 3), (1324, .aload_n 2, 1), (1325, .aload_n 0, 1), (1326, .iload_n 3, 1), (1327, .iconst 1, 1)] = true := by decide +kernel
theorem dL_law_1282 : decode cL_law 1282 = .ok (.aload_n 0, 1) := decs_at tdL_law_1282 0 rfl
theorem dL_law_1283 : decode cL_law 1283 = .ok (.iload_n 3, 1) := decs_at tdL_law_1282 1 rfl
theorem dL_law_1284 : decode cL_law 1284 = .ok (.iconst 2, 1) := decs_at tdL_law_1282 2 rfl
theorem dL_law_1285 : decode cL_law 1285 = .ok (.iadd, 1) := decs_at tdL_law_1282 3 rfl
theorem dL_law_1286 : decode cL_law 1286 = .ok (.iaload, 1) := decs_at tdL_law_1282 4 rfl
theorem dL_law_1287 : decode cL_law 1287 = .ok (.aload_n 0, 1) := decs_at tdL_law_1282 5 rfl
theorem dL_law_1288 : decode cL_law 1288 = .ok (.iload_n 3, 1) := decs_at tdL_law_1282 6 rfl
theorem dL_law_1289 : decode cL_law 1289 = .ok (.iconst 3, 1) := decs_at tdL_law_1282 7 rfl
theorem dL_law_1290 : decode cL_law 1290 = .ok (.iadd, 1) := decs_at tdL_law_1282 8 rfl
theorem dL_law_1291 : decode cL_law 1291 = .ok (.iaload, 1) := decs_at tdL_law_1282 9 rfl
theorem dL_law_1292 : decode cL_law 1292 = .ok (.invokevirtual 131, 3) := decs_at tdL_law_1282 10 rfl
theorem dL_law_1295 : decode cL_law 1295 = .ok (.if_icmp .eq 771, 3) := decs_at tdL_law_1282 11 rfl
theorem dL_law_1298 : decode cL_law 1298 = .ok (.iconst 0, 1) := decs_at tdL_law_1282 12 rfl
theorem dL_law_1299 : decode cL_law 1299 = .ok (.ireturn, 1) := decs_at tdL_law_1282 13 rfl
theorem dL_law_1300 : decode cL_law 1300 = .ok (.aload_n 1, 1) := decs_at tdL_law_1282 14 rfl
theorem dL_law_1301 : decode cL_law 1301 = .ok (.aload_n 0, 1) := decs_at tdL_law_1282 15 rfl
theorem dL_law_1302 : decode cL_law 1302 = .ok (.iload_n 3, 1) := decs_at tdL_law_1282 16 rfl
theorem dL_law_1303 : decode cL_law 1303 = .ok (.iconst 1, 1) := decs_at tdL_law_1282 17 rfl
theorem dL_law_1304 : decode cL_law 1304 = .ok (.iadd, 1) := decs_at tdL_law_1282 18 rfl
theorem dL_law_1305 : decode cL_law 1305 = .ok (.iaload, 1) := decs_at tdL_law_1282 19 rfl
theorem dL_law_1306 : decode cL_law 1306 = .ok (.aload_n 0, 1) := decs_at tdL_law_1282 20 rfl
theorem dL_law_1307 : decode cL_law 1307 = .ok (.iload_n 3, 1) := decs_at tdL_law_1282 21 rfl
theorem dL_law_1308 : decode cL_law 1308 = .ok (.iconst 2, 1) := decs_at tdL_law_1282 22 rfl
theorem dL_law_1309 : decode cL_law 1309 = .ok (.iadd, 1) := decs_at tdL_law_1282 23 rfl
theorem dL_law_1310 : decode cL_law 1310 = .ok (.iaload, 1) := decs_at tdL_law_1282 24 rfl
theorem dL_law_1311 : decode cL_law 1311 = .ok (.aload_n 0, 1) := decs_at tdL_law_1282 25 rfl
theorem dL_law_1312 : decode cL_law 1312 = .ok (.iload_n 3, 1) := decs_at tdL_law_1282 26 rfl
theorem dL_law_1313 : decode cL_law 1313 = .ok (.iconst 3, 1) := decs_at tdL_law_1282 27 rfl
theorem dL_law_1314 : decode cL_law 1314 = .ok (.iadd, 1) := decs_at tdL_law_1282 28 rfl
theorem dL_law_1315 : decode cL_law 1315 = .ok (.iaload, 1) := decs_at tdL_law_1282 29 rfl
theorem dL_law_1316 : decode cL_law 1316 = .ok (.aload_n 0, 1) := decs_at tdL_law_1282 30 rfl
theorem dL_law_1317 : decode cL_law 1317 = .ok (.iload_n 3, 1) := decs_at tdL_law_1282 31 rfl
theorem dL_law_1318 : decode cL_law 1318 = .ok (.iconst 4, 1) := decs_at tdL_law_1282 32 rfl
theorem dL_law_1319 : decode cL_law 1319 = .ok (.iadd, 1) := decs_at tdL_law_1282 33 rfl
theorem dL_law_1320 : decode cL_law 1320 = .ok (.iaload, 1) := decs_at tdL_law_1282 34 rfl
theorem dL_law_1321 : decode cL_law 1321 = .ok (.invokevirtual 132, 3) := decs_at tdL_law_1282 35 rfl
theorem dL_law_1324 : decode cL_law 1324 = .ok (.aload_n 2, 1) := decs_at tdL_law_1282 36 rfl
theorem dL_law_1325 : decode cL_law 1325 = .ok (.aload_n 0, 1) := decs_at tdL_law_1282 37 rfl
theorem dL_law_1326 : decode cL_law 1326 = .ok (.iload_n 3, 1) := decs_at tdL_law_1282 38 rfl
theorem dL_law_1327 : decode cL_law 1327 = .ok (.iconst 1, 1) := decs_at tdL_law_1282 39 rfl
theorem tdL_law_1328 : decs cL_law [(1328, .iadd, 1), (1329, .iaload, 1), (1330, .aload_n 0, 1), (1331, .iload_n 3, 1), (1332, .iconst 2, 1), (1333, .iadd, 1), (1334, .iaload, 1), (1335, .aload_n 0, 1), (1336, .iload_n 3, 1), (1337, .iconst 3, 1), (1338, .iadd, 1), (1339, .iaload, 1), (1340, .aload_n 0, 1), (1341, .iload_n 3, 1), (1342, .iconst 4, 1), (1343, .iadd, 1), (1344, .iaload, 1), (1345, .invokevirtual 135, 3), (1348, .if_icmp .eq 718, 3), (1351, .iconst 0, 1), (1352, .ireturn, 1), (1353, .aload_n 1, 1), (1354, .aload_n 0, 1), (1355, .iload_n 3, 1), (1356, .iconst 1, 1), (1357, .iadd, 1), (1358, .iaload, 1), (1359, .aload_n 0, 1), (1360, .iload_n 3, 1), (1361, .iconst 2, 1), (1362, .iadd, 1), (1363, .iaload, 1), (1364, .aload_n 0, 1), (1365, .iload_n 3, 1), (1366, .iconst 3, 1), (1367, .iadd, 1), (1368, .iaload, 1), (1369, .aload_n 0, 1), (1370, .iload_n 3, 1), (1371, .iconst 4, 1)] = true := by decide +kernel
theorem dL_law_1328 : decode cL_law 1328 = .ok (.iadd, 1) := decs_at tdL_law_1328 0 rfl
theorem dL_law_1329 : decode cL_law 1329 = .ok (.iaload, 1) := decs_at tdL_law_1328 1 rfl
theorem dL_law_1330 : decode cL_law 1330 = .ok (.aload_n 0, 1) := decs_at tdL_law_1328 2 rfl
theorem dL_law_1331 : decode cL_law 1331 = .ok (.iload_n 3, 1) := decs_at tdL_law_1328 3 rfl
theorem dL_law_1332 : decode cL_law 1332 = .ok (.iconst 2, 1) := decs_at tdL_law_1328 4 rfl
theorem dL_law_1333 : decode cL_law 1333 = .ok (.iadd, 1) := decs_at tdL_law_1328 5 rfl
theorem dL_law_1334 : decode cL_law 1334 = .ok (.iaload, 1) := decs_at tdL_law_1328 6 rfl
theorem dL_law_1335 : decode cL_law 1335 = .ok (.aload_n 0, 1) := decs_at tdL_law_1328 7 rfl
theorem dL_law_1336 : decode cL_law 1336 = .ok (.iload_n 3, 1) := decs_at tdL_law_1328 8 rfl
theorem dL_law_1337 : decode cL_law 1337 = .ok (.iconst 3, 1) := decs_at tdL_law_1328 9 rfl
theorem dL_law_1338 : decode cL_law 1338 = .ok (.iadd, 1) := decs_at tdL_law_1328 10 rfl
theorem dL_law_1339 : decode cL_law 1339 = .ok (.iaload, 1) := decs_at tdL_law_1328 11 rfl
theorem dL_law_1340 : decode cL_law 1340 = .ok (.aload_n 0, 1) := decs_at tdL_law_1328 12 rfl
theorem dL_law_1341 : decode cL_law 1341 = .ok (.iload_n 3, 1) := decs_at tdL_law_1328 13 rfl
theorem dL_law_1342 : decode cL_law 1342 = .ok (.iconst 4, 1) := decs_at tdL_law_1328 14 rfl
theorem dL_law_1343 : decode cL_law 1343 = .ok (.iadd, 1) := decs_at tdL_law_1328 15 rfl
theorem dL_law_1344 : decode cL_law 1344 = .ok (.iaload, 1) := decs_at tdL_law_1328 16 rfl
theorem dL_law_1345 : decode cL_law 1345 = .ok (.invokevirtual 135, 3) := decs_at tdL_law_1328 17 rfl
theorem dL_law_1348 : decode cL_law 1348 = .ok (.if_icmp .eq 718, 3) := decs_at tdL_law_1328 18 rfl
theorem dL_law_1351 : decode cL_law 1351 = .ok (.iconst 0, 1) := decs_at tdL_law_1328 19 rfl
theorem dL_law_1352 : decode cL_law 1352 = .ok (.ireturn, 1) := decs_at tdL_law_1328 20 rfl
theorem dL_law_1353 : decode cL_law 1353 = .ok (.aload_n 1, 1) := decs_at tdL_law_1328 21 rfl
theorem dL_law_1354 : decode cL_law 1354 = .ok (.aload_n 0, 1) := decs_at tdL_law_1328 22 rfl
theorem dL_law_1355 : decode cL_law 1355 = .ok (.iload_n 3, 1) := decs_at tdL_law_1328 23 rfl
theorem dL_law_1356 : decode cL_law 1356 = .ok (.iconst 1, 1) := decs_at tdL_law_1328 24 rfl
theorem dL_law_1357 : decode cL_law 1357 = .ok (.iadd, 1) := decs_at tdL_law_1328 25 rfl
theorem dL_law_1358 : decode cL_law 1358 = .ok (.iaload, 1) := decs_at tdL_law_1328 26 rfl
theorem dL_law_1359 : decode cL_law 1359 = .ok (.aload_n 0, 1) := decs_at tdL_law_1328 27 rfl
theorem dL_law_1360 : decode cL_law 1360 = .ok (.iload_n 3, 1) := decs_at tdL_law_1328 28 rfl
theorem dL_law_1361 : decode cL_law 1361 = .ok (.iconst 2, 1) := decs_at tdL_law_1328 29 rfl
theorem dL_law_1362 : decode cL_law 1362 = .ok (.iadd, 1) := decs_at tdL_law_1328 30 rfl
theorem dL_law_1363 : decode cL_law 1363 = .ok (.iaload, 1) := decs_at tdL_law_1328 31 rfl
theorem dL_law_1364 : decode cL_law 1364 = .ok (.aload_n 0, 1) := decs_at tdL_law_1328 32 rfl
theorem dL_law_1365 : decode cL_law 1365 = .ok (.iload_n 3, 1) := decs_at tdL_law_1328 33 rfl
theorem dL_law_1366 : decode cL_law 1366 = .ok (.iconst 3, 1) := decs_at tdL_law_1328 34 rfl
theorem dL_law_1367 : decode cL_law 1367 = .ok (.iadd, 1) := decs_at tdL_law_1328 35 rfl
theorem dL_law_1368 : decode cL_law 1368 = .ok (.iaload, 1) := decs_at tdL_law_1328 36 rfl
theorem dL_law_1369 : decode cL_law 1369 = .ok (.aload_n 0, 1) := decs_at tdL_law_1328 37 rfl
theorem dL_law_1370 : decode cL_law 1370 = .ok (.iload_n 3, 1) := decs_at tdL_law_1328 38 rfl
theorem dL_law_1371 : decode cL_law 1371 = .ok (.iconst 4, 1) := decs_at tdL_law_1328 39 rfl
theorem tdL_law_1372 : decs cL_law [(1372, .iadd, 1), (1373, .iaload, 1), (1374, .invokevirtual 136, 3), (1377, .aload_n 2, 1), (1378, .aload_n 0, 1), (1379, .iload_n 3, 1), (1380, .iconst 1, 1), (1381, .iadd, 1), (1382, .iaload, 1), (1383, .aload_n 0, 1), (1384, .iload_n 3, 1), (1385, .iconst 2, 1), (1386, .iadd, 1), (1387, .iaload, 1), (1388, .aload_n 0, 1), (1389, .iload_n 3, 1), (1390, .iconst 3, 1), (1391, .iadd, 1), (1392, .iaload, 1), (1393, .aload_n 0, 1), (1394, .iload_n 3, 1), (1395, .iconst 4, 1), (1396, .iadd, 1), (1397, .iaload, 1), (1398, .invokevirtual 139, 3), (1401, .if_icmp .eq 665, 3), (1404, .iconst 0, 1), (1405, .ireturn, 1), (1406, .aload_n 1, 1), (1407, .aload_n 0, 1), (1408, .iload_n 3, 1), (1409, .iconst 1, 1), (1410, .iadd, 1), (1411, .iaload, 1), (1412, .aload_n 0, 1), (1413, .iload_n 3, 1), (1414, .iconst 2, 1), (1415, .iadd, 1), (1416, .iaload, 1), (1417, .aload_n 0, 1)] = true := by decide +kernel
theorem dL_law_1372 : decode cL_law 1372 = .ok (.iadd, 1) := decs_at tdL_law_1372 0 rfl
theorem dL_law_1373 : decode cL_law 1373 = .ok (.iaload, 1) := decs_at tdL_law_1372 1 rfl
theorem dL_law_1374 : decode cL_law 1374 = .ok (.invokevirtual 136, 3) := decs_at tdL_law_1372 2 rfl
theorem dL_law_1377 : decode cL_law 1377 = .ok (.aload_n 2, 1) := decs_at tdL_law_1372 3 rfl
theorem dL_law_1378 : decode cL_law 1378 = .ok (.aload_n 0, 1) := decs_at tdL_law_1372 4 rfl
theorem dL_law_1379 : decode cL_law 1379 = .ok (.iload_n 3, 1) := decs_at tdL_law_1372 5 rfl
theorem dL_law_1380 : decode cL_law 1380 = .ok (.iconst 1, 1) := decs_at tdL_law_1372 6 rfl
theorem dL_law_1381 : decode cL_law 1381 = .ok (.iadd, 1) := decs_at tdL_law_1372 7 rfl
theorem dL_law_1382 : decode cL_law 1382 = .ok (.iaload, 1) := decs_at tdL_law_1372 8 rfl
theorem dL_law_1383 : decode cL_law 1383 = .ok (.aload_n 0, 1) := decs_at tdL_law_1372 9 rfl
theorem dL_law_1384 : decode cL_law 1384 = .ok (.iload_n 3, 1) := decs_at tdL_law_1372 10 rfl
theorem dL_law_1385 : decode cL_law 1385 = .ok (.iconst 2, 1) := decs_at tdL_law_1372 11 rfl
theorem dL_law_1386 : decode cL_law 1386 = .ok (.iadd, 1) := decs_at tdL_law_1372 12 rfl
theorem dL_law_1387 : decode cL_law 1387 = .ok (.iaload, 1) := decs_at tdL_law_1372 13 rfl
theorem dL_law_1388 : decode cL_law 1388 = .ok (.aload_n 0, 1) := decs_at tdL_law_1372 14 rfl
theorem dL_law_1389 : decode cL_law 1389 = .ok (.iload_n 3, 1) := decs_at tdL_law_1372 15 rfl
theorem dL_law_1390 : decode cL_law 1390 = .ok (.iconst 3, 1) := decs_at tdL_law_1372 16 rfl
theorem dL_law_1391 : decode cL_law 1391 = .ok (.iadd, 1) := decs_at tdL_law_1372 17 rfl
theorem dL_law_1392 : decode cL_law 1392 = .ok (.iaload, 1) := decs_at tdL_law_1372 18 rfl
theorem dL_law_1393 : decode cL_law 1393 = .ok (.aload_n 0, 1) := decs_at tdL_law_1372 19 rfl
theorem dL_law_1394 : decode cL_law 1394 = .ok (.iload_n 3, 1) := decs_at tdL_law_1372 20 rfl
theorem dL_law_1395 : decode cL_law 1395 = .ok (.iconst 4, 1) := decs_at tdL_law_1372 21 rfl
theorem dL_law_1396 : decode cL_law 1396 = .ok (.iadd, 1) := decs_at tdL_law_1372 22 rfl
theorem dL_law_1397 : decode cL_law 1397 = .ok (.iaload, 1) := decs_at tdL_law_1372 23 rfl
theorem dL_law_1398 : decode cL_law 1398 = .ok (.invokevirtual 139, 3) := decs_at tdL_law_1372 24 rfl
theorem dL_law_1401 : decode cL_law 1401 = .ok (.if_icmp .eq 665, 3) := decs_at tdL_law_1372 25 rfl
theorem dL_law_1404 : decode cL_law 1404 = .ok (.iconst 0, 1) := decs_at tdL_law_1372 26 rfl
theorem dL_law_1405 : decode cL_law 1405 = .ok (.ireturn, 1) := decs_at tdL_law_1372 27 rfl
theorem dL_law_1406 : decode cL_law 1406 = .ok (.aload_n 1, 1) := decs_at tdL_law_1372 28 rfl
theorem dL_law_1407 : decode cL_law 1407 = .ok (.aload_n 0, 1) := decs_at tdL_law_1372 29 rfl
theorem dL_law_1408 : decode cL_law 1408 = .ok (.iload_n 3, 1) := decs_at tdL_law_1372 30 rfl
theorem dL_law_1409 : decode cL_law 1409 = .ok (.iconst 1, 1) := decs_at tdL_law_1372 31 rfl
theorem dL_law_1410 : decode cL_law 1410 = .ok (.iadd, 1) := decs_at tdL_law_1372 32 rfl
theorem dL_law_1411 : decode cL_law 1411 = .ok (.iaload, 1) := decs_at tdL_law_1372 33 rfl
theorem dL_law_1412 : decode cL_law 1412 = .ok (.aload_n 0, 1) := decs_at tdL_law_1372 34 rfl
theorem dL_law_1413 : decode cL_law 1413 = .ok (.iload_n 3, 1) := decs_at tdL_law_1372 35 rfl
theorem dL_law_1414 : decode cL_law 1414 = .ok (.iconst 2, 1) := decs_at tdL_law_1372 36 rfl
theorem dL_law_1415 : decode cL_law 1415 = .ok (.iadd, 1) := decs_at tdL_law_1372 37 rfl
theorem dL_law_1416 : decode cL_law 1416 = .ok (.iaload, 1) := decs_at tdL_law_1372 38 rfl
theorem dL_law_1417 : decode cL_law 1417 = .ok (.aload_n 0, 1) := decs_at tdL_law_1372 39 rfl
theorem tdL_law_1418 : decs cL_law [(1418, .iload_n 3, 1), (1419, .iconst 3, 1), (1420, .iadd, 1), (1421, .iaload, 1), (1422, .invokevirtual 140, 3), (1425, .aload_n 2, 1), (1426, .aload_n 0, 1), (1427, .iload_n 3, 1), (1428, .iconst 1, 1), (1429, .iadd, 1), (1430, .iaload, 1), (1431, .aload_n 0, 1), (1432, .iload_n 3, 1), (1433, .iconst 2, 1), (1434, .iadd, 1), (1435, .iaload, 1), (1436, .aload_n 0, 1), (1437, .iload_n 3, 1), (1438, .iconst 3, 1), (1439, .iadd, 1), (1440, .iaload, 1), (1441, .invokevirtual 143, 3), (1444, .if_icmp .eq 622, 3), (1447, .iconst 0, 1), (1448, .ireturn, 1), (1449, .aload_n 1, 1), (1450, .aload_n 0, 1), (1451, .iload_n 3, 1), (1452, .iconst 1, 1), (1453, .iadd, 1), (1454, .iaload, 1), (1455, .aload_n 0, 1), (1456, .iload_n 3, 1), (1457, .iconst 2, 1), (1458, .iadd, 1), (1459, .iaload, 1), (1460, .invokevirtual 144, 3), (1463, .aload_n 2, 1), (1464, .aload_n 0, 1), (1465, .iload_n 3, 1)] = true := by decide +kernel
theorem dL_law_1418 : decode cL_law 1418 = .ok (.iload_n 3, 1) := decs_at tdL_law_1418 0 rfl
theorem dL_law_1419 : decode cL_law 1419 = .ok (.iconst 3, 1) := decs_at tdL_law_1418 1 rfl
theorem dL_law_1420 : decode cL_law 1420 = .ok (.iadd, 1) := decs_at tdL_law_1418 2 rfl
theorem dL_law_1421 : decode cL_law 1421 = .ok (.iaload, 1) := decs_at tdL_law_1418 3 rfl
theorem dL_law_1422 : decode cL_law 1422 = .ok (.invokevirtual 140, 3) := decs_at tdL_law_1418 4 rfl
theorem dL_law_1425 : decode cL_law 1425 = .ok (.aload_n 2, 1) := decs_at tdL_law_1418 5 rfl
theorem dL_law_1426 : decode cL_law 1426 = .ok (.aload_n 0, 1) := decs_at tdL_law_1418 6 rfl
theorem dL_law_1427 : decode cL_law 1427 = .ok (.iload_n 3, 1) := decs_at tdL_law_1418 7 rfl
theorem dL_law_1428 : decode cL_law 1428 = .ok (.iconst 1, 1) := decs_at tdL_law_1418 8 rfl
theorem dL_law_1429 : decode cL_law 1429 = .ok (.iadd, 1) := decs_at tdL_law_1418 9 rfl
theorem dL_law_1430 : decode cL_law 1430 = .ok (.iaload, 1) := decs_at tdL_law_1418 10 rfl
theorem dL_law_1431 : decode cL_law 1431 = .ok (.aload_n 0, 1) := decs_at tdL_law_1418 11 rfl
theorem dL_law_1432 : decode cL_law 1432 = .ok (.iload_n 3, 1) := decs_at tdL_law_1418 12 rfl
theorem dL_law_1433 : decode cL_law 1433 = .ok (.iconst 2, 1) := decs_at tdL_law_1418 13 rfl
theorem dL_law_1434 : decode cL_law 1434 = .ok (.iadd, 1) := decs_at tdL_law_1418 14 rfl
theorem dL_law_1435 : decode cL_law 1435 = .ok (.iaload, 1) := decs_at tdL_law_1418 15 rfl
theorem dL_law_1436 : decode cL_law 1436 = .ok (.aload_n 0, 1) := decs_at tdL_law_1418 16 rfl
theorem dL_law_1437 : decode cL_law 1437 = .ok (.iload_n 3, 1) := decs_at tdL_law_1418 17 rfl
theorem dL_law_1438 : decode cL_law 1438 = .ok (.iconst 3, 1) := decs_at tdL_law_1418 18 rfl
theorem dL_law_1439 : decode cL_law 1439 = .ok (.iadd, 1) := decs_at tdL_law_1418 19 rfl
theorem dL_law_1440 : decode cL_law 1440 = .ok (.iaload, 1) := decs_at tdL_law_1418 20 rfl
theorem dL_law_1441 : decode cL_law 1441 = .ok (.invokevirtual 143, 3) := decs_at tdL_law_1418 21 rfl
theorem dL_law_1444 : decode cL_law 1444 = .ok (.if_icmp .eq 622, 3) := decs_at tdL_law_1418 22 rfl
theorem dL_law_1447 : decode cL_law 1447 = .ok (.iconst 0, 1) := decs_at tdL_law_1418 23 rfl
theorem dL_law_1448 : decode cL_law 1448 = .ok (.ireturn, 1) := decs_at tdL_law_1418 24 rfl
theorem dL_law_1449 : decode cL_law 1449 = .ok (.aload_n 1, 1) := decs_at tdL_law_1418 25 rfl
theorem dL_law_1450 : decode cL_law 1450 = .ok (.aload_n 0, 1) := decs_at tdL_law_1418 26 rfl
theorem dL_law_1451 : decode cL_law 1451 = .ok (.iload_n 3, 1) := decs_at tdL_law_1418 27 rfl
theorem dL_law_1452 : decode cL_law 1452 = .ok (.iconst 1, 1) := decs_at tdL_law_1418 28 rfl
theorem dL_law_1453 : decode cL_law 1453 = .ok (.iadd, 1) := decs_at tdL_law_1418 29 rfl
theorem dL_law_1454 : decode cL_law 1454 = .ok (.iaload, 1) := decs_at tdL_law_1418 30 rfl
theorem dL_law_1455 : decode cL_law 1455 = .ok (.aload_n 0, 1) := decs_at tdL_law_1418 31 rfl
theorem dL_law_1456 : decode cL_law 1456 = .ok (.iload_n 3, 1) := decs_at tdL_law_1418 32 rfl
theorem dL_law_1457 : decode cL_law 1457 = .ok (.iconst 2, 1) := decs_at tdL_law_1418 33 rfl
theorem dL_law_1458 : decode cL_law 1458 = .ok (.iadd, 1) := decs_at tdL_law_1418 34 rfl
theorem dL_law_1459 : decode cL_law 1459 = .ok (.iaload, 1) := decs_at tdL_law_1418 35 rfl
theorem dL_law_1460 : decode cL_law 1460 = .ok (.invokevirtual 144, 3) := decs_at tdL_law_1418 36 rfl
theorem dL_law_1463 : decode cL_law 1463 = .ok (.aload_n 2, 1) := decs_at tdL_law_1418 37 rfl
theorem dL_law_1464 : decode cL_law 1464 = .ok (.aload_n 0, 1) := decs_at tdL_law_1418 38 rfl
theorem dL_law_1465 : decode cL_law 1465 = .ok (.iload_n 3, 1) := decs_at tdL_law_1418 39 rfl
theorem tdL_law_1466 : decs cL_law [(1466, .iconst 1, 1), (1467, .iadd, 1), (1468, .iaload, 1), (1469, .aload_n 0, 1), (1470, .iload_n 3, 1), (1471, .iconst 2, 1), (1472, .iadd, 1), (1473, .iaload, 1), (1474, .invokevirtual 147, 3), (1477, .if_icmp .eq 589, 3), (1480, .iconst 0, 1), (1481, .ireturn, 1), (1482, .aload_n 1, 1), (1483, .aload_n 0, 1), (1484, .iload_n 3, 1), (1485, .iconst 1, 1), (1486, .iadd, 1), (1487, .iaload, 1), (1488, .aload_n 0, 1), (1489, .iload_n 3, 1), (1490, .iconst 2, 1), (1491, .iadd, 1), (1492, .iaload, 1), (1493, .aload_n 0, 1), (1494, .iload_n 3, 1), (1495, .iconst 3, 1), (1496, .iadd, 1), (1497, .iaload, 1), (1498, .invokevirtual 148, 3), (1501, .aload_n 2, 1), (1502, .aload_n 0, 1), (1503, .iload_n 3, 1), (1504, .iconst 1, 1), (1505, .iadd, 1), (1506, .iaload, 1), (1507, .aload_n 0, 1), (1508, .iload_n 3, 1), (1509, .iconst 2, 1), (1510, .iadd, 1), (1511, .iaload, 1)] = true := by decide +kernel
theorem dL_law_1466 : decode cL_law 1466 = .ok (.iconst 1, 1) := decs_at tdL_law_1466 0 rfl
theorem dL_law_1467 : decode cL_law 1467 = .ok (.iadd, 1) := decs_at tdL_law_1466 1 rfl
theorem dL_law_1468 : decode cL_law 1468 = .ok (.iaload, 1) := decs_at tdL_law_1466 2 rfl
theorem dL_law_1469 : decode cL_law 1469 = .ok (.aload_n 0, 1) := decs_at tdL_law_1466 3 rfl
theorem dL_law_1470 : decode cL_law 1470 = .ok (.iload_n 3, 1) := decs_at tdL_law_1466 4 rfl
theorem dL_law_1471 : decode cL_law 1471 = .ok (.iconst 2, 1) := decs_at tdL_law_1466 5 rfl
theorem dL_law_1472 : decode cL_law 1472 = .ok (.iadd, 1) := decs_at tdL_law_1466 6 rfl
theorem dL_law_1473 : decode cL_law 1473 = .ok (.iaload, 1) := decs_at tdL_law_1466 7 rfl
theorem dL_law_1474 : decode cL_law 1474 = .ok (.invokevirtual 147, 3) := decs_at tdL_law_1466 8 rfl
theorem dL_law_1477 : decode cL_law 1477 = .ok (.if_icmp .eq 589, 3) := decs_at tdL_law_1466 9 rfl
theorem dL_law_1480 : decode cL_law 1480 = .ok (.iconst 0, 1) := decs_at tdL_law_1466 10 rfl
theorem dL_law_1481 : decode cL_law 1481 = .ok (.ireturn, 1) := decs_at tdL_law_1466 11 rfl
theorem dL_law_1482 : decode cL_law 1482 = .ok (.aload_n 1, 1) := decs_at tdL_law_1466 12 rfl
theorem dL_law_1483 : decode cL_law 1483 = .ok (.aload_n 0, 1) := decs_at tdL_law_1466 13 rfl
theorem dL_law_1484 : decode cL_law 1484 = .ok (.iload_n 3, 1) := decs_at tdL_law_1466 14 rfl
theorem dL_law_1485 : decode cL_law 1485 = .ok (.iconst 1, 1) := decs_at tdL_law_1466 15 rfl
theorem dL_law_1486 : decode cL_law 1486 = .ok (.iadd, 1) := decs_at tdL_law_1466 16 rfl
theorem dL_law_1487 : decode cL_law 1487 = .ok (.iaload, 1) := decs_at tdL_law_1466 17 rfl
theorem dL_law_1488 : decode cL_law 1488 = .ok (.aload_n 0, 1) := decs_at tdL_law_1466 18 rfl
theorem dL_law_1489 : decode cL_law 1489 = .ok (.iload_n 3, 1) := decs_at tdL_law_1466 19 rfl
theorem dL_law_1490 : decode cL_law 1490 = .ok (.iconst 2, 1) := decs_at tdL_law_1466 20 rfl
theorem dL_law_1491 : decode cL_law 1491 = .ok (.iadd, 1) := decs_at tdL_law_1466 21 rfl
theorem dL_law_1492 : decode cL_law 1492 = .ok (.iaload, 1) := decs_at tdL_law_1466 22 rfl
theorem dL_law_1493 : decode cL_law 1493 = .ok (.aload_n 0, 1) := decs_at tdL_law_1466 23 rfl
theorem dL_law_1494 : decode cL_law 1494 = .ok (.iload_n 3, 1) := decs_at tdL_law_1466 24 rfl
theorem dL_law_1495 : decode cL_law 1495 = .ok (.iconst 3, 1) := decs_at tdL_law_1466 25 rfl
theorem dL_law_1496 : decode cL_law 1496 = .ok (.iadd, 1) := decs_at tdL_law_1466 26 rfl
theorem dL_law_1497 : decode cL_law 1497 = .ok (.iaload, 1) := decs_at tdL_law_1466 27 rfl
theorem dL_law_1498 : decode cL_law 1498 = .ok (.invokevirtual 148, 3) := decs_at tdL_law_1466 28 rfl
theorem dL_law_1501 : decode cL_law 1501 = .ok (.aload_n 2, 1) := decs_at tdL_law_1466 29 rfl
theorem dL_law_1502 : decode cL_law 1502 = .ok (.aload_n 0, 1) := decs_at tdL_law_1466 30 rfl
theorem dL_law_1503 : decode cL_law 1503 = .ok (.iload_n 3, 1) := decs_at tdL_law_1466 31 rfl
theorem dL_law_1504 : decode cL_law 1504 = .ok (.iconst 1, 1) := decs_at tdL_law_1466 32 rfl
theorem dL_law_1505 : decode cL_law 1505 = .ok (.iadd, 1) := decs_at tdL_law_1466 33 rfl
theorem dL_law_1506 : decode cL_law 1506 = .ok (.iaload, 1) := decs_at tdL_law_1466 34 rfl
theorem dL_law_1507 : decode cL_law 1507 = .ok (.aload_n 0, 1) := decs_at tdL_law_1466 35 rfl
theorem dL_law_1508 : decode cL_law 1508 = .ok (.iload_n 3, 1) := decs_at tdL_law_1466 36 rfl
theorem dL_law_1509 : decode cL_law 1509 = .ok (.iconst 2, 1) := decs_at tdL_law_1466 37 rfl
theorem dL_law_1510 : decode cL_law 1510 = .ok (.iadd, 1) := decs_at tdL_law_1466 38 rfl
theorem dL_law_1511 : decode cL_law 1511 = .ok (.iaload, 1) := decs_at tdL_law_1466 39 rfl
theorem tdL_law_1512 : decs cL_law [(1512, .aload_n 0, 1), (1513, .iload_n 3, 1), (1514, .iconst 3, 1), (1515, .iadd, 1), (1516, .iaload, 1), (1517, .invokevirtual 151, 3), (1520, .if_icmp .eq 546, 3), (1523, .iconst 0, 1), (1524, .ireturn, 1), (1525, .aload_n 1, 1), (1526, .aload_n 0, 1), (1527, .iload_n 3, 1), (1528, .iconst 1, 1), (1529, .iadd, 1), (1530, .iaload, 1), (1531, .aload_n 0, 1), (1532, .iload_n 3, 1), (1533, .iconst 2, 1), (1534, .iadd, 1), (1535, .iaload, 1), (1536, .invokevirtual 152, 3), (1539, .aload_n 2, 1), (1540, .aload_n 0, 1), (1541, .iload_n 3, 1), (1542, .iconst 1, 1), (1543, .iadd, 1), (1544, .iaload, 1), (1545, .aload_n 0, 1), (1546, .iload_n 3, 1), (1547, .iconst 2, 1), (1548, .iadd, 1), (1549, .iaload, 1), (1550, .invokevirtual 155, 3), (1553, .if_icmp .eq 513, 3), (1556, .iconst 0, 1), (1557, .ireturn, 1), (1558, .aload_n 1, 1), (1559, .aload_n 0, 1), (1560, .iload_n 3, 1), (1561, .iconst 1, 1)] = true := by decide +kernel
theorem dL_law_1512 : decode cL_law 1512 = .ok (.aload_n 0, 1) := decs_at tdL_law_1512 0 rfl
theorem dL_law_1513 : decode cL_law 1513 = .ok (.iload_n 3, 1) := decs_at tdL_law_1512 1 rfl
theorem dL_law_1514 : decode cL_law 1514 = .ok (.iconst 3, 1) := decs_at tdL_law_1512 2 rfl
theorem dL_law_1515 : decode cL_law 1515 = .ok (.iadd, 1) := decs_at tdL_law_1512 3 rfl
theorem dL_law_1516 : decode cL_law 1516 = .ok (.iaload, 1) := decs_at tdL_law_1512 4 rfl
theorem dL_law_1517 : decode cL_law 1517 = .ok (.invokevirtual 151, 3) := decs_at tdL_law_1512 5 rfl
theorem dL_law_1520 : decode cL_law 1520 = .ok (.if_icmp .eq 546, 3) := decs_at tdL_law_1512 6 rfl
theorem dL_law_1523 : decode cL_law 1523 = .ok (.iconst 0, 1) := decs_at tdL_law_1512 7 rfl
theorem dL_law_1524 : decode cL_law 1524 = .ok (.ireturn, 1) := decs_at tdL_law_1512 8 rfl
theorem dL_law_1525 : decode cL_law 1525 = .ok (.aload_n 1, 1) := decs_at tdL_law_1512 9 rfl
theorem dL_law_1526 : decode cL_law 1526 = .ok (.aload_n 0, 1) := decs_at tdL_law_1512 10 rfl
theorem dL_law_1527 : decode cL_law 1527 = .ok (.iload_n 3, 1) := decs_at tdL_law_1512 11 rfl
theorem dL_law_1528 : decode cL_law 1528 = .ok (.iconst 1, 1) := decs_at tdL_law_1512 12 rfl
theorem dL_law_1529 : decode cL_law 1529 = .ok (.iadd, 1) := decs_at tdL_law_1512 13 rfl
theorem dL_law_1530 : decode cL_law 1530 = .ok (.iaload, 1) := decs_at tdL_law_1512 14 rfl
theorem dL_law_1531 : decode cL_law 1531 = .ok (.aload_n 0, 1) := decs_at tdL_law_1512 15 rfl
theorem dL_law_1532 : decode cL_law 1532 = .ok (.iload_n 3, 1) := decs_at tdL_law_1512 16 rfl
theorem dL_law_1533 : decode cL_law 1533 = .ok (.iconst 2, 1) := decs_at tdL_law_1512 17 rfl
theorem dL_law_1534 : decode cL_law 1534 = .ok (.iadd, 1) := decs_at tdL_law_1512 18 rfl
theorem dL_law_1535 : decode cL_law 1535 = .ok (.iaload, 1) := decs_at tdL_law_1512 19 rfl
theorem dL_law_1536 : decode cL_law 1536 = .ok (.invokevirtual 152, 3) := decs_at tdL_law_1512 20 rfl
theorem dL_law_1539 : decode cL_law 1539 = .ok (.aload_n 2, 1) := decs_at tdL_law_1512 21 rfl
theorem dL_law_1540 : decode cL_law 1540 = .ok (.aload_n 0, 1) := decs_at tdL_law_1512 22 rfl
theorem dL_law_1541 : decode cL_law 1541 = .ok (.iload_n 3, 1) := decs_at tdL_law_1512 23 rfl
theorem dL_law_1542 : decode cL_law 1542 = .ok (.iconst 1, 1) := decs_at tdL_law_1512 24 rfl
theorem dL_law_1543 : decode cL_law 1543 = .ok (.iadd, 1) := decs_at tdL_law_1512 25 rfl
theorem dL_law_1544 : decode cL_law 1544 = .ok (.iaload, 1) := decs_at tdL_law_1512 26 rfl
theorem dL_law_1545 : decode cL_law 1545 = .ok (.aload_n 0, 1) := decs_at tdL_law_1512 27 rfl
theorem dL_law_1546 : decode cL_law 1546 = .ok (.iload_n 3, 1) := decs_at tdL_law_1512 28 rfl
theorem dL_law_1547 : decode cL_law 1547 = .ok (.iconst 2, 1) := decs_at tdL_law_1512 29 rfl
theorem dL_law_1548 : decode cL_law 1548 = .ok (.iadd, 1) := decs_at tdL_law_1512 30 rfl
theorem dL_law_1549 : decode cL_law 1549 = .ok (.iaload, 1) := decs_at tdL_law_1512 31 rfl
theorem dL_law_1550 : decode cL_law 1550 = .ok (.invokevirtual 155, 3) := decs_at tdL_law_1512 32 rfl
theorem dL_law_1553 : decode cL_law 1553 = .ok (.if_icmp .eq 513, 3) := decs_at tdL_law_1512 33 rfl
theorem dL_law_1556 : decode cL_law 1556 = .ok (.iconst 0, 1) := decs_at tdL_law_1512 34 rfl
theorem dL_law_1557 : decode cL_law 1557 = .ok (.ireturn, 1) := decs_at tdL_law_1512 35 rfl
theorem dL_law_1558 : decode cL_law 1558 = .ok (.aload_n 1, 1) := decs_at tdL_law_1512 36 rfl
theorem dL_law_1559 : decode cL_law 1559 = .ok (.aload_n 0, 1) := decs_at tdL_law_1512 37 rfl
theorem dL_law_1560 : decode cL_law 1560 = .ok (.iload_n 3, 1) := decs_at tdL_law_1512 38 rfl
theorem dL_law_1561 : decode cL_law 1561 = .ok (.iconst 1, 1) := decs_at tdL_law_1512 39 rfl
theorem tdL_law_1562 : decs cL_law [(1562, .iadd, 1), (1563, .iaload, 1), (1564, .aload_n 0, 1), (1565, .iload_n 3, 1), (1566, .iconst 2, 1), (1567, .iadd, 1), (1568, .iaload, 1), (1569, .invokevirtual 156, 3), (1572, .aload_n 2, 1), (1573, .aload_n 0, 1), (1574, .iload_n 3, 1), (1575, .iconst 1, 1), (1576, .iadd, 1), (1577, .iaload, 1), (1578, .aload_n 0, 1), (1579, .iload_n 3, 1), (1580, .iconst 2, 1), (1581, .iadd, 1), (1582, .iaload, 1), (1583, .invokevirtual 159, 3), (1586, .if_icmp .eq 480, 3), (1589, .iconst 0, 1), (1590, .ireturn, 1), (1591, .aload_n 1, 1), (1592, .aload_n 0, 1), (1593, .iload_n 3, 1), (1594, .iconst 1, 1), (1595, .iadd, 1), (1596, .iaload, 1), (1597, .aload_n 0, 1), (1598, .iload_n 3, 1), (1599, .iconst 2, 1), (1600, .iadd, 1), (1601, .iaload, 1), (1602, .invokevirtual 160, 3), (1605, .aload_n 2, 1), (1606, .aload_n 0, 1), (1607, .iload_n 3, 1), (1608, .iconst 1, 1), (1609, .iadd, 1)] = true := by decide +kernel
theorem dL_law_1562 : decode cL_law 1562 = .ok (.iadd, 1) := decs_at tdL_law_1562 0 rfl
theorem dL_law_1563 : decode cL_law 1563 = .ok (.iaload, 1) := decs_at tdL_law_1562 1 rfl
theorem dL_law_1564 : decode cL_law 1564 = .ok (.aload_n 0, 1) := decs_at tdL_law_1562 2 rfl
theorem dL_law_1565 : decode cL_law 1565 = .ok (.iload_n 3, 1) := decs_at tdL_law_1562 3 rfl
theorem dL_law_1566 : decode cL_law 1566 = .ok (.iconst 2, 1) := decs_at tdL_law_1562 4 rfl
theorem dL_law_1567 : decode cL_law 1567 = .ok (.iadd, 1) := decs_at tdL_law_1562 5 rfl
theorem dL_law_1568 : decode cL_law 1568 = .ok (.iaload, 1) := decs_at tdL_law_1562 6 rfl
theorem dL_law_1569 : decode cL_law 1569 = .ok (.invokevirtual 156, 3) := decs_at tdL_law_1562 7 rfl
theorem dL_law_1572 : decode cL_law 1572 = .ok (.aload_n 2, 1) := decs_at tdL_law_1562 8 rfl
theorem dL_law_1573 : decode cL_law 1573 = .ok (.aload_n 0, 1) := decs_at tdL_law_1562 9 rfl
theorem dL_law_1574 : decode cL_law 1574 = .ok (.iload_n 3, 1) := decs_at tdL_law_1562 10 rfl
theorem dL_law_1575 : decode cL_law 1575 = .ok (.iconst 1, 1) := decs_at tdL_law_1562 11 rfl
theorem dL_law_1576 : decode cL_law 1576 = .ok (.iadd, 1) := decs_at tdL_law_1562 12 rfl
theorem dL_law_1577 : decode cL_law 1577 = .ok (.iaload, 1) := decs_at tdL_law_1562 13 rfl
theorem dL_law_1578 : decode cL_law 1578 = .ok (.aload_n 0, 1) := decs_at tdL_law_1562 14 rfl
theorem dL_law_1579 : decode cL_law 1579 = .ok (.iload_n 3, 1) := decs_at tdL_law_1562 15 rfl
theorem dL_law_1580 : decode cL_law 1580 = .ok (.iconst 2, 1) := decs_at tdL_law_1562 16 rfl
theorem dL_law_1581 : decode cL_law 1581 = .ok (.iadd, 1) := decs_at tdL_law_1562 17 rfl
theorem dL_law_1582 : decode cL_law 1582 = .ok (.iaload, 1) := decs_at tdL_law_1562 18 rfl
theorem dL_law_1583 : decode cL_law 1583 = .ok (.invokevirtual 159, 3) := decs_at tdL_law_1562 19 rfl
theorem dL_law_1586 : decode cL_law 1586 = .ok (.if_icmp .eq 480, 3) := decs_at tdL_law_1562 20 rfl
theorem dL_law_1589 : decode cL_law 1589 = .ok (.iconst 0, 1) := decs_at tdL_law_1562 21 rfl
theorem dL_law_1590 : decode cL_law 1590 = .ok (.ireturn, 1) := decs_at tdL_law_1562 22 rfl
theorem dL_law_1591 : decode cL_law 1591 = .ok (.aload_n 1, 1) := decs_at tdL_law_1562 23 rfl
theorem dL_law_1592 : decode cL_law 1592 = .ok (.aload_n 0, 1) := decs_at tdL_law_1562 24 rfl
theorem dL_law_1593 : decode cL_law 1593 = .ok (.iload_n 3, 1) := decs_at tdL_law_1562 25 rfl
theorem dL_law_1594 : decode cL_law 1594 = .ok (.iconst 1, 1) := decs_at tdL_law_1562 26 rfl
theorem dL_law_1595 : decode cL_law 1595 = .ok (.iadd, 1) := decs_at tdL_law_1562 27 rfl
theorem dL_law_1596 : decode cL_law 1596 = .ok (.iaload, 1) := decs_at tdL_law_1562 28 rfl
theorem dL_law_1597 : decode cL_law 1597 = .ok (.aload_n 0, 1) := decs_at tdL_law_1562 29 rfl
theorem dL_law_1598 : decode cL_law 1598 = .ok (.iload_n 3, 1) := decs_at tdL_law_1562 30 rfl
theorem dL_law_1599 : decode cL_law 1599 = .ok (.iconst 2, 1) := decs_at tdL_law_1562 31 rfl
theorem dL_law_1600 : decode cL_law 1600 = .ok (.iadd, 1) := decs_at tdL_law_1562 32 rfl
theorem dL_law_1601 : decode cL_law 1601 = .ok (.iaload, 1) := decs_at tdL_law_1562 33 rfl
theorem dL_law_1602 : decode cL_law 1602 = .ok (.invokevirtual 160, 3) := decs_at tdL_law_1562 34 rfl
theorem dL_law_1605 : decode cL_law 1605 = .ok (.aload_n 2, 1) := decs_at tdL_law_1562 35 rfl
theorem dL_law_1606 : decode cL_law 1606 = .ok (.aload_n 0, 1) := decs_at tdL_law_1562 36 rfl
theorem dL_law_1607 : decode cL_law 1607 = .ok (.iload_n 3, 1) := decs_at tdL_law_1562 37 rfl
theorem dL_law_1608 : decode cL_law 1608 = .ok (.iconst 1, 1) := decs_at tdL_law_1562 38 rfl
theorem dL_law_1609 : decode cL_law 1609 = .ok (.iadd, 1) := decs_at tdL_law_1562 39 rfl
theorem tdL_law_1610 : decs cL_law [(1610, .iaload, 1), (1611, .aload_n 0, 1), (1612, .iload_n 3, 1), (1613, .iconst 2, 1), (1614, .iadd, 1), (1615, .iaload, 1), (1616, .invokevirtual 163, 3), (1619, .if_icmp .eq 447, 3), (1622, .iconst 0, 1), (1623, .ireturn, 1), (1624, .aload_n 1, 1), (1625, .invokevirtual 164, 3), (1628, .aload_n 2, 1), (1629, .invokevirtual 167, 3), (1632, .if_icmp .eq 434, 3), (1635, .iconst 0, 1), (1636, .ireturn, 1), (1637, .aload_n 1, 1), (1638, .aload_n 0, 1), (1639, .iload_n 3, 1), (1640, .iconst 1, 1), (1641, .iadd, 1), (1642, .iaload, 1), (1643, .invokevirtual 168, 3), (1646, .aload_n 2, 1), (1647, .aload_n 0, 1), (1648, .iload_n 3, 1), (1649, .iconst 1, 1), (1650, .iadd, 1), (1651, .iaload, 1), (1652, .invokevirtual 171, 3), (1655, .if_icmp .eq 411, 3), (1658, .iconst 0, 1), (1659, .ireturn, 1), (1660, .aload_n 1, 1), (1661, .aload_n 0, 1), (1662, .iload_n 3, 1), (1663, .iconst 1, 1), (1664, .iadd, 1), (1665, .iaload, 1)] = true := by decide +kernel
theorem dL_law_1610 : decode cL_law 1610 = .ok (.iaload, 1) := decs_at tdL_law_1610 0 rfl
theorem dL_law_1611 : decode cL_law 1611 = .ok (.aload_n 0, 1) := decs_at tdL_law_1610 1 rfl
theorem dL_law_1612 : decode cL_law 1612 = .ok (.iload_n 3, 1) := decs_at tdL_law_1610 2 rfl
theorem dL_law_1613 : decode cL_law 1613 = .ok (.iconst 2, 1) := decs_at tdL_law_1610 3 rfl
theorem dL_law_1614 : decode cL_law 1614 = .ok (.iadd, 1) := decs_at tdL_law_1610 4 rfl
theorem dL_law_1615 : decode cL_law 1615 = .ok (.iaload, 1) := decs_at tdL_law_1610 5 rfl
theorem dL_law_1616 : decode cL_law 1616 = .ok (.invokevirtual 163, 3) := decs_at tdL_law_1610 6 rfl
theorem dL_law_1619 : decode cL_law 1619 = .ok (.if_icmp .eq 447, 3) := decs_at tdL_law_1610 7 rfl
theorem dL_law_1622 : decode cL_law 1622 = .ok (.iconst 0, 1) := decs_at tdL_law_1610 8 rfl
theorem dL_law_1623 : decode cL_law 1623 = .ok (.ireturn, 1) := decs_at tdL_law_1610 9 rfl
theorem dL_law_1624 : decode cL_law 1624 = .ok (.aload_n 1, 1) := decs_at tdL_law_1610 10 rfl
theorem dL_law_1625 : decode cL_law 1625 = .ok (.invokevirtual 164, 3) := decs_at tdL_law_1610 11 rfl
theorem dL_law_1628 : decode cL_law 1628 = .ok (.aload_n 2, 1) := decs_at tdL_law_1610 12 rfl
theorem dL_law_1629 : decode cL_law 1629 = .ok (.invokevirtual 167, 3) := decs_at tdL_law_1610 13 rfl
theorem dL_law_1632 : decode cL_law 1632 = .ok (.if_icmp .eq 434, 3) := decs_at tdL_law_1610 14 rfl
theorem dL_law_1635 : decode cL_law 1635 = .ok (.iconst 0, 1) := decs_at tdL_law_1610 15 rfl
theorem dL_law_1636 : decode cL_law 1636 = .ok (.ireturn, 1) := decs_at tdL_law_1610 16 rfl
theorem dL_law_1637 : decode cL_law 1637 = .ok (.aload_n 1, 1) := decs_at tdL_law_1610 17 rfl
theorem dL_law_1638 : decode cL_law 1638 = .ok (.aload_n 0, 1) := decs_at tdL_law_1610 18 rfl
theorem dL_law_1639 : decode cL_law 1639 = .ok (.iload_n 3, 1) := decs_at tdL_law_1610 19 rfl
theorem dL_law_1640 : decode cL_law 1640 = .ok (.iconst 1, 1) := decs_at tdL_law_1610 20 rfl
theorem dL_law_1641 : decode cL_law 1641 = .ok (.iadd, 1) := decs_at tdL_law_1610 21 rfl
theorem dL_law_1642 : decode cL_law 1642 = .ok (.iaload, 1) := decs_at tdL_law_1610 22 rfl
theorem dL_law_1643 : decode cL_law 1643 = .ok (.invokevirtual 168, 3) := decs_at tdL_law_1610 23 rfl
theorem dL_law_1646 : decode cL_law 1646 = .ok (.aload_n 2, 1) := decs_at tdL_law_1610 24 rfl
theorem dL_law_1647 : decode cL_law 1647 = .ok (.aload_n 0, 1) := decs_at tdL_law_1610 25 rfl
theorem dL_law_1648 : decode cL_law 1648 = .ok (.iload_n 3, 1) := decs_at tdL_law_1610 26 rfl
theorem dL_law_1649 : decode cL_law 1649 = .ok (.iconst 1, 1) := decs_at tdL_law_1610 27 rfl
theorem dL_law_1650 : decode cL_law 1650 = .ok (.iadd, 1) := decs_at tdL_law_1610 28 rfl
theorem dL_law_1651 : decode cL_law 1651 = .ok (.iaload, 1) := decs_at tdL_law_1610 29 rfl
theorem dL_law_1652 : decode cL_law 1652 = .ok (.invokevirtual 171, 3) := decs_at tdL_law_1610 30 rfl
theorem dL_law_1655 : decode cL_law 1655 = .ok (.if_icmp .eq 411, 3) := decs_at tdL_law_1610 31 rfl
theorem dL_law_1658 : decode cL_law 1658 = .ok (.iconst 0, 1) := decs_at tdL_law_1610 32 rfl
theorem dL_law_1659 : decode cL_law 1659 = .ok (.ireturn, 1) := decs_at tdL_law_1610 33 rfl
theorem dL_law_1660 : decode cL_law 1660 = .ok (.aload_n 1, 1) := decs_at tdL_law_1610 34 rfl
theorem dL_law_1661 : decode cL_law 1661 = .ok (.aload_n 0, 1) := decs_at tdL_law_1610 35 rfl
theorem dL_law_1662 : decode cL_law 1662 = .ok (.iload_n 3, 1) := decs_at tdL_law_1610 36 rfl
theorem dL_law_1663 : decode cL_law 1663 = .ok (.iconst 1, 1) := decs_at tdL_law_1610 37 rfl
theorem dL_law_1664 : decode cL_law 1664 = .ok (.iadd, 1) := decs_at tdL_law_1610 38 rfl
theorem dL_law_1665 : decode cL_law 1665 = .ok (.iaload, 1) := decs_at tdL_law_1610 39 rfl
theorem tdL_law_1666 : decs cL_law [(1666, .invokevirtual 172, 3), (1669, .aload_n 2, 1), (1670, .aload_n 0, 1), (1671, .iload_n 3, 1), (1672, .iconst 1, 1), (1673, .iadd, 1), (1674, .iaload, 1), (1675, .invokevirtual 175, 3), (1678, .if_icmp .eq 388, 3), (1681, .iconst 0, 1), (1682, .ireturn, 1), (1683, .aload_n 1, 1), (1684, .invokevirtual 176, 3), (1687, .aload_n 2, 1), (1688, .invokevirtual 179, 3), (1691, .if_icmp .eq 375, 3), (1694, .iconst 0, 1), (1695, .ireturn, 1), (1696, .aload_n 1, 1), (1697, .invokevirtual 180, 3), (1700, .aload_n 2, 1), (1701, .invokevirtual 183, 3), (1704, .if_icmp .eq 362, 3), (1707, .iconst 0, 1), (1708, .ireturn, 1), (1709, .aload_n 1, 1), (1710, .invokevirtual 184, 3), (1713, .aload_n 2, 1), (1714, .invokevirtual 187, 3), (1717, .if_icmp .eq 349, 3), (1720, .iconst 0, 1), (1721, .ireturn, 1), (1722, .aload_n 1, 1), (1723, .aload_n 0, 1), (1724, .iload_n 3, 1), (1725, .iconst 1, 1), (1726, .iadd, 1), (1727, .iaload, 1), (1728, .invokevirtual 188, 3), (1731, .aload_n 2, 1)] = true := by decide +kernel
theorem dL_law_1666 : decode cL_law 1666 = .ok (.invokevirtual 172, 3) := decs_at tdL_law_1666 0 rfl
theorem dL_law_1669 : decode cL_law 1669 = .ok (.aload_n 2, 1) := decs_at tdL_law_1666 1 rfl
theorem dL_law_1670 : decode cL_law 1670 = .ok (.aload_n 0, 1) := decs_at tdL_law_1666 2 rfl
theorem dL_law_1671 : decode cL_law 1671 = .ok (.iload_n 3, 1) := decs_at tdL_law_1666 3 rfl
theorem dL_law_1672 : decode cL_law 1672 = .ok (.iconst 1, 1) := decs_at tdL_law_1666 4 rfl
theorem dL_law_1673 : decode cL_law 1673 = .ok (.iadd, 1) := decs_at tdL_law_1666 5 rfl
theorem dL_law_1674 : decode cL_law 1674 = .ok (.iaload, 1) := decs_at tdL_law_1666 6 rfl
theorem dL_law_1675 : decode cL_law 1675 = .ok (.invokevirtual 175, 3) := decs_at tdL_law_1666 7 rfl
theorem dL_law_1678 : decode cL_law 1678 = .ok (.if_icmp .eq 388, 3) := decs_at tdL_law_1666 8 rfl
theorem dL_law_1681 : decode cL_law 1681 = .ok (.iconst 0, 1) := decs_at tdL_law_1666 9 rfl
theorem dL_law_1682 : decode cL_law 1682 = .ok (.ireturn, 1) := decs_at tdL_law_1666 10 rfl
theorem dL_law_1683 : decode cL_law 1683 = .ok (.aload_n 1, 1) := decs_at tdL_law_1666 11 rfl
theorem dL_law_1684 : decode cL_law 1684 = .ok (.invokevirtual 176, 3) := decs_at tdL_law_1666 12 rfl
theorem dL_law_1687 : decode cL_law 1687 = .ok (.aload_n 2, 1) := decs_at tdL_law_1666 13 rfl
theorem dL_law_1688 : decode cL_law 1688 = .ok (.invokevirtual 179, 3) := decs_at tdL_law_1666 14 rfl
theorem dL_law_1691 : decode cL_law 1691 = .ok (.if_icmp .eq 375, 3) := decs_at tdL_law_1666 15 rfl
theorem dL_law_1694 : decode cL_law 1694 = .ok (.iconst 0, 1) := decs_at tdL_law_1666 16 rfl
theorem dL_law_1695 : decode cL_law 1695 = .ok (.ireturn, 1) := decs_at tdL_law_1666 17 rfl
theorem dL_law_1696 : decode cL_law 1696 = .ok (.aload_n 1, 1) := decs_at tdL_law_1666 18 rfl
theorem dL_law_1697 : decode cL_law 1697 = .ok (.invokevirtual 180, 3) := decs_at tdL_law_1666 19 rfl
theorem dL_law_1700 : decode cL_law 1700 = .ok (.aload_n 2, 1) := decs_at tdL_law_1666 20 rfl
theorem dL_law_1701 : decode cL_law 1701 = .ok (.invokevirtual 183, 3) := decs_at tdL_law_1666 21 rfl
theorem dL_law_1704 : decode cL_law 1704 = .ok (.if_icmp .eq 362, 3) := decs_at tdL_law_1666 22 rfl
theorem dL_law_1707 : decode cL_law 1707 = .ok (.iconst 0, 1) := decs_at tdL_law_1666 23 rfl
theorem dL_law_1708 : decode cL_law 1708 = .ok (.ireturn, 1) := decs_at tdL_law_1666 24 rfl
theorem dL_law_1709 : decode cL_law 1709 = .ok (.aload_n 1, 1) := decs_at tdL_law_1666 25 rfl
theorem dL_law_1710 : decode cL_law 1710 = .ok (.invokevirtual 184, 3) := decs_at tdL_law_1666 26 rfl
theorem dL_law_1713 : decode cL_law 1713 = .ok (.aload_n 2, 1) := decs_at tdL_law_1666 27 rfl
theorem dL_law_1714 : decode cL_law 1714 = .ok (.invokevirtual 187, 3) := decs_at tdL_law_1666 28 rfl
theorem dL_law_1717 : decode cL_law 1717 = .ok (.if_icmp .eq 349, 3) := decs_at tdL_law_1666 29 rfl
theorem dL_law_1720 : decode cL_law 1720 = .ok (.iconst 0, 1) := decs_at tdL_law_1666 30 rfl
theorem dL_law_1721 : decode cL_law 1721 = .ok (.ireturn, 1) := decs_at tdL_law_1666 31 rfl
theorem dL_law_1722 : decode cL_law 1722 = .ok (.aload_n 1, 1) := decs_at tdL_law_1666 32 rfl
theorem dL_law_1723 : decode cL_law 1723 = .ok (.aload_n 0, 1) := decs_at tdL_law_1666 33 rfl
theorem dL_law_1724 : decode cL_law 1724 = .ok (.iload_n 3, 1) := decs_at tdL_law_1666 34 rfl
theorem dL_law_1725 : decode cL_law 1725 = .ok (.iconst 1, 1) := decs_at tdL_law_1666 35 rfl
theorem dL_law_1726 : decode cL_law 1726 = .ok (.iadd, 1) := decs_at tdL_law_1666 36 rfl
theorem dL_law_1727 : decode cL_law 1727 = .ok (.iaload, 1) := decs_at tdL_law_1666 37 rfl
theorem dL_law_1728 : decode cL_law 1728 = .ok (.invokevirtual 188, 3) := decs_at tdL_law_1666 38 rfl
theorem dL_law_1731 : decode cL_law 1731 = .ok (.aload_n 2, 1) := decs_at tdL_law_1666 39 rfl
theorem tdL_law_1732 : decs cL_law [(1732, .aload_n 0, 1), (1733, .iload_n 3, 1), (1734, .iconst 1, 1), (1735, .iadd, 1), (1736, .iaload, 1), (1737, .invokevirtual 191, 3), (1740, .if_icmp .eq 326, 3), (1743, .iconst 0, 1), (1744, .ireturn, 1), (1745, .aload_n 1, 1), (1746, .aload_n 0, 1), (1747, .iload_n 3, 1), (1748, .iconst 1, 1), (1749, .iadd, 1), (1750, .iaload, 1), (1751, .aload_n 0, 1), (1752, .iload_n 3, 1), (1753, .iconst 2, 1), (1754, .iadd, 1), (1755, .iaload, 1), (1756, .aload_n 0, 1), (1757, .iload_n 3, 1), (1758, .iconst 3, 1), (1759, .iadd, 1), (1760, .iaload, 1), (1761, .aload_n 0, 1), (1762, .iload_n 3, 1), (1763, .iconst 4, 1), (1764, .iadd, 1), (1765, .iaload, 1), (1766, .aload_n 0, 1), (1767, .iload_n 3, 1), (1768, .iconst 5, 1), (1769, .iadd, 1), (1770, .iaload, 1), (1771, .aload_n 0, 1), (1772, .iload_n 3, 1), (1773, .bipush 6, 2), (1775, .iadd, 1), (1776, .iaload, 1)] = true := by decide +kernel
theorem dL_law_1732 : decode cL_law 1732 = .ok (.aload_n 0, 1) := decs_at tdL_law_1732 0 rfl
theorem dL_law_1733 : decode cL_law 1733 = .ok (.iload_n 3, 1) := decs_at tdL_law_1732 1 rfl
theorem dL_law_1734 : decode cL_law 1734 = .ok (.iconst 1, 1) := decs_at tdL_law_1732 2 rfl
theorem dL_law_1735 : decode cL_law 1735 = .ok (.iadd, 1) := decs_at tdL_law_1732 3 rfl
theorem dL_law_1736 : decode cL_law 1736 = .ok (.iaload, 1) := decs_at tdL_law_1732 4 rfl
theorem dL_law_1737 : decode cL_law 1737 = .ok (.invokevirtual 191, 3) := decs_at tdL_law_1732 5 rfl
theorem dL_law_1740 : decode cL_law 1740 = .ok (.if_icmp .eq 326, 3) := decs_at tdL_law_1732 6 rfl
theorem dL_law_1743 : decode cL_law 1743 = .ok (.iconst 0, 1) := decs_at tdL_law_1732 7 rfl
theorem dL_law_1744 : decode cL_law 1744 = .ok (.ireturn, 1) := decs_at tdL_law_1732 8 rfl
theorem dL_law_1745 : decode cL_law 1745 = .ok (.aload_n 1, 1) := decs_at tdL_law_1732 9 rfl
theorem dL_law_1746 : decode cL_law 1746 = .ok (.aload_n 0, 1) := decs_at tdL_law_1732 10 rfl
theorem dL_law_1747 : decode cL_law 1747 = .ok (.iload_n 3, 1) := decs_at tdL_law_1732 11 rfl
theorem dL_law_1748 : decode cL_law 1748 = .ok (.iconst 1, 1) := decs_at tdL_law_1732 12 rfl
theorem dL_law_1749 : decode cL_law 1749 = .ok (.iadd, 1) := decs_at tdL_law_1732 13 rfl
theorem dL_law_1750 : decode cL_law 1750 = .ok (.iaload, 1) := decs_at tdL_law_1732 14 rfl
theorem dL_law_1751 : decode cL_law 1751 = .ok (.aload_n 0, 1) := decs_at tdL_law_1732 15 rfl
theorem dL_law_1752 : decode cL_law 1752 = .ok (.iload_n 3, 1) := decs_at tdL_law_1732 16 rfl
theorem dL_law_1753 : decode cL_law 1753 = .ok (.iconst 2, 1) := decs_at tdL_law_1732 17 rfl
theorem dL_law_1754 : decode cL_law 1754 = .ok (.iadd, 1) := decs_at tdL_law_1732 18 rfl
theorem dL_law_1755 : decode cL_law 1755 = .ok (.iaload, 1) := decs_at tdL_law_1732 19 rfl
theorem dL_law_1756 : decode cL_law 1756 = .ok (.aload_n 0, 1) := decs_at tdL_law_1732 20 rfl
theorem dL_law_1757 : decode cL_law 1757 = .ok (.iload_n 3, 1) := decs_at tdL_law_1732 21 rfl
theorem dL_law_1758 : decode cL_law 1758 = .ok (.iconst 3, 1) := decs_at tdL_law_1732 22 rfl
theorem dL_law_1759 : decode cL_law 1759 = .ok (.iadd, 1) := decs_at tdL_law_1732 23 rfl
theorem dL_law_1760 : decode cL_law 1760 = .ok (.iaload, 1) := decs_at tdL_law_1732 24 rfl
theorem dL_law_1761 : decode cL_law 1761 = .ok (.aload_n 0, 1) := decs_at tdL_law_1732 25 rfl
theorem dL_law_1762 : decode cL_law 1762 = .ok (.iload_n 3, 1) := decs_at tdL_law_1732 26 rfl
theorem dL_law_1763 : decode cL_law 1763 = .ok (.iconst 4, 1) := decs_at tdL_law_1732 27 rfl
theorem dL_law_1764 : decode cL_law 1764 = .ok (.iadd, 1) := decs_at tdL_law_1732 28 rfl
theorem dL_law_1765 : decode cL_law 1765 = .ok (.iaload, 1) := decs_at tdL_law_1732 29 rfl
theorem dL_law_1766 : decode cL_law 1766 = .ok (.aload_n 0, 1) := decs_at tdL_law_1732 30 rfl
theorem dL_law_1767 : decode cL_law 1767 = .ok (.iload_n 3, 1) := decs_at tdL_law_1732 31 rfl
theorem dL_law_1768 : decode cL_law 1768 = .ok (.iconst 5, 1) := decs_at tdL_law_1732 32 rfl
theorem dL_law_1769 : decode cL_law 1769 = .ok (.iadd, 1) := decs_at tdL_law_1732 33 rfl
theorem dL_law_1770 : decode cL_law 1770 = .ok (.iaload, 1) := decs_at tdL_law_1732 34 rfl
theorem dL_law_1771 : decode cL_law 1771 = .ok (.aload_n 0, 1) := decs_at tdL_law_1732 35 rfl
theorem dL_law_1772 : decode cL_law 1772 = .ok (.iload_n 3, 1) := decs_at tdL_law_1732 36 rfl
theorem dL_law_1773 : decode cL_law 1773 = .ok (.bipush 6, 2) := decs_at tdL_law_1732 37 rfl
theorem dL_law_1775 : decode cL_law 1775 = .ok (.iadd, 1) := decs_at tdL_law_1732 38 rfl
theorem dL_law_1776 : decode cL_law 1776 = .ok (.iaload, 1) := decs_at tdL_law_1732 39 rfl
theorem tdL_law_1777 : decs cL_law [(1777, .invokevirtual 192, 3), (1780, .aload_n 2, 1), (1781, .aload_n 0, 1), (1782, .iload_n 3, 1), (1783, .iconst 1, 1), (1784, .iadd, 1), (1785, .iaload, 1), (1786, .aload_n 0, 1), (1787, .iload_n 3, 1), (1788, .iconst 2, 1), (1789, .iadd, 1), (1790, .iaload, 1), (1791, .aload_n 0, 1), (1792, .iload_n 3, 1), (1793, .iconst 3, 1), (1794, .iadd, 1), (1795, .iaload, 1), (1796, .aload_n 0, 1), (1797, .iload_n 3, 1), (1798, .iconst 4, 1), (1799, .iadd, 1), (1800, .iaload, 1), (1801, .aload_n 0, 1), (1802, .iload_n 3, 1), (1803, .iconst 5, 1), (1804, .iadd, 1), (1805, .iaload, 1), (1806, .aload_n 0, 1), (1807, .iload_n 3, 1), (1808, .bipush 6, 2), (1810, .iadd, 1), (1811, .iaload, 1), (1812, .invokevirtual 196, 3), (1815, .if_icmp .eq 251, 3), (1818, .iconst 0, 1), (1819, .ireturn, 1), (1820, .aload_n 1, 1), (1821, .aload_n 0, 1), (1822, .iload_n 3, 1), (1823, .iconst 1, 1)] = true := by decide +kernel
theorem dL_law_1777 : decode cL_law 1777 = .ok (.invokevirtual 192, 3) := decs_at tdL_law_1777 0 rfl
theorem dL_law_1780 : decode cL_law 1780 = .ok (.aload_n 2, 1) := decs_at tdL_law_1777 1 rfl
theorem dL_law_1781 : decode cL_law 1781 = .ok (.aload_n 0, 1) := decs_at tdL_law_1777 2 rfl
theorem dL_law_1782 : decode cL_law 1782 = .ok (.iload_n 3, 1) := decs_at tdL_law_1777 3 rfl
theorem dL_law_1783 : decode cL_law 1783 = .ok (.iconst 1, 1) := decs_at tdL_law_1777 4 rfl
theorem dL_law_1784 : decode cL_law 1784 = .ok (.iadd, 1) := decs_at tdL_law_1777 5 rfl
theorem dL_law_1785 : decode cL_law 1785 = .ok (.iaload, 1) := decs_at tdL_law_1777 6 rfl
theorem dL_law_1786 : decode cL_law 1786 = .ok (.aload_n 0, 1) := decs_at tdL_law_1777 7 rfl
theorem dL_law_1787 : decode cL_law 1787 = .ok (.iload_n 3, 1) := decs_at tdL_law_1777 8 rfl
theorem dL_law_1788 : decode cL_law 1788 = .ok (.iconst 2, 1) := decs_at tdL_law_1777 9 rfl
theorem dL_law_1789 : decode cL_law 1789 = .ok (.iadd, 1) := decs_at tdL_law_1777 10 rfl
theorem dL_law_1790 : decode cL_law 1790 = .ok (.iaload, 1) := decs_at tdL_law_1777 11 rfl
theorem dL_law_1791 : decode cL_law 1791 = .ok (.aload_n 0, 1) := decs_at tdL_law_1777 12 rfl
theorem dL_law_1792 : decode cL_law 1792 = .ok (.iload_n 3, 1) := decs_at tdL_law_1777 13 rfl
theorem dL_law_1793 : decode cL_law 1793 = .ok (.iconst 3, 1) := decs_at tdL_law_1777 14 rfl
theorem dL_law_1794 : decode cL_law 1794 = .ok (.iadd, 1) := decs_at tdL_law_1777 15 rfl
theorem dL_law_1795 : decode cL_law 1795 = .ok (.iaload, 1) := decs_at tdL_law_1777 16 rfl
theorem dL_law_1796 : decode cL_law 1796 = .ok (.aload_n 0, 1) := decs_at tdL_law_1777 17 rfl
theorem dL_law_1797 : decode cL_law 1797 = .ok (.iload_n 3, 1) := decs_at tdL_law_1777 18 rfl
theorem dL_law_1798 : decode cL_law 1798 = .ok (.iconst 4, 1) := decs_at tdL_law_1777 19 rfl
theorem dL_law_1799 : decode cL_law 1799 = .ok (.iadd, 1) := decs_at tdL_law_1777 20 rfl
theorem dL_law_1800 : decode cL_law 1800 = .ok (.iaload, 1) := decs_at tdL_law_1777 21 rfl
theorem dL_law_1801 : decode cL_law 1801 = .ok (.aload_n 0, 1) := decs_at tdL_law_1777 22 rfl
theorem dL_law_1802 : decode cL_law 1802 = .ok (.iload_n 3, 1) := decs_at tdL_law_1777 23 rfl
theorem dL_law_1803 : decode cL_law 1803 = .ok (.iconst 5, 1) := decs_at tdL_law_1777 24 rfl
theorem dL_law_1804 : decode cL_law 1804 = .ok (.iadd, 1) := decs_at tdL_law_1777 25 rfl
theorem dL_law_1805 : decode cL_law 1805 = .ok (.iaload, 1) := decs_at tdL_law_1777 26 rfl
theorem dL_law_1806 : decode cL_law 1806 = .ok (.aload_n 0, 1) := decs_at tdL_law_1777 27 rfl
theorem dL_law_1807 : decode cL_law 1807 = .ok (.iload_n 3, 1) := decs_at tdL_law_1777 28 rfl
theorem dL_law_1808 : decode cL_law 1808 = .ok (.bipush 6, 2) := decs_at tdL_law_1777 29 rfl
theorem dL_law_1810 : decode cL_law 1810 = .ok (.iadd, 1) := decs_at tdL_law_1777 30 rfl
theorem dL_law_1811 : decode cL_law 1811 = .ok (.iaload, 1) := decs_at tdL_law_1777 31 rfl
theorem dL_law_1812 : decode cL_law 1812 = .ok (.invokevirtual 196, 3) := decs_at tdL_law_1777 32 rfl
theorem dL_law_1815 : decode cL_law 1815 = .ok (.if_icmp .eq 251, 3) := decs_at tdL_law_1777 33 rfl
theorem dL_law_1818 : decode cL_law 1818 = .ok (.iconst 0, 1) := decs_at tdL_law_1777 34 rfl
theorem dL_law_1819 : decode cL_law 1819 = .ok (.ireturn, 1) := decs_at tdL_law_1777 35 rfl
theorem dL_law_1820 : decode cL_law 1820 = .ok (.aload_n 1, 1) := decs_at tdL_law_1777 36 rfl
theorem dL_law_1821 : decode cL_law 1821 = .ok (.aload_n 0, 1) := decs_at tdL_law_1777 37 rfl
theorem dL_law_1822 : decode cL_law 1822 = .ok (.iload_n 3, 1) := decs_at tdL_law_1777 38 rfl
theorem dL_law_1823 : decode cL_law 1823 = .ok (.iconst 1, 1) := decs_at tdL_law_1777 39 rfl
theorem tdL_law_1824 : decs cL_law [(1824, .iadd, 1), (1825, .iaload, 1), (1826, .aload_n 0, 1), (1827, .iload_n 3, 1), (1828, .iconst 2, 1), (1829, .iadd, 1), (1830, .iaload, 1), (1831, .aload_n 0, 1), (1832, .iload_n 3, 1), (1833, .iconst 3, 1), (1834, .iadd, 1), (1835, .iaload, 1), (1836, .aload_n 0, 1), (1837, .iload_n 3, 1), (1838, .iconst 4, 1), (1839, .iadd, 1), (1840, .iaload, 1), (1841, .aload_n 0, 1), (1842, .iload_n 3, 1), (1843, .iconst 5, 1), (1844, .iadd, 1), (1845, .iaload, 1), (1846, .aload_n 0, 1), (1847, .iload_n 3, 1), (1848, .bipush 6, 2), (1850, .iadd, 1), (1851, .iaload, 1), (1852, .invokevirtual 197, 3), (1855, .aload_n 2, 1), (1856, .aload_n 0, 1), (1857, .iload_n 3, 1), (1858, .iconst 1, 1), (1859, .iadd, 1), (1860, .iaload, 1), (1861, .aload_n 0, 1), (1862, .iload_n 3, 1), (1863, .iconst 2, 1), (1864, .iadd, 1), (1865, .iaload, 1), (1866, .aload_n 0, 1)] = true := by decide +kernel
theorem dL_law_1824 : decode cL_law 1824 = .ok (.iadd, 1) := decs_at tdL_law_1824 0 rfl
theorem dL_law_1825 : decode cL_law 1825 = .ok (.iaload, 1) := decs_at tdL_law_1824 1 rfl
theorem dL_law_1826 : decode cL_law 1826 = .ok (.aload_n 0, 1) := decs_at tdL_law_1824 2 rfl
theorem dL_law_1827 : decode cL_law 1827 = .ok (.iload_n 3, 1) := decs_at tdL_law_1824 3 rfl
theorem dL_law_1828 : decode cL_law 1828 = .ok (.iconst 2, 1) := decs_at tdL_law_1824 4 rfl
theorem dL_law_1829 : decode cL_law 1829 = .ok (.iadd, 1) := decs_at tdL_law_1824 5 rfl
theorem dL_law_1830 : decode cL_law 1830 = .ok (.iaload, 1) := decs_at tdL_law_1824 6 rfl
theorem dL_law_1831 : decode cL_law 1831 = .ok (.aload_n 0, 1) := decs_at tdL_law_1824 7 rfl
theorem dL_law_1832 : decode cL_law 1832 = .ok (.iload_n 3, 1) := decs_at tdL_law_1824 8 rfl
theorem dL_law_1833 : decode cL_law 1833 = .ok (.iconst 3, 1) := decs_at tdL_law_1824 9 rfl
theorem dL_law_1834 : decode cL_law 1834 = .ok (.iadd, 1) := decs_at tdL_law_1824 10 rfl
theorem dL_law_1835 : decode cL_law 1835 = .ok (.iaload, 1) := decs_at tdL_law_1824 11 rfl
theorem dL_law_1836 : decode cL_law 1836 = .ok (.aload_n 0, 1) := decs_at tdL_law_1824 12 rfl
theorem dL_law_1837 : decode cL_law 1837 = .ok (.iload_n 3, 1) := decs_at tdL_law_1824 13 rfl
theorem dL_law_1838 : decode cL_law 1838 = .ok (.iconst 4, 1) := decs_at tdL_law_1824 14 rfl
theorem dL_law_1839 : decode cL_law 1839 = .ok (.iadd, 1) := decs_at tdL_law_1824 15 rfl
theorem dL_law_1840 : decode cL_law 1840 = .ok (.iaload, 1) := decs_at tdL_law_1824 16 rfl
theorem dL_law_1841 : decode cL_law 1841 = .ok (.aload_n 0, 1) := decs_at tdL_law_1824 17 rfl
theorem dL_law_1842 : decode cL_law 1842 = .ok (.iload_n 3, 1) := decs_at tdL_law_1824 18 rfl
theorem dL_law_1843 : decode cL_law 1843 = .ok (.iconst 5, 1) := decs_at tdL_law_1824 19 rfl
theorem dL_law_1844 : decode cL_law 1844 = .ok (.iadd, 1) := decs_at tdL_law_1824 20 rfl
theorem dL_law_1845 : decode cL_law 1845 = .ok (.iaload, 1) := decs_at tdL_law_1824 21 rfl
theorem dL_law_1846 : decode cL_law 1846 = .ok (.aload_n 0, 1) := decs_at tdL_law_1824 22 rfl
theorem dL_law_1847 : decode cL_law 1847 = .ok (.iload_n 3, 1) := decs_at tdL_law_1824 23 rfl
theorem dL_law_1848 : decode cL_law 1848 = .ok (.bipush 6, 2) := decs_at tdL_law_1824 24 rfl
theorem dL_law_1850 : decode cL_law 1850 = .ok (.iadd, 1) := decs_at tdL_law_1824 25 rfl
theorem dL_law_1851 : decode cL_law 1851 = .ok (.iaload, 1) := decs_at tdL_law_1824 26 rfl
theorem dL_law_1852 : decode cL_law 1852 = .ok (.invokevirtual 197, 3) := decs_at tdL_law_1824 27 rfl
theorem dL_law_1855 : decode cL_law 1855 = .ok (.aload_n 2, 1) := decs_at tdL_law_1824 28 rfl
theorem dL_law_1856 : decode cL_law 1856 = .ok (.aload_n 0, 1) := decs_at tdL_law_1824 29 rfl
theorem dL_law_1857 : decode cL_law 1857 = .ok (.iload_n 3, 1) := decs_at tdL_law_1824 30 rfl
theorem dL_law_1858 : decode cL_law 1858 = .ok (.iconst 1, 1) := decs_at tdL_law_1824 31 rfl
theorem dL_law_1859 : decode cL_law 1859 = .ok (.iadd, 1) := decs_at tdL_law_1824 32 rfl
theorem dL_law_1860 : decode cL_law 1860 = .ok (.iaload, 1) := decs_at tdL_law_1824 33 rfl
theorem dL_law_1861 : decode cL_law 1861 = .ok (.aload_n 0, 1) := decs_at tdL_law_1824 34 rfl
theorem dL_law_1862 : decode cL_law 1862 = .ok (.iload_n 3, 1) := decs_at tdL_law_1824 35 rfl
theorem dL_law_1863 : decode cL_law 1863 = .ok (.iconst 2, 1) := decs_at tdL_law_1824 36 rfl
theorem dL_law_1864 : decode cL_law 1864 = .ok (.iadd, 1) := decs_at tdL_law_1824 37 rfl
theorem dL_law_1865 : decode cL_law 1865 = .ok (.iaload, 1) := decs_at tdL_law_1824 38 rfl
theorem dL_law_1866 : decode cL_law 1866 = .ok (.aload_n 0, 1) := decs_at tdL_law_1824 39 rfl
theorem tdL_law_1867 : decs cL_law [(1867, .iload_n 3, 1), (1868, .iconst 3, 1), (1869, .iadd, 1), (1870, .iaload, 1), (1871, .aload_n 0, 1), (1872, .iload_n 3, 1), (1873, .iconst 4, 1), (1874, .iadd, 1), (1875, .iaload, 1), (1876, .aload_n 0, 1), (1877, .iload_n 3, 1), (1878, .iconst 5, 1), (1879, .iadd, 1), (1880, .iaload, 1), (1881, .aload_n 0, 1), (1882, .iload_n 3, 1), (1883, .bipush 6, 2), (1885, .iadd, 1), (1886, .iaload, 1), (1887, .invokevirtual 200, 3), (1890, .if_icmp .eq 176, 3), (1893, .iconst 0, 1), (1894, .ireturn, 1), (1895, .aload_n 1, 1), (1896, .aload_n 0, 1), (1897, .iload_n 3, 1), (1898, .iconst 1, 1), (1899, .iadd, 1), (1900, .iaload, 1), (1901, .aload_n 0, 1), (1902, .iload_n 3, 1), (1903, .iconst 2, 1), (1904, .iadd, 1), (1905, .iaload, 1), (1906, .invokevirtual 201, 3), (1909, .aload_n 2, 1), (1910, .aload_n 0, 1), (1911, .iload_n 3, 1), (1912, .iconst 1, 1), (1913, .iadd, 1)] = true := by decide +kernel
theorem dL_law_1867 : decode cL_law 1867 = .ok (.iload_n 3, 1) := decs_at tdL_law_1867 0 rfl
theorem dL_law_1868 : decode cL_law 1868 = .ok (.iconst 3, 1) := decs_at tdL_law_1867 1 rfl
theorem dL_law_1869 : decode cL_law 1869 = .ok (.iadd, 1) := decs_at tdL_law_1867 2 rfl
theorem dL_law_1870 : decode cL_law 1870 = .ok (.iaload, 1) := decs_at tdL_law_1867 3 rfl
theorem dL_law_1871 : decode cL_law 1871 = .ok (.aload_n 0, 1) := decs_at tdL_law_1867 4 rfl
theorem dL_law_1872 : decode cL_law 1872 = .ok (.iload_n 3, 1) := decs_at tdL_law_1867 5 rfl
theorem dL_law_1873 : decode cL_law 1873 = .ok (.iconst 4, 1) := decs_at tdL_law_1867 6 rfl
theorem dL_law_1874 : decode cL_law 1874 = .ok (.iadd, 1) := decs_at tdL_law_1867 7 rfl
theorem dL_law_1875 : decode cL_law 1875 = .ok (.iaload, 1) := decs_at tdL_law_1867 8 rfl
theorem dL_law_1876 : decode cL_law 1876 = .ok (.aload_n 0, 1) := decs_at tdL_law_1867 9 rfl
theorem dL_law_1877 : decode cL_law 1877 = .ok (.iload_n 3, 1) := decs_at tdL_law_1867 10 rfl
theorem dL_law_1878 : decode cL_law 1878 = .ok (.iconst 5, 1) := decs_at tdL_law_1867 11 rfl
theorem dL_law_1879 : decode cL_law 1879 = .ok (.iadd, 1) := decs_at tdL_law_1867 12 rfl
theorem dL_law_1880 : decode cL_law 1880 = .ok (.iaload, 1) := decs_at tdL_law_1867 13 rfl
theorem dL_law_1881 : decode cL_law 1881 = .ok (.aload_n 0, 1) := decs_at tdL_law_1867 14 rfl
theorem dL_law_1882 : decode cL_law 1882 = .ok (.iload_n 3, 1) := decs_at tdL_law_1867 15 rfl
theorem dL_law_1883 : decode cL_law 1883 = .ok (.bipush 6, 2) := decs_at tdL_law_1867 16 rfl
theorem dL_law_1885 : decode cL_law 1885 = .ok (.iadd, 1) := decs_at tdL_law_1867 17 rfl
theorem dL_law_1886 : decode cL_law 1886 = .ok (.iaload, 1) := decs_at tdL_law_1867 18 rfl
theorem dL_law_1887 : decode cL_law 1887 = .ok (.invokevirtual 200, 3) := decs_at tdL_law_1867 19 rfl
theorem dL_law_1890 : decode cL_law 1890 = .ok (.if_icmp .eq 176, 3) := decs_at tdL_law_1867 20 rfl
theorem dL_law_1893 : decode cL_law 1893 = .ok (.iconst 0, 1) := decs_at tdL_law_1867 21 rfl
theorem dL_law_1894 : decode cL_law 1894 = .ok (.ireturn, 1) := decs_at tdL_law_1867 22 rfl
theorem dL_law_1895 : decode cL_law 1895 = .ok (.aload_n 1, 1) := decs_at tdL_law_1867 23 rfl
theorem dL_law_1896 : decode cL_law 1896 = .ok (.aload_n 0, 1) := decs_at tdL_law_1867 24 rfl
theorem dL_law_1897 : decode cL_law 1897 = .ok (.iload_n 3, 1) := decs_at tdL_law_1867 25 rfl
theorem dL_law_1898 : decode cL_law 1898 = .ok (.iconst 1, 1) := decs_at tdL_law_1867 26 rfl
theorem dL_law_1899 : decode cL_law 1899 = .ok (.iadd, 1) := decs_at tdL_law_1867 27 rfl
theorem dL_law_1900 : decode cL_law 1900 = .ok (.iaload, 1) := decs_at tdL_law_1867 28 rfl
theorem dL_law_1901 : decode cL_law 1901 = .ok (.aload_n 0, 1) := decs_at tdL_law_1867 29 rfl
theorem dL_law_1902 : decode cL_law 1902 = .ok (.iload_n 3, 1) := decs_at tdL_law_1867 30 rfl
theorem dL_law_1903 : decode cL_law 1903 = .ok (.iconst 2, 1) := decs_at tdL_law_1867 31 rfl
theorem dL_law_1904 : decode cL_law 1904 = .ok (.iadd, 1) := decs_at tdL_law_1867 32 rfl
theorem dL_law_1905 : decode cL_law 1905 = .ok (.iaload, 1) := decs_at tdL_law_1867 33 rfl
theorem dL_law_1906 : decode cL_law 1906 = .ok (.invokevirtual 201, 3) := decs_at tdL_law_1867 34 rfl
theorem dL_law_1909 : decode cL_law 1909 = .ok (.aload_n 2, 1) := decs_at tdL_law_1867 35 rfl
theorem dL_law_1910 : decode cL_law 1910 = .ok (.aload_n 0, 1) := decs_at tdL_law_1867 36 rfl
theorem dL_law_1911 : decode cL_law 1911 = .ok (.iload_n 3, 1) := decs_at tdL_law_1867 37 rfl
theorem dL_law_1912 : decode cL_law 1912 = .ok (.iconst 1, 1) := decs_at tdL_law_1867 38 rfl
theorem dL_law_1913 : decode cL_law 1913 = .ok (.iadd, 1) := decs_at tdL_law_1867 39 rfl
theorem tdL_law_1914 : decs cL_law [(1914, .iaload, 1), (1915, .aload_n 0, 1), (1916, .iload_n 3, 1), (1917, .iconst 2, 1), (1918, .iadd, 1), (1919, .iaload, 1), (1920, .invokevirtual 204, 3), (1923, .if_icmp .eq 143, 3), (1926, .iconst 0, 1), (1927, .ireturn, 1), (1928, .aload_n 1, 1), (1929, .aload_n 0, 1), (1930, .iload_n 3, 1), (1931, .iconst 1, 1), (1932, .iadd, 1), (1933, .iaload, 1), (1934, .aload_n 0, 1), (1935, .iload_n 3, 1), (1936, .iconst 2, 1), (1937, .iadd, 1), (1938, .iaload, 1), (1939, .aload_n 0, 1), (1940, .iload_n 3, 1), (1941, .iconst 3, 1), (1942, .iadd, 1), (1943, .iaload, 1), (1944, .invokevirtual 205, 3), (1947, .aload_n 2, 1), (1948, .aload_n 0, 1), (1949, .iload_n 3, 1), (1950, .iconst 1, 1), (1951, .iadd, 1), (1952, .iaload, 1), (1953, .aload_n 0, 1), (1954, .iload_n 3, 1), (1955, .iconst 2, 1), (1956, .iadd, 1), (1957, .iaload, 1), (1958, .aload_n 0, 1), (1959, .iload_n 3, 1)] = true := by decide +kernel
theorem dL_law_1914 : decode cL_law 1914 = .ok (.iaload, 1) := decs_at tdL_law_1914 0 rfl
theorem dL_law_1915 : decode cL_law 1915 = .ok (.aload_n 0, 1) := decs_at tdL_law_1914 1 rfl
theorem dL_law_1916 : decode cL_law 1916 = .ok (.iload_n 3, 1) := decs_at tdL_law_1914 2 rfl
theorem dL_law_1917 : decode cL_law 1917 = .ok (.iconst 2, 1) := decs_at tdL_law_1914 3 rfl
theorem dL_law_1918 : decode cL_law 1918 = .ok (.iadd, 1) := decs_at tdL_law_1914 4 rfl
theorem dL_law_1919 : decode cL_law 1919 = .ok (.iaload, 1) := decs_at tdL_law_1914 5 rfl
theorem dL_law_1920 : decode cL_law 1920 = .ok (.invokevirtual 204, 3) := decs_at tdL_law_1914 6 rfl
theorem dL_law_1923 : decode cL_law 1923 = .ok (.if_icmp .eq 143, 3) := decs_at tdL_law_1914 7 rfl
theorem dL_law_1926 : decode cL_law 1926 = .ok (.iconst 0, 1) := decs_at tdL_law_1914 8 rfl
theorem dL_law_1927 : decode cL_law 1927 = .ok (.ireturn, 1) := decs_at tdL_law_1914 9 rfl
theorem dL_law_1928 : decode cL_law 1928 = .ok (.aload_n 1, 1) := decs_at tdL_law_1914 10 rfl
theorem dL_law_1929 : decode cL_law 1929 = .ok (.aload_n 0, 1) := decs_at tdL_law_1914 11 rfl
theorem dL_law_1930 : decode cL_law 1930 = .ok (.iload_n 3, 1) := decs_at tdL_law_1914 12 rfl
theorem dL_law_1931 : decode cL_law 1931 = .ok (.iconst 1, 1) := decs_at tdL_law_1914 13 rfl
theorem dL_law_1932 : decode cL_law 1932 = .ok (.iadd, 1) := decs_at tdL_law_1914 14 rfl
theorem dL_law_1933 : decode cL_law 1933 = .ok (.iaload, 1) := decs_at tdL_law_1914 15 rfl
theorem dL_law_1934 : decode cL_law 1934 = .ok (.aload_n 0, 1) := decs_at tdL_law_1914 16 rfl
theorem dL_law_1935 : decode cL_law 1935 = .ok (.iload_n 3, 1) := decs_at tdL_law_1914 17 rfl
theorem dL_law_1936 : decode cL_law 1936 = .ok (.iconst 2, 1) := decs_at tdL_law_1914 18 rfl
theorem dL_law_1937 : decode cL_law 1937 = .ok (.iadd, 1) := decs_at tdL_law_1914 19 rfl
theorem dL_law_1938 : decode cL_law 1938 = .ok (.iaload, 1) := decs_at tdL_law_1914 20 rfl
theorem dL_law_1939 : decode cL_law 1939 = .ok (.aload_n 0, 1) := decs_at tdL_law_1914 21 rfl
theorem dL_law_1940 : decode cL_law 1940 = .ok (.iload_n 3, 1) := decs_at tdL_law_1914 22 rfl
theorem dL_law_1941 : decode cL_law 1941 = .ok (.iconst 3, 1) := decs_at tdL_law_1914 23 rfl
theorem dL_law_1942 : decode cL_law 1942 = .ok (.iadd, 1) := decs_at tdL_law_1914 24 rfl
theorem dL_law_1943 : decode cL_law 1943 = .ok (.iaload, 1) := decs_at tdL_law_1914 25 rfl
theorem dL_law_1944 : decode cL_law 1944 = .ok (.invokevirtual 205, 3) := decs_at tdL_law_1914 26 rfl
theorem dL_law_1947 : decode cL_law 1947 = .ok (.aload_n 2, 1) := decs_at tdL_law_1914 27 rfl
theorem dL_law_1948 : decode cL_law 1948 = .ok (.aload_n 0, 1) := decs_at tdL_law_1914 28 rfl
theorem dL_law_1949 : decode cL_law 1949 = .ok (.iload_n 3, 1) := decs_at tdL_law_1914 29 rfl
theorem dL_law_1950 : decode cL_law 1950 = .ok (.iconst 1, 1) := decs_at tdL_law_1914 30 rfl
theorem dL_law_1951 : decode cL_law 1951 = .ok (.iadd, 1) := decs_at tdL_law_1914 31 rfl
theorem dL_law_1952 : decode cL_law 1952 = .ok (.iaload, 1) := decs_at tdL_law_1914 32 rfl
theorem dL_law_1953 : decode cL_law 1953 = .ok (.aload_n 0, 1) := decs_at tdL_law_1914 33 rfl
theorem dL_law_1954 : decode cL_law 1954 = .ok (.iload_n 3, 1) := decs_at tdL_law_1914 34 rfl
theorem dL_law_1955 : decode cL_law 1955 = .ok (.iconst 2, 1) := decs_at tdL_law_1914 35 rfl
theorem dL_law_1956 : decode cL_law 1956 = .ok (.iadd, 1) := decs_at tdL_law_1914 36 rfl
theorem dL_law_1957 : decode cL_law 1957 = .ok (.iaload, 1) := decs_at tdL_law_1914 37 rfl
theorem dL_law_1958 : decode cL_law 1958 = .ok (.aload_n 0, 1) := decs_at tdL_law_1914 38 rfl
theorem dL_law_1959 : decode cL_law 1959 = .ok (.iload_n 3, 1) := decs_at tdL_law_1914 39 rfl
theorem tdL_law_1960 : decs cL_law [(1960, .iconst 3, 1), (1961, .iadd, 1), (1962, .iaload, 1), (1963, .invokevirtual 208, 3), (1966, .if_icmp .eq 100, 3), (1969, .iconst 0, 1), (1970, .ireturn, 1), (1971, .aload_n 1, 1), (1972, .aload_n 0, 1), (1973, .iload_n 3, 1), (1974, .iconst 1, 1), (1975, .iadd, 1), (1976, .iaload, 1), (1977, .invokevirtual 209, 3), (1980, .aload_n 2, 1), (1981, .aload_n 0, 1), (1982, .iload_n 3, 1), (1983, .iconst 1, 1), (1984, .iadd, 1), (1985, .iaload, 1), (1986, .invokevirtual 212, 3), (1989, .if_icmp .eq 77, 3), (1992, .iconst 0, 1), (1993, .ireturn, 1), (1994, .aload_n 1, 1), (1995, .aload_n 0, 1), (1996, .iload_n 3, 1), (1997, .iconst 1, 1), (1998, .iadd, 1), (1999, .iaload, 1), (2000, .invokevirtual 213, 3), (2003, .aload_n 2, 1), (2004, .aload_n 0, 1), (2005, .iload_n 3, 1), (2006, .iconst 1, 1), (2007, .iadd, 1), (2008, .iaload, 1), (2009, .invokevirtual 216, 3), (2012, .if_icmp .eq 54, 3), (2015, .iconst 0, 1)] = true := by decide +kernel
theorem dL_law_1960 : decode cL_law 1960 = .ok (.iconst 3, 1) := decs_at tdL_law_1960 0 rfl
theorem dL_law_1961 : decode cL_law 1961 = .ok (.iadd, 1) := decs_at tdL_law_1960 1 rfl
theorem dL_law_1962 : decode cL_law 1962 = .ok (.iaload, 1) := decs_at tdL_law_1960 2 rfl
theorem dL_law_1963 : decode cL_law 1963 = .ok (.invokevirtual 208, 3) := decs_at tdL_law_1960 3 rfl
theorem dL_law_1966 : decode cL_law 1966 = .ok (.if_icmp .eq 100, 3) := decs_at tdL_law_1960 4 rfl
theorem dL_law_1969 : decode cL_law 1969 = .ok (.iconst 0, 1) := decs_at tdL_law_1960 5 rfl
theorem dL_law_1970 : decode cL_law 1970 = .ok (.ireturn, 1) := decs_at tdL_law_1960 6 rfl
theorem dL_law_1971 : decode cL_law 1971 = .ok (.aload_n 1, 1) := decs_at tdL_law_1960 7 rfl
theorem dL_law_1972 : decode cL_law 1972 = .ok (.aload_n 0, 1) := decs_at tdL_law_1960 8 rfl
theorem dL_law_1973 : decode cL_law 1973 = .ok (.iload_n 3, 1) := decs_at tdL_law_1960 9 rfl
theorem dL_law_1974 : decode cL_law 1974 = .ok (.iconst 1, 1) := decs_at tdL_law_1960 10 rfl
theorem dL_law_1975 : decode cL_law 1975 = .ok (.iadd, 1) := decs_at tdL_law_1960 11 rfl
theorem dL_law_1976 : decode cL_law 1976 = .ok (.iaload, 1) := decs_at tdL_law_1960 12 rfl
theorem dL_law_1977 : decode cL_law 1977 = .ok (.invokevirtual 209, 3) := decs_at tdL_law_1960 13 rfl
theorem dL_law_1980 : decode cL_law 1980 = .ok (.aload_n 2, 1) := decs_at tdL_law_1960 14 rfl
theorem dL_law_1981 : decode cL_law 1981 = .ok (.aload_n 0, 1) := decs_at tdL_law_1960 15 rfl
theorem dL_law_1982 : decode cL_law 1982 = .ok (.iload_n 3, 1) := decs_at tdL_law_1960 16 rfl
theorem dL_law_1983 : decode cL_law 1983 = .ok (.iconst 1, 1) := decs_at tdL_law_1960 17 rfl
theorem dL_law_1984 : decode cL_law 1984 = .ok (.iadd, 1) := decs_at tdL_law_1960 18 rfl
theorem dL_law_1985 : decode cL_law 1985 = .ok (.iaload, 1) := decs_at tdL_law_1960 19 rfl
theorem dL_law_1986 : decode cL_law 1986 = .ok (.invokevirtual 212, 3) := decs_at tdL_law_1960 20 rfl
theorem dL_law_1989 : decode cL_law 1989 = .ok (.if_icmp .eq 77, 3) := decs_at tdL_law_1960 21 rfl
theorem dL_law_1992 : decode cL_law 1992 = .ok (.iconst 0, 1) := decs_at tdL_law_1960 22 rfl
theorem dL_law_1993 : decode cL_law 1993 = .ok (.ireturn, 1) := decs_at tdL_law_1960 23 rfl
theorem dL_law_1994 : decode cL_law 1994 = .ok (.aload_n 1, 1) := decs_at tdL_law_1960 24 rfl
theorem dL_law_1995 : decode cL_law 1995 = .ok (.aload_n 0, 1) := decs_at tdL_law_1960 25 rfl
theorem dL_law_1996 : decode cL_law 1996 = .ok (.iload_n 3, 1) := decs_at tdL_law_1960 26 rfl
theorem dL_law_1997 : decode cL_law 1997 = .ok (.iconst 1, 1) := decs_at tdL_law_1960 27 rfl
theorem dL_law_1998 : decode cL_law 1998 = .ok (.iadd, 1) := decs_at tdL_law_1960 28 rfl
theorem dL_law_1999 : decode cL_law 1999 = .ok (.iaload, 1) := decs_at tdL_law_1960 29 rfl
theorem dL_law_2000 : decode cL_law 2000 = .ok (.invokevirtual 213, 3) := decs_at tdL_law_1960 30 rfl
theorem dL_law_2003 : decode cL_law 2003 = .ok (.aload_n 2, 1) := decs_at tdL_law_1960 31 rfl
theorem dL_law_2004 : decode cL_law 2004 = .ok (.aload_n 0, 1) := decs_at tdL_law_1960 32 rfl
theorem dL_law_2005 : decode cL_law 2005 = .ok (.iload_n 3, 1) := decs_at tdL_law_1960 33 rfl
theorem dL_law_2006 : decode cL_law 2006 = .ok (.iconst 1, 1) := decs_at tdL_law_1960 34 rfl
theorem dL_law_2007 : decode cL_law 2007 = .ok (.iadd, 1) := decs_at tdL_law_1960 35 rfl
theorem dL_law_2008 : decode cL_law 2008 = .ok (.iaload, 1) := decs_at tdL_law_1960 36 rfl
theorem dL_law_2009 : decode cL_law 2009 = .ok (.invokevirtual 216, 3) := decs_at tdL_law_1960 37 rfl
theorem dL_law_2012 : decode cL_law 2012 = .ok (.if_icmp .eq 54, 3) := decs_at tdL_law_1960 38 rfl
theorem dL_law_2015 : decode cL_law 2015 = .ok (.iconst 0, 1) := decs_at tdL_law_1960 39 rfl
theorem tdL_law_2016 : decs cL_law [(2016, .ireturn, 1), (2017, .aload_n 1, 1), (2018, .invokevirtual 217, 3), (2021, .aload_n 2, 1), (2022, .invokevirtual 220, 3), (2025, .if_icmp .eq 41, 3), (2028, .iconst 0, 1), (2029, .ireturn, 1), (2030, .aload_n 1, 1), (2031, .invokevirtual 221, 3), (2034, .aload_n 2, 1), (2035, .invokevirtual 224, 3), (2038, .if_icmp .eq 28, 3), (2041, .iconst 0, 1), (2042, .ireturn, 1), (2043, .aload_n 1, 1), (2044, .aload_n 0, 1), (2045, .iload_n 3, 1), (2046, .iconst 1, 1), (2047, .iadd, 1), (2048, .iaload, 1), (2049, .invokevirtual 225, 3), (2052, .aload_n 2, 1), (2053, .aload_n 0, 1), (2054, .iload_n 3, 1), (2055, .iconst 1, 1), (2056, .iadd, 1), (2057, .iaload, 1), (2058, .invokevirtual 228, 3), (2061, .if_icmp .eq 5, 3), (2064, .iconst 0, 1), (2065, .ireturn, 1), (2066, .iinc 3 7, 3), (2069, .goto (-2051), 3), (2072, .iconst 1, 1), (2073, .ireturn, 1)] = true := by decide +kernel
theorem dL_law_2016 : decode cL_law 2016 = .ok (.ireturn, 1) := decs_at tdL_law_2016 0 rfl
theorem dL_law_2017 : decode cL_law 2017 = .ok (.aload_n 1, 1) := decs_at tdL_law_2016 1 rfl
theorem dL_law_2018 : decode cL_law 2018 = .ok (.invokevirtual 217, 3) := decs_at tdL_law_2016 2 rfl
theorem dL_law_2021 : decode cL_law 2021 = .ok (.aload_n 2, 1) := decs_at tdL_law_2016 3 rfl
theorem dL_law_2022 : decode cL_law 2022 = .ok (.invokevirtual 220, 3) := decs_at tdL_law_2016 4 rfl
theorem dL_law_2025 : decode cL_law 2025 = .ok (.if_icmp .eq 41, 3) := decs_at tdL_law_2016 5 rfl
theorem dL_law_2028 : decode cL_law 2028 = .ok (.iconst 0, 1) := decs_at tdL_law_2016 6 rfl
theorem dL_law_2029 : decode cL_law 2029 = .ok (.ireturn, 1) := decs_at tdL_law_2016 7 rfl
theorem dL_law_2030 : decode cL_law 2030 = .ok (.aload_n 1, 1) := decs_at tdL_law_2016 8 rfl
theorem dL_law_2031 : decode cL_law 2031 = .ok (.invokevirtual 221, 3) := decs_at tdL_law_2016 9 rfl
theorem dL_law_2034 : decode cL_law 2034 = .ok (.aload_n 2, 1) := decs_at tdL_law_2016 10 rfl
theorem dL_law_2035 : decode cL_law 2035 = .ok (.invokevirtual 224, 3) := decs_at tdL_law_2016 11 rfl
theorem dL_law_2038 : decode cL_law 2038 = .ok (.if_icmp .eq 28, 3) := decs_at tdL_law_2016 12 rfl
theorem dL_law_2041 : decode cL_law 2041 = .ok (.iconst 0, 1) := decs_at tdL_law_2016 13 rfl
theorem dL_law_2042 : decode cL_law 2042 = .ok (.ireturn, 1) := decs_at tdL_law_2016 14 rfl
theorem dL_law_2043 : decode cL_law 2043 = .ok (.aload_n 1, 1) := decs_at tdL_law_2016 15 rfl
theorem dL_law_2044 : decode cL_law 2044 = .ok (.aload_n 0, 1) := decs_at tdL_law_2016 16 rfl
theorem dL_law_2045 : decode cL_law 2045 = .ok (.iload_n 3, 1) := decs_at tdL_law_2016 17 rfl
theorem dL_law_2046 : decode cL_law 2046 = .ok (.iconst 1, 1) := decs_at tdL_law_2016 18 rfl
theorem dL_law_2047 : decode cL_law 2047 = .ok (.iadd, 1) := decs_at tdL_law_2016 19 rfl
theorem dL_law_2048 : decode cL_law 2048 = .ok (.iaload, 1) := decs_at tdL_law_2016 20 rfl
theorem dL_law_2049 : decode cL_law 2049 = .ok (.invokevirtual 225, 3) := decs_at tdL_law_2016 21 rfl
theorem dL_law_2052 : decode cL_law 2052 = .ok (.aload_n 2, 1) := decs_at tdL_law_2016 22 rfl
theorem dL_law_2053 : decode cL_law 2053 = .ok (.aload_n 0, 1) := decs_at tdL_law_2016 23 rfl
theorem dL_law_2054 : decode cL_law 2054 = .ok (.iload_n 3, 1) := decs_at tdL_law_2016 24 rfl
theorem dL_law_2055 : decode cL_law 2055 = .ok (.iconst 1, 1) := decs_at tdL_law_2016 25 rfl
theorem dL_law_2056 : decode cL_law 2056 = .ok (.iadd, 1) := decs_at tdL_law_2016 26 rfl
theorem dL_law_2057 : decode cL_law 2057 = .ok (.iaload, 1) := decs_at tdL_law_2016 27 rfl
theorem dL_law_2058 : decode cL_law 2058 = .ok (.invokevirtual 228, 3) := decs_at tdL_law_2016 28 rfl
theorem dL_law_2061 : decode cL_law 2061 = .ok (.if_icmp .eq 5, 3) := decs_at tdL_law_2016 29 rfl
theorem dL_law_2064 : decode cL_law 2064 = .ok (.iconst 0, 1) := decs_at tdL_law_2016 30 rfl
theorem dL_law_2065 : decode cL_law 2065 = .ok (.ireturn, 1) := decs_at tdL_law_2016 31 rfl
theorem dL_law_2066 : decode cL_law 2066 = .ok (.iinc 3 7, 3) := decs_at tdL_law_2016 32 rfl
theorem dL_law_2069 : decode cL_law 2069 = .ok (.goto (-2051), 3) := decs_at tdL_law_2016 33 rfl
theorem dL_law_2072 : decode cL_law 2072 = .ok (.iconst 1, 1) := decs_at tdL_law_2016 34 rfl
theorem dL_law_2073 : decode cL_law 2073 = .ok (.ireturn, 1) := decs_at tdL_law_2016 35 rfl

