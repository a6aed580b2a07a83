theorem w_0 : Cond.selects "Quasigrove$Maps" yX4_arrange yX4_arrange ∈ g_GW := g_mem (i := 0) (by decide +kernel) rfl
theorem w_2 : Cond.selects "Quasigrove" yX11_newGrid yX11_newGrid ∈ g_GW := g_mem (i := 2) (by decide +kernel) rfl
theorem w_3 : Cond.selects "Quasigrove$Grid" yX2_isLine yX2_isLine ∈ g_GW := g_mem (i := 3) (by decide +kernel) rfl
theorem w_4 : Cond.selects "Quasigrove" yX11_gridAt yX11_gridAt ∈ g_GW := g_mem (i := 4) (by decide +kernel) rfl
theorem w_5 : Cond.selects "Quasigrove$Grid" yX2_exchange yX2_exchange ∈ g_GW := g_mem (i := 5) (by decide +kernel) rfl
theorem w_6 : Cond.initialized "QuasigroveLaw" ∈ g_GW := g_mem (i := 6) (by decide +kernel) rfl
theorem w_7 : Cond.initialized "Quasigrove" ∈ g_GW := g_mem (i := 7) (by decide +kernel) rfl
theorem w_8 : Cond.initialized "Quasigrove$Grid" ∈ g_GW := g_mem (i := 8) (by decide +kernel) rfl
theorem w_9 : Cond.initialized "Quasigrove$Maps" ∈ g_GW := g_mem (i := 9) (by decide +kernel) rfl
theorem w_18 : Cond.initialized "java/lang/IllegalArgumentException" ∈ g_GW := g_mem (i := 18) (by decide +kernel) rfl
theorem w_19 : Cond.initialized "java/lang/IllegalStateException" ∈ g_GW := g_mem (i := 19) (by decide +kernel) rfl
theorem w_20 : Cond.initialized "java/lang/Math" ∈ g_GW := g_mem (i := 20) (by decide +kernel) rfl
theorem w_21 : Cond.initialized "java/lang/IndexOutOfBoundsException" ∈ g_GW := g_mem (i := 21) (by decide +kernel) rfl
theorem w_22 : Cond.initialized "Quasigrove$Filling" ∈ g_GW := g_mem (i := 22) (by decide +kernel) rfl
theorem w_23 : Cond.initialized "Quasigrove$Move" ∈ g_GW := g_mem (i := 23) (by decide +kernel) rfl
theorem w_39 : Cond.fieldLink "Quasigrove$Grid" 9 "Quasigrove$Grid" "signs" "[I" ∈ g_GW := g_mem (i := 39) (by decide +kernel) rfl
theorem w_40 : Cond.fieldLink "Quasigrove$Grid" 15 "Quasigrove$Grid" "rowSets" "[I" ∈ g_GW := g_mem (i := 40) (by decide +kernel) rfl
theorem w_41 : Cond.fieldLink "Quasigrove$Grid" 18 "Quasigrove$Grid" "columnSets" "[I" ∈ g_GW := g_mem (i := 41) (by decide +kernel) rfl
theorem w_42 : Cond.fieldLink "Quasigrove$Grid" 21 "Quasigrove$Grid" "order" "I" ∈ g_GW := g_mem (i := 42) (by decide +kernel) rfl
theorem w_43 : Cond.fieldLinkNest "Quasigrove" 99 "Quasigrove$Grid" "order" "I" "Quasigrove" ∈ g_NW := g_memN (i := 43) (by decide +kernel) rfl
theorem w_44 : Cond.fieldLinkNest "Quasigrove$Filling" 15 "Quasigrove$Grid" "order" "I" "Quasigrove" ∈ g_NW := g_memN (i := 44) (by decide +kernel) rfl
theorem w_45 : Cond.fieldLink "Quasigrove$Grid" 25 "Quasigrove$Grid" "filled" "I" ∈ g_GW := g_mem (i := 45) (by decide +kernel) rfl
theorem w_46 : Cond.fieldLinkNest "Quasigrove" 121 "Quasigrove$Grid" "filled" "I" "Quasigrove" ∈ g_NW := g_memN (i := 46) (by decide +kernel) rfl
theorem w_67 : Cond.instanceMethod yX4_arrange ∈ g_GW := g_mem (i := 67) (by decide +kernel) rfl
theorem w_68 : Cond.code yX4_arrange cX4_arrange 8 none ∈ g_GW := g_mem (i := 68) (by decide +kernel) rfl
theorem w_69 : Cond.fieldLink "Quasigrove$Maps" 9 "Quasigrove$Maps" "images" "[I" ∈ g_GW := g_mem (i := 69) (by decide +kernel) rfl
theorem w_186 : Cond.fieldLink "Quasigrove" 11 "Quasigrove" "grids" "[LQuasigrove$Grid;" ∈ g_GW := g_mem (i := 186) (by decide +kernel) rfl
theorem w_187 : Cond.fieldLink "Quasigrove" 16 "Quasigrove" "work" "LQuasigrove$Grid;" ∈ g_GW := g_mem (i := 187) (by decide +kernel) rfl
theorem w_194 : Cond.fieldLink "Quasigrove" 64 "Quasigrove" "made" "I" ∈ g_GW := g_mem (i := 194) (by decide +kernel) rfl
theorem w_215 : Cond.instanceMethod yX11_grid ∈ g_GW := g_mem (i := 215) (by decide +kernel) rfl
theorem w_216 : Cond.selects "Quasigrove" yX11_grid yX11_grid ∈ g_GW := g_mem (i := 216) (by decide +kernel) rfl
theorem w_217 : Cond.code yX11_grid cX11_grid 2 (some .int) ∈ g_GW := g_mem (i := 217) (by decide +kernel) rfl
theorem w_218 : Cond.methodLink "Quasigrove" 68 yX11_isFrom ∈ g_GW := g_mem (i := 218) (by decide +kernel) rfl
theorem w_219 : Cond.static yX11_isFrom ∈ g_GW := g_mem (i := 219) (by decide +kernel) rfl
theorem w_220 : Cond.code yX11_isFrom cX11_isFrom 3 (some .boolean) ∈ g_GW := g_mem (i := 220) (by decide +kernel) rfl
theorem w_221 : Cond.methodLink "Quasigrove" 72 yX11_needArgument ∈ g_GW := g_mem (i := 221) (by decide +kernel) rfl
theorem w_222 : Cond.static yX11_needArgument ∈ g_GW := g_mem (i := 222) (by decide +kernel) rfl
theorem w_223 : Cond.code yX11_needArgument cX11_needArgument 1 none ∈ g_GW := g_mem (i := 223) (by decide +kernel) rfl
theorem w_224 : Cond.classLink "Quasigrove" 274 "java/lang/IllegalArgumentException" ∈ g_GW := g_mem (i := 224) (by decide +kernel) rfl
theorem w_292 : Cond.methodLink "Quasigrove" 76 yX11_newGrid ∈ g_GW := g_mem (i := 292) (by decide +kernel) rfl
theorem w_294 : Cond.instanceMethod yX11_newGrid ∈ g_GW := g_mem (i := 294) (by decide +kernel) rfl
theorem w_295 : Cond.code yX11_newGrid cX11_newGrid 3 (some (.object "Quasigrove$Grid")) ∈ g_GW := g_mem (i := 295) (by decide +kernel) rfl
theorem w_296 : Cond.classLink "Quasigrove" 261 "java/lang/IllegalStateException" ∈ g_GW := g_mem (i := 296) (by decide +kernel) rfl
theorem w_312 : Cond.methodLink "Quasigrove" 266 yX2_clear ∈ g_GW := g_mem (i := 312) (by decide +kernel) rfl
theorem w_313 : Cond.instanceMethod yX2_clear ∈ g_GW := g_mem (i := 313) (by decide +kernel) rfl
theorem w_314 : Cond.selects "Quasigrove$Grid" yX2_clear yX2_clear ∈ g_GW := g_mem (i := 314) (by decide +kernel) rfl
theorem w_315 : Cond.code yX2_clear cX2_clear 3 none ∈ g_GW := g_mem (i := 315) (by decide +kernel) rfl
theorem w_316 : Cond.methodLink "Quasigrove$Grid" 28 yJ9_min_7cf53 ∈ g_GW := g_mem (i := 316) (by decide +kernel) rfl
theorem w_317 : Cond.static yJ9_min_7cf53 ∈ g_GW := g_mem (i := 317) (by decide +kernel) rfl
theorem w_318 : Cond.code yJ9_min_7cf53 cJ9_min_7cf53 2 (some .int) ∈ g_GW := g_mem (i := 318) (by decide +kernel) rfl
theorem w_319 : Cond.methodLink "Quasigrove$Grid" 34 yJ9_max_7cf53 ∈ g_GW := g_mem (i := 319) (by decide +kernel) rfl
theorem w_320 : Cond.static yJ9_max_7cf53 ∈ g_GW := g_mem (i := 320) (by decide +kernel) rfl
theorem w_321 : Cond.code yJ9_max_7cf53 cJ9_max_7cf53 2 (some .int) ∈ g_GW := g_mem (i := 321) (by decide +kernel) rfl
theorem w_323 : Cond.instanceMethod yX11_linear ∈ g_GW := g_mem (i := 323) (by decide +kernel) rfl
theorem w_324 : Cond.selects "Quasigrove" yX11_linear yX11_linear ∈ g_GW := g_mem (i := 324) (by decide +kernel) rfl
theorem w_325 : Cond.code yX11_linear cX11_linear 8 (some .int) ∈ g_GW := g_mem (i := 325) (by decide +kernel) rfl
theorem w_326 : Cond.methodLink "Quasigrove" 80 yX11_reachesAll ∈ g_GW := g_mem (i := 326) (by decide +kernel) rfl
theorem w_327 : Cond.static yX11_reachesAll ∈ g_GW := g_mem (i := 327) (by decide +kernel) rfl
theorem w_328 : Cond.code yX11_reachesAll cX11_reachesAll 4 (some .boolean) ∈ g_GW := g_mem (i := 328) (by decide +kernel) rfl
theorem w_329 : Cond.methodLink "Quasigrove" 84 yX11_remainder ∈ g_GW := g_mem (i := 329) (by decide +kernel) rfl
theorem w_330 : Cond.static yX11_remainder ∈ g_GW := g_mem (i := 330) (by decide +kernel) rfl
theorem w_331 : Cond.code yX11_remainder cX11_remainder 2 (some .int) ∈ g_GW := g_mem (i := 331) (by decide +kernel) rfl
theorem w_332 : Cond.methodLink "Quasigrove" 88 yX2_set ∈ g_GW := g_mem (i := 332) (by decide +kernel) rfl
theorem w_333 : Cond.instanceMethod yX2_set ∈ g_GW := g_mem (i := 333) (by decide +kernel) rfl
theorem w_334 : Cond.selects "Quasigrove$Grid" yX2_set yX2_set ∈ g_GW := g_mem (i := 334) (by decide +kernel) rfl
theorem w_335 : Cond.code yX2_set cX2_set 5 none ∈ g_GW := g_mem (i := 335) (by decide +kernel) rfl
theorem w_336 : Cond.methodLink "Quasigrove$Grid" 41 yX2_has ∈ g_GW := g_mem (i := 336) (by decide +kernel) rfl
theorem w_337 : Cond.instanceMethod yX2_has ∈ g_GW := g_mem (i := 337) (by decide +kernel) rfl
theorem w_338 : Cond.selects "Quasigrove$Grid" yX2_has yX2_has ∈ g_GW := g_mem (i := 338) (by decide +kernel) rfl
theorem w_339 : Cond.code yX2_has cX2_has 3 (some .boolean) ∈ g_GW := g_mem (i := 339) (by decide +kernel) rfl
theorem w_340 : Cond.methodLink "Quasigrove$Grid" 37 yX2_isLine ∈ g_GW := g_mem (i := 340) (by decide +kernel) rfl
theorem w_342 : Cond.instanceMethod yX2_isLine ∈ g_GW := g_mem (i := 342) (by decide +kernel) rfl
theorem w_343 : Cond.code yX2_isLine cX2_isLine 2 (some .boolean) ∈ g_GW := g_mem (i := 343) (by decide +kernel) rfl
theorem w_345 : Cond.instanceMethod yX11_conjugate ∈ g_GW := g_mem (i := 345) (by decide +kernel) rfl
theorem w_346 : Cond.selects "Quasigrove" yX11_conjugate yX11_conjugate ∈ g_GW := g_mem (i := 346) (by decide +kernel) rfl
theorem w_347 : Cond.code yX11_conjugate cX11_conjugate 8 (some .int) ∈ g_GW := g_mem (i := 347) (by decide +kernel) rfl
theorem w_348 : Cond.methodLink "Quasigrove" 92 yX11_gridAt ∈ g_GW := g_mem (i := 348) (by decide +kernel) rfl
theorem w_350 : Cond.instanceMethod yX11_gridAt ∈ g_GW := g_mem (i := 350) (by decide +kernel) rfl
theorem w_351 : Cond.code yX11_gridAt cX11_gridAt 2 (some (.object "Quasigrove$Grid")) ∈ g_GW := g_mem (i := 351) (by decide +kernel) rfl
theorem w_352 : Cond.classLink "Quasigrove" 254 "java/lang/IndexOutOfBoundsException" ∈ g_GW := g_mem (i := 352) (by decide +kernel) rfl
theorem w_368 : Cond.methodLink "Quasigrove" 102 yX2_signAt ∈ g_GW := g_mem (i := 368) (by decide +kernel) rfl
theorem w_369 : Cond.instanceMethod yX2_signAt ∈ g_GW := g_mem (i := 369) (by decide +kernel) rfl
theorem w_370 : Cond.selects "Quasigrove$Grid" yX2_signAt yX2_signAt ∈ g_GW := g_mem (i := 370) (by decide +kernel) rfl
theorem w_371 : Cond.code yX2_signAt cX2_signAt 3 (some .int) ∈ g_GW := g_mem (i := 371) (by decide +kernel) rfl
theorem w_372 : Cond.methodLink "Quasigrove" 117 yX11_setConjugate ∈ g_GW := g_mem (i := 372) (by decide +kernel) rfl
theorem w_373 : Cond.static yX11_setConjugate ∈ g_GW := g_mem (i := 373) (by decide +kernel) rfl
theorem w_374 : Cond.code yX11_setConjugate cX11_setConjugate 5 none ∈ g_GW := g_mem (i := 374) (by decide +kernel) rfl
theorem w_376 : Cond.instanceMethod yX11_cell ∈ g_GW := g_mem (i := 376) (by decide +kernel) rfl
theorem w_377 : Cond.selects "Quasigrove" yX11_cell yX11_cell ∈ g_GW := g_mem (i := 377) (by decide +kernel) rfl
theorem w_378 : Cond.code yX11_cell cX11_cell 5 (some .int) ∈ g_GW := g_mem (i := 378) (by decide +kernel) rfl
theorem w_379 : Cond.methodLink "Quasigrove" 95 yX11_needCell ∈ g_GW := g_mem (i := 379) (by decide +kernel) rfl
theorem w_380 : Cond.static yX11_needCell ∈ g_GW := g_mem (i := 380) (by decide +kernel) rfl
theorem w_381 : Cond.code yX11_needCell cX11_needCell 3 none ∈ g_GW := g_mem (i := 381) (by decide +kernel) rfl
theorem w_382 : Cond.methodLink "Quasigrove" 269 yX2_has ∈ g_GW := g_mem (i := 382) (by decide +kernel) rfl
theorem w_385 : Cond.instanceMethod yX11_of ∈ g_GW := g_mem (i := 385) (by decide +kernel) rfl
theorem w_386 : Cond.selects "Quasigrove" yX11_of yX11_of ∈ g_GW := g_mem (i := 386) (by decide +kernel) rfl
theorem w_387 : Cond.code yX11_of cX11_of 4 (some .int) ∈ g_GW := g_mem (i := 387) (by decide +kernel) rfl
theorem w_388 : Cond.methodLink "Quasigrove" 124 yX2_deadCells ∈ g_GW := g_mem (i := 388) (by decide +kernel) rfl
theorem w_389 : Cond.instanceMethod yX2_deadCells ∈ g_GW := g_mem (i := 389) (by decide +kernel) rfl
theorem w_390 : Cond.selects "Quasigrove$Grid" yX2_deadCells yX2_deadCells ∈ g_GW := g_mem (i := 390) (by decide +kernel) rfl
theorem w_391 : Cond.code yX2_deadCells cX2_deadCells 4 (some .int) ∈ g_GW := g_mem (i := 391) (by decide +kernel) rfl
theorem w_392 : Cond.methodLink "Quasigrove$Grid" 45 yX2_signAt ∈ g_GW := g_mem (i := 392) (by decide +kernel) rfl
theorem w_393 : Cond.methodLink "Quasigrove$Grid" 58 yX2_optionsAt ∈ g_GW := g_mem (i := 393) (by decide +kernel) rfl
theorem w_394 : Cond.instanceMethod yX2_optionsAt ∈ g_GW := g_mem (i := 394) (by decide +kernel) rfl
theorem w_395 : Cond.selects "Quasigrove$Grid" yX2_optionsAt yX2_optionsAt ∈ g_GW := g_mem (i := 395) (by decide +kernel) rfl
theorem w_396 : Cond.code yX2_optionsAt cX2_optionsAt 3 (some .int) ∈ g_GW := g_mem (i := 396) (by decide +kernel) rfl
theorem w_397 : Cond.methodLink "Quasigrove$Grid" 48 yX2_allSigns ∈ g_GW := g_mem (i := 397) (by decide +kernel) rfl
theorem w_398 : Cond.instanceMethod yX2_allSigns ∈ g_GW := g_mem (i := 398) (by decide +kernel) rfl
theorem w_399 : Cond.selects "Quasigrove$Grid" yX2_allSigns yX2_allSigns ∈ g_GW := g_mem (i := 399) (by decide +kernel) rfl
theorem w_400 : Cond.code yX2_allSigns cX2_allSigns 1 (some .int) ∈ g_GW := g_mem (i := 400) (by decide +kernel) rfl
theorem w_402 : Cond.instanceMethod yX11_distance ∈ g_GW := g_mem (i := 402) (by decide +kernel) rfl
theorem w_403 : Cond.selects "Quasigrove" yX11_distance yX11_distance ∈ g_GW := g_mem (i := 403) (by decide +kernel) rfl
theorem w_404 : Cond.code yX11_distance cX11_distance 8 (some .int) ∈ g_GW := g_mem (i := 404) (by decide +kernel) rfl
theorem w_406 : Cond.instanceMethod yX11_can ∈ g_GW := g_mem (i := 406) (by decide +kernel) rfl
theorem w_407 : Cond.selects "Quasigrove" yX11_can yX11_can ∈ g_GW := g_mem (i := 407) (by decide +kernel) rfl
theorem w_408 : Cond.code yX11_can cX11_can 5 (some .int) ∈ g_GW := g_mem (i := 408) (by decide +kernel) rfl
theorem w_409 : Cond.methodLink "Quasigrove" 150 yX2_optionsAt ∈ g_GW := g_mem (i := 409) (by decide +kernel) rfl
theorem w_411 : Cond.instanceMethod yX11_forced ∈ g_GW := g_mem (i := 411) (by decide +kernel) rfl
theorem w_412 : Cond.selects "Quasigrove" yX11_forced yX11_forced ∈ g_GW := g_mem (i := 412) (by decide +kernel) rfl
theorem w_413 : Cond.code yX11_forced cX11_forced 3 (some .int) ∈ g_GW := g_mem (i := 413) (by decide +kernel) rfl
theorem w_414 : Cond.methodLink "Quasigrove" 170 yX0_firstForced ∈ g_GW := g_mem (i := 414) (by decide +kernel) rfl
theorem w_415 : Cond.static yX0_firstForced ∈ g_GW := g_mem (i := 415) (by decide +kernel) rfl
theorem w_416 : Cond.code yX0_firstForced cX0_firstForced 4 (some .int) ∈ g_GW := g_mem (i := 416) (by decide +kernel) rfl
theorem w_417 : Cond.methodLink "Quasigrove$Filling" 50 yX0_isForced ∈ g_GW := g_mem (i := 417) (by decide +kernel) rfl
theorem w_418 : Cond.static yX0_isForced ∈ g_GW := g_mem (i := 418) (by decide +kernel) rfl
theorem w_419 : Cond.code yX0_isForced cX0_isForced 5 (some .boolean) ∈ g_GW := g_mem (i := 419) (by decide +kernel) rfl
theorem w_420 : Cond.methodLink "Quasigrove$Filling" 25 yX2_optionsAt ∈ g_GW := g_mem (i := 420) (by decide +kernel) rfl
theorem w_421 : Cond.methodLinkNest "Quasigrove$Filling" 29 yX11_isIn "Quasigrove" ∈ g_NW := g_memN (i := 421) (by decide +kernel) rfl
theorem w_422 : Cond.static yX11_isIn ∈ g_GW := g_mem (i := 422) (by decide +kernel) rfl
theorem w_423 : Cond.code yX11_isIn cX11_isIn 2 (some .boolean) ∈ g_GW := g_mem (i := 423) (by decide +kernel) rfl
theorem w_424 : Cond.methodLink "Quasigrove$Filling" 72 yX0_isAloneInRow ∈ g_GW := g_mem (i := 424) (by decide +kernel) rfl
theorem w_425 : Cond.static yX0_isAloneInRow ∈ g_GW := g_mem (i := 425) (by decide +kernel) rfl
theorem w_426 : Cond.code yX0_isAloneInRow cX0_isAloneInRow 5 (some .boolean) ∈ g_GW := g_mem (i := 426) (by decide +kernel) rfl
theorem w_427 : Cond.methodLink "Quasigrove$Filling" 75 yX0_isAloneInColumn ∈ g_GW := g_mem (i := 427) (by decide +kernel) rfl
theorem w_428 : Cond.static yX0_isAloneInColumn ∈ g_GW := g_mem (i := 428) (by decide +kernel) rfl
theorem w_429 : Cond.code yX0_isAloneInColumn cX0_isAloneInColumn 5 (some .boolean) ∈ g_GW := g_mem (i := 429) (by decide +kernel) rfl
theorem w_430 : Cond.methodLink "Quasigrove$Filling" 54 yX6_packed ∈ g_GW := g_mem (i := 430) (by decide +kernel) rfl
theorem w_431 : Cond.static yX6_packed ∈ g_GW := g_mem (i := 431) (by decide +kernel) rfl
theorem w_432 : Cond.code yX6_packed cX6_packed 3 (some .int) ∈ g_GW := g_mem (i := 432) (by decide +kernel) rfl
theorem w_433 : Cond.methodLink "Quasigrove" 174 yX6_told ∈ g_GW := g_mem (i := 433) (by decide +kernel) rfl
theorem w_434 : Cond.static yX6_told ∈ g_GW := g_mem (i := 434) (by decide +kernel) rfl
theorem w_435 : Cond.code yX6_told cX6_told 2 (some .int) ∈ g_GW := g_mem (i := 435) (by decide +kernel) rfl
theorem w_436 : Cond.methodLink "Quasigrove$Move" 9 yX6_row ∈ g_GW := g_mem (i := 436) (by decide +kernel) rfl
theorem w_437 : Cond.static yX6_row ∈ g_GW := g_mem (i := 437) (by decide +kernel) rfl
theorem w_438 : Cond.code yX6_row cX6_row 1 (some .int) ∈ g_GW := g_mem (i := 438) (by decide +kernel) rfl
theorem w_439 : Cond.methodLink "Quasigrove$Move" 15 yX6_column ∈ g_GW := g_mem (i := 439) (by decide +kernel) rfl
theorem w_440 : Cond.static yX6_column ∈ g_GW := g_mem (i := 440) (by decide +kernel) rfl
theorem w_441 : Cond.code yX6_column cX6_column 1 (some .int) ∈ g_GW := g_mem (i := 441) (by decide +kernel) rfl
theorem w_442 : Cond.methodLink "Quasigrove$Move" 18 yX6_sign ∈ g_GW := g_mem (i := 442) (by decide +kernel) rfl
theorem w_443 : Cond.static yX6_sign ∈ g_GW := g_mem (i := 443) (by decide +kernel) rfl
theorem w_444 : Cond.code yX6_sign cX6_sign 1 (some .int) ∈ g_GW := g_mem (i := 444) (by decide +kernel) rfl
theorem w_446 : Cond.instanceMethod yX11_logic ∈ g_GW := g_mem (i := 446) (by decide +kernel) rfl
theorem w_447 : Cond.selects "Quasigrove" yX11_logic yX11_logic ∈ g_GW := g_mem (i := 447) (by decide +kernel) rfl
theorem w_448 : Cond.code yX11_logic cX11_logic 2 (some .int) ∈ g_GW := g_mem (i := 448) (by decide +kernel) rfl
theorem w_449 : Cond.methodLink "Quasigrove" 153 yX2_copy ∈ g_GW := g_mem (i := 449) (by decide +kernel) rfl
theorem w_450 : Cond.instanceMethod yX2_copy ∈ g_GW := g_mem (i := 450) (by decide +kernel) rfl
theorem w_451 : Cond.selects "Quasigrove$Grid" yX2_copy yX2_copy ∈ g_GW := g_mem (i := 451) (by decide +kernel) rfl
theorem w_452 : Cond.code yX2_copy cX2_copy 3 none ∈ g_GW := g_mem (i := 452) (by decide +kernel) rfl
theorem w_453 : Cond.methodLink "Quasigrove" 179 yX0_fillForced ∈ g_GW := g_mem (i := 453) (by decide +kernel) rfl
theorem w_454 : Cond.static yX0_fillForced ∈ g_GW := g_mem (i := 454) (by decide +kernel) rfl
theorem w_455 : Cond.code yX0_fillForced cX0_fillForced 3 (some .int) ∈ g_GW := g_mem (i := 455) (by decide +kernel) rfl
theorem w_456 : Cond.methodLink "Quasigrove$Filling" 60 yX0_firstForced ∈ g_GW := g_mem (i := 456) (by decide +kernel) rfl
theorem w_457 : Cond.methodLink "Quasigrove$Filling" 63 yX6_row ∈ g_GW := g_mem (i := 457) (by decide +kernel) rfl
theorem w_458 : Cond.methodLink "Quasigrove$Filling" 66 yX6_column ∈ g_GW := g_mem (i := 458) (by decide +kernel) rfl
theorem w_459 : Cond.methodLink "Quasigrove$Filling" 69 yX6_sign ∈ g_GW := g_mem (i := 459) (by decide +kernel) rfl
theorem w_460 : Cond.methodLink "Quasigrove$Filling" 33 yX2_set ∈ g_GW := g_mem (i := 460) (by decide +kernel) rfl
theorem w_462 : Cond.static yL_up ∈ g_GW := g_mem (i := 462) (by decide +kernel) rfl
theorem w_463 : Cond.code yL_up cL_up 2 (some .int) ∈ g_GW := g_mem (i := 463) (by decide +kernel) rfl
theorem w_473 : Cond.static yL_told ∈ g_GW := g_mem (i := 473) (by decide +kernel) rfl
theorem w_474 : Cond.code yL_told cL_told 6 (some .int) ∈ g_GW := g_mem (i := 474) (by decide +kernel) rfl
theorem w_475 : Cond.methodLink "QuasigroveLaw" 7 yX11_put ∈ g_GW := g_mem (i := 475) (by decide +kernel) rfl
theorem w_476 : Cond.instanceMethod yX11_put ∈ g_GW := g_mem (i := 476) (by decide +kernel) rfl
theorem w_477 : Cond.selects "Quasigrove" yX11_put yX11_put ∈ g_GW := g_mem (i := 477) (by decide +kernel) rfl
theorem w_478 : Cond.code yX11_put cX11_put 7 (some .int) ∈ g_GW := g_mem (i := 478) (by decide +kernel) rfl
theorem w_479 : Cond.methodLink "Quasigrove" 105 yX2_hasInLines ∈ g_GW := g_mem (i := 479) (by decide +kernel) rfl
theorem w_480 : Cond.instanceMethod yX2_hasInLines ∈ g_GW := g_mem (i := 480) (by decide +kernel) rfl
theorem w_481 : Cond.selects "Quasigrove$Grid" yX2_hasInLines yX2_hasInLines ∈ g_GW := g_mem (i := 481) (by decide +kernel) rfl
theorem w_482 : Cond.code yX2_hasInLines cX2_hasInLines 4 (some .boolean) ∈ g_GW := g_mem (i := 482) (by decide +kernel) rfl
theorem w_483 : Cond.methodLinkNest "Quasigrove$Grid" 52 yX11_isIn "Quasigrove" ∈ g_NW := g_memN (i := 483) (by decide +kernel) rfl
theorem w_484 : Cond.methodLink "Quasigrove" 108 yX11_needState ∈ g_GW := g_mem (i := 484) (by decide +kernel) rfl
theorem w_485 : Cond.static yX11_needState ∈ g_GW := g_mem (i := 485) (by decide +kernel) rfl
theorem w_486 : Cond.code yX11_needState cX11_needState 1 none ∈ g_GW := g_mem (i := 486) (by decide +kernel) rfl
theorem w_488 : Cond.methodLink "QuasigroveLaw" 13 yX11_turn ∈ g_GW := g_mem (i := 488) (by decide +kernel) rfl
theorem w_489 : Cond.instanceMethod yX11_turn ∈ g_GW := g_mem (i := 489) (by decide +kernel) rfl
theorem w_490 : Cond.selects "Quasigrove" yX11_turn yX11_turn ∈ g_GW := g_mem (i := 490) (by decide +kernel) rfl
theorem w_491 : Cond.code yX11_turn cX11_turn 6 (some .int) ∈ g_GW := g_mem (i := 491) (by decide +kernel) rfl
theorem w_492 : Cond.methodLink "Quasigrove" 128 yX2_isRowFull ∈ g_GW := g_mem (i := 492) (by decide +kernel) rfl
theorem w_493 : Cond.instanceMethod yX2_isRowFull ∈ g_GW := g_mem (i := 493) (by decide +kernel) rfl
theorem w_494 : Cond.selects "Quasigrove$Grid" yX2_isRowFull yX2_isRowFull ∈ g_GW := g_mem (i := 494) (by decide +kernel) rfl
theorem w_495 : Cond.code yX2_isRowFull cX2_isRowFull 2 (some .boolean) ∈ g_GW := g_mem (i := 495) (by decide +kernel) rfl
theorem w_496 : Cond.methodLink "Quasigrove" 132 yX2_turnRows ∈ g_GW := g_mem (i := 496) (by decide +kernel) rfl
theorem w_497 : Cond.instanceMethod yX2_turnRows ∈ g_GW := g_mem (i := 497) (by decide +kernel) rfl
theorem w_498 : Cond.selects "Quasigrove$Grid" yX2_turnRows yX2_turnRows ∈ g_GW := g_mem (i := 498) (by decide +kernel) rfl
theorem w_499 : Cond.code yX2_turnRows cX2_turnRows 7 (some .int) ∈ g_GW := g_mem (i := 499) (by decide +kernel) rfl
theorem w_500 : Cond.methodLink "Quasigrove$Grid" 61 yX2_columnOf ∈ g_GW := g_mem (i := 500) (by decide +kernel) rfl
theorem w_501 : Cond.instanceMethod yX2_columnOf ∈ g_GW := g_mem (i := 501) (by decide +kernel) rfl
theorem w_502 : Cond.selects "Quasigrove$Grid" yX2_columnOf yX2_columnOf ∈ g_GW := g_mem (i := 502) (by decide +kernel) rfl
theorem w_503 : Cond.code yX2_columnOf cX2_columnOf 4 (some .int) ∈ g_GW := g_mem (i := 503) (by decide +kernel) rfl
theorem w_504 : Cond.methodLink "Quasigrove$Grid" 64 yX2_exchange ∈ g_GW := g_mem (i := 504) (by decide +kernel) rfl
theorem w_506 : Cond.instanceMethod yX2_exchange ∈ g_GW := g_mem (i := 506) (by decide +kernel) rfl
theorem w_507 : Cond.code yX2_exchange cX2_exchange 5 none ∈ g_GW := g_mem (i := 507) (by decide +kernel) rfl
theorem w_508 : Cond.methodLink "QuasigroveLaw" 26 yL_set ∈ g_GW := g_mem (i := 508) (by decide +kernel) rfl
theorem w_509 : Cond.static yL_set ∈ g_GW := g_mem (i := 509) (by decide +kernel) rfl
theorem w_510 : Cond.code yL_set cL_set 7 (some .int) ∈ g_GW := g_mem (i := 510) (by decide +kernel) rfl
theorem w_512 : Cond.static yL_forced ∈ g_GW := g_mem (i := 512) (by decide +kernel) rfl
theorem w_513 : Cond.code yL_forced cL_forced 8 (some .int) ∈ g_GW := g_mem (i := 513) (by decide +kernel) rfl
