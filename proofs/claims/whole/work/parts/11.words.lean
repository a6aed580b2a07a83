theorem w_6 : Cond.selects "Quasigrove$Grid" yX2_isLine yX2_isLine ∈ g_GW := g_mem (i := 6) (by decide +kernel) rfl
theorem w_8 : Cond.selects "Quasigrove$Grid" yX2_exchange yX2_exchange ∈ g_GW := g_mem (i := 8) (by decide +kernel) rfl
theorem w_72 : Cond.initialized "Quasigrove" ∈ g_GW := g_mem (i := 72) (by decide +kernel) rfl
theorem w_73 : Cond.initialized "Quasigrove$Grid" ∈ g_GW := g_mem (i := 73) (by decide +kernel) rfl
theorem w_86 : Cond.initialized "java/lang/Math" ∈ g_GW := g_mem (i := 86) (by decide +kernel) rfl
theorem w_108 : Cond.fieldLink "Quasigrove$Grid" 9 "Quasigrove$Grid" "signs" "[I" ∈ g_GW := g_mem (i := 108) (by decide +kernel) rfl
theorem w_109 : Cond.fieldLink "Quasigrove$Grid" 15 "Quasigrove$Grid" "rowSets" "[I" ∈ g_GW := g_mem (i := 109) (by decide +kernel) rfl
theorem w_110 : Cond.fieldLink "Quasigrove$Grid" 18 "Quasigrove$Grid" "columnSets" "[I" ∈ g_GW := g_mem (i := 110) (by decide +kernel) rfl
theorem w_111 : Cond.fieldLink "Quasigrove$Grid" 21 "Quasigrove$Grid" "order" "I" ∈ g_GW := g_mem (i := 111) (by decide +kernel) rfl
theorem w_121 : Cond.fieldLink "Quasigrove$Grid" 25 "Quasigrove$Grid" "filled" "I" ∈ g_GW := g_mem (i := 121) (by decide +kernel) rfl
theorem w_420 : Cond.instanceMethod yX2_clear ∈ g_GW := g_mem (i := 420) (by decide +kernel) rfl
theorem w_421 : Cond.selects "Quasigrove$Grid" yX2_clear yX2_clear ∈ g_GW := g_mem (i := 421) (by decide +kernel) rfl
theorem w_422 : Cond.code yX2_clear cX2_clear 3 none ∈ g_GW := g_mem (i := 422) (by decide +kernel) rfl
theorem w_423 : Cond.methodLink "Quasigrove$Grid" 28 yJ9_min_7cf53 ∈ g_GW := g_mem (i := 423) (by decide +kernel) rfl
theorem w_424 : Cond.static yJ9_min_7cf53 ∈ g_GW := g_mem (i := 424) (by decide +kernel) rfl
theorem w_425 : Cond.code yJ9_min_7cf53 cJ9_min_7cf53 2 (some .int) ∈ g_GW := g_mem (i := 425) (by decide +kernel) rfl
theorem w_426 : Cond.methodLink "Quasigrove$Grid" 34 yJ9_max_7cf53 ∈ g_GW := g_mem (i := 426) (by decide +kernel) rfl
theorem w_427 : Cond.static yJ9_max_7cf53 ∈ g_GW := g_mem (i := 427) (by decide +kernel) rfl
theorem w_428 : Cond.code yJ9_max_7cf53 cJ9_max_7cf53 2 (some .int) ∈ g_GW := g_mem (i := 428) (by decide +kernel) rfl
theorem w_443 : Cond.instanceMethod yX2_set ∈ g_GW := g_mem (i := 443) (by decide +kernel) rfl
theorem w_444 : Cond.selects "Quasigrove$Grid" yX2_set yX2_set ∈ g_GW := g_mem (i := 444) (by decide +kernel) rfl
theorem w_445 : Cond.code yX2_set cX2_set 5 none ∈ g_GW := g_mem (i := 445) (by decide +kernel) rfl
theorem w_446 : Cond.methodLink "Quasigrove$Grid" 41 yX2_has ∈ g_GW := g_mem (i := 446) (by decide +kernel) rfl
theorem w_447 : Cond.instanceMethod yX2_has ∈ g_GW := g_mem (i := 447) (by decide +kernel) rfl
theorem w_448 : Cond.selects "Quasigrove$Grid" yX2_has yX2_has ∈ g_GW := g_mem (i := 448) (by decide +kernel) rfl
theorem w_449 : Cond.code yX2_has cX2_has 3 (some .boolean) ∈ g_GW := g_mem (i := 449) (by decide +kernel) rfl
theorem w_450 : Cond.methodLink "Quasigrove$Grid" 37 yX2_isLine ∈ g_GW := g_mem (i := 450) (by decide +kernel) rfl
theorem w_452 : Cond.instanceMethod yX2_isLine ∈ g_GW := g_mem (i := 452) (by decide +kernel) rfl
theorem w_453 : Cond.code yX2_isLine cX2_isLine 2 (some .boolean) ∈ g_GW := g_mem (i := 453) (by decide +kernel) rfl
theorem w_488 : Cond.instanceMethod yX2_signAt ∈ g_GW := g_mem (i := 488) (by decide +kernel) rfl
theorem w_489 : Cond.selects "Quasigrove$Grid" yX2_signAt yX2_signAt ∈ g_GW := g_mem (i := 489) (by decide +kernel) rfl
theorem w_490 : Cond.code yX2_signAt cX2_signAt 3 (some .int) ∈ g_GW := g_mem (i := 490) (by decide +kernel) rfl
theorem w_492 : Cond.instanceMethod yX2_hasInLines ∈ g_GW := g_mem (i := 492) (by decide +kernel) rfl
theorem w_493 : Cond.selects "Quasigrove$Grid" yX2_hasInLines yX2_hasInLines ∈ g_GW := g_mem (i := 493) (by decide +kernel) rfl
theorem w_494 : Cond.code yX2_hasInLines cX2_hasInLines 4 (some .boolean) ∈ g_GW := g_mem (i := 494) (by decide +kernel) rfl
theorem w_495 : Cond.methodLinkNest "Quasigrove$Grid" 52 yX11_isIn "Quasigrove" ∈ g_NW := g_memN (i := 495) (by decide +kernel) rfl
theorem w_496 : Cond.static yX11_isIn ∈ g_GW := g_mem (i := 496) (by decide +kernel) rfl
theorem w_497 : Cond.code yX11_isIn cX11_isIn 2 (some .boolean) ∈ g_GW := g_mem (i := 497) (by decide +kernel) rfl
theorem w_552 : Cond.instanceMethod yX2_deadCells ∈ g_GW := g_mem (i := 552) (by decide +kernel) rfl
theorem w_553 : Cond.selects "Quasigrove$Grid" yX2_deadCells yX2_deadCells ∈ g_GW := g_mem (i := 553) (by decide +kernel) rfl
theorem w_554 : Cond.code yX2_deadCells cX2_deadCells 4 (some .int) ∈ g_GW := g_mem (i := 554) (by decide +kernel) rfl
theorem w_555 : Cond.methodLink "Quasigrove$Grid" 45 yX2_signAt ∈ g_GW := g_mem (i := 555) (by decide +kernel) rfl
theorem w_556 : Cond.methodLink "Quasigrove$Grid" 58 yX2_optionsAt ∈ g_GW := g_mem (i := 556) (by decide +kernel) rfl
theorem w_557 : Cond.instanceMethod yX2_optionsAt ∈ g_GW := g_mem (i := 557) (by decide +kernel) rfl
theorem w_558 : Cond.selects "Quasigrove$Grid" yX2_optionsAt yX2_optionsAt ∈ g_GW := g_mem (i := 558) (by decide +kernel) rfl
theorem w_559 : Cond.code yX2_optionsAt cX2_optionsAt 3 (some .int) ∈ g_GW := g_mem (i := 559) (by decide +kernel) rfl
theorem w_560 : Cond.methodLink "Quasigrove$Grid" 48 yX2_allSigns ∈ g_GW := g_mem (i := 560) (by decide +kernel) rfl
theorem w_561 : Cond.instanceMethod yX2_allSigns ∈ g_GW := g_mem (i := 561) (by decide +kernel) rfl
theorem w_562 : Cond.selects "Quasigrove$Grid" yX2_allSigns yX2_allSigns ∈ g_GW := g_mem (i := 562) (by decide +kernel) rfl
theorem w_563 : Cond.code yX2_allSigns cX2_allSigns 1 (some .int) ∈ g_GW := g_mem (i := 563) (by decide +kernel) rfl
theorem w_579 : Cond.instanceMethod yX2_isRowFull ∈ g_GW := g_mem (i := 579) (by decide +kernel) rfl
theorem w_580 : Cond.selects "Quasigrove$Grid" yX2_isRowFull yX2_isRowFull ∈ g_GW := g_mem (i := 580) (by decide +kernel) rfl
theorem w_581 : Cond.code yX2_isRowFull cX2_isRowFull 2 (some .boolean) ∈ g_GW := g_mem (i := 581) (by decide +kernel) rfl
theorem w_583 : Cond.instanceMethod yX2_turnRows ∈ g_GW := g_mem (i := 583) (by decide +kernel) rfl
theorem w_584 : Cond.selects "Quasigrove$Grid" yX2_turnRows yX2_turnRows ∈ g_GW := g_mem (i := 584) (by decide +kernel) rfl
theorem w_585 : Cond.code yX2_turnRows cX2_turnRows 7 (some .int) ∈ g_GW := g_mem (i := 585) (by decide +kernel) rfl
theorem w_586 : Cond.methodLink "Quasigrove$Grid" 61 yX2_columnOf ∈ g_GW := g_mem (i := 586) (by decide +kernel) rfl
theorem w_587 : Cond.instanceMethod yX2_columnOf ∈ g_GW := g_mem (i := 587) (by decide +kernel) rfl
theorem w_588 : Cond.selects "Quasigrove$Grid" yX2_columnOf yX2_columnOf ∈ g_GW := g_mem (i := 588) (by decide +kernel) rfl
theorem w_589 : Cond.code yX2_columnOf cX2_columnOf 4 (some .int) ∈ g_GW := g_mem (i := 589) (by decide +kernel) rfl
theorem w_590 : Cond.methodLink "Quasigrove$Grid" 64 yX2_exchange ∈ g_GW := g_mem (i := 590) (by decide +kernel) rfl
theorem w_592 : Cond.instanceMethod yX2_exchange ∈ g_GW := g_mem (i := 592) (by decide +kernel) rfl
theorem w_593 : Cond.code yX2_exchange cX2_exchange 5 none ∈ g_GW := g_mem (i := 593) (by decide +kernel) rfl
theorem w_602 : Cond.instanceMethod yX2_isSquare ∈ g_GW := g_mem (i := 602) (by decide +kernel) rfl
theorem w_603 : Cond.selects "Quasigrove$Grid" yX2_isSquare yX2_isSquare ∈ g_GW := g_mem (i := 603) (by decide +kernel) rfl
theorem w_604 : Cond.code yX2_isSquare cX2_isSquare 1 (some .boolean) ∈ g_GW := g_mem (i := 604) (by decide +kernel) rfl
theorem w_605 : Cond.methodLink "Quasigrove$Grid" 55 yX2_emptyCells ∈ g_GW := g_mem (i := 605) (by decide +kernel) rfl
theorem w_606 : Cond.instanceMethod yX2_emptyCells ∈ g_GW := g_mem (i := 606) (by decide +kernel) rfl
theorem w_607 : Cond.selects "Quasigrove$Grid" yX2_emptyCells yX2_emptyCells ∈ g_GW := g_mem (i := 607) (by decide +kernel) rfl
theorem w_608 : Cond.code yX2_emptyCells cX2_emptyCells 1 (some .int) ∈ g_GW := g_mem (i := 608) (by decide +kernel) rfl
theorem w_631 : Cond.instanceMethod yX2_copy ∈ g_GW := g_mem (i := 631) (by decide +kernel) rfl
theorem w_632 : Cond.selects "Quasigrove$Grid" yX2_copy yX2_copy ∈ g_GW := g_mem (i := 632) (by decide +kernel) rfl
theorem w_633 : Cond.code yX2_copy cX2_copy 3 none ∈ g_GW := g_mem (i := 633) (by decide +kernel) rfl
theorem w_999 : Cond.instanceMethod yX2_isLowerThan ∈ g_GW := g_mem (i := 999) (by decide +kernel) rfl
theorem w_1000 : Cond.selects "Quasigrove$Grid" yX2_isLowerThan yX2_isLowerThan ∈ g_GW := g_mem (i := 1000) (by decide +kernel) rfl
theorem w_1001 : Cond.code yX2_isLowerThan cX2_isLowerThan 3 (some .boolean) ∈ g_GW := g_mem (i := 1001) (by decide +kernel) rfl
