set_option maxRecDepth 100000 in
theorem w_56 : Cond.initialized RJ9 ∈ gw := gw_in 56 (by decide +kernel) rfl
set_option maxRecDepth 100000 in
theorem w_74 : Cond.fieldLink RX1 9 "RationalProgram$Sheet" "variables" "I" ∈ gw := gw_in 74 (by decide +kernel) rfl
set_option maxRecDepth 100000 in
theorem w_75 : Cond.fieldLink RX2 119 "RationalProgram$Sheet" "variables" "I" ∈ gw := gw_in 75 (by decide +kernel) rfl
set_option maxRecDepth 100000 in
theorem w_76 : Cond.fieldLink RX1 15 "RationalProgram$Sheet" "rows" "I" ∈ gw := gw_in 76 (by decide +kernel) rfl
set_option maxRecDepth 100000 in
theorem w_77 : Cond.fieldLink RX0 46 "RationalProgram$Sheet" "rows" "I" ∈ gw := gw_in 77 (by decide +kernel) rfl
set_option maxRecDepth 100000 in
theorem w_78 : Cond.fieldLink RX2 108 "RationalProgram$Sheet" "rows" "I" ∈ gw := gw_in 78 (by decide +kernel) rfl
set_option maxRecDepth 100000 in
theorem w_79 : Cond.fieldLink RX1 20 "RationalProgram$Sheet" "entries" "[[J" ∈ gw := gw_in 79 (by decide +kernel) rfl
set_option maxRecDepth 100000 in
theorem w_80 : Cond.fieldLink RX1 23 "RationalProgram$Sheet" "senses" "[I" ∈ gw := gw_in 80 (by decide +kernel) rfl
set_option maxRecDepth 100000 in
theorem w_81 : Cond.fieldLink RX1 27 "RationalProgram$Sheet" "rights" "[I" ∈ gw := gw_in 81 (by decide +kernel) rfl
set_option maxRecDepth 100000 in
theorem w_82 : Cond.fieldLink RX1 30 "RationalProgram$Sheet" "drifts" "[I" ∈ gw := gw_in 82 (by decide +kernel) rfl
set_option maxRecDepth 100000 in
theorem w_83 : Cond.fieldLink RX1 33 "RationalProgram$Sheet" "wants" "[I" ∈ gw := gw_in 83 (by decide +kernel) rfl
set_option maxRecDepth 100000 in
theorem w_108 : Cond.fieldLink RX0 11 "RationalProgram$Cone" "rays" "[[J" ∈ gw := gw_in 108 (by decide +kernel) rfl
set_option maxRecDepth 100000 in
theorem w_109 : Cond.fieldLink RX2 115 "RationalProgram$Cone" "rays" "[[J" ∈ gw := gw_in 109 (by decide +kernel) rfl
set_option maxRecDepth 100000 in
theorem w_110 : Cond.fieldLink RX0 16 "RationalProgram$Cone" "count" "I" ∈ gw := gw_in 110 (by decide +kernel) rfl
set_option maxRecDepth 100000 in
theorem w_111 : Cond.fieldLink RX2 126 "RationalProgram$Cone" "count" "I" ∈ gw := gw_in 111 (by decide +kernel) rfl
set_option maxRecDepth 100000 in
theorem w_112 : Cond.fieldLink RX0 20 "RationalProgram$Cone" "collected" "I" ∈ gw := gw_in 112 (by decide +kernel) rfl
set_option maxRecDepth 100000 in
theorem w_113 : Cond.fieldLink RX0 23 "RationalProgram$Cone" "grid" "[[J" ∈ gw := gw_in 113 (by decide +kernel) rfl
set_option maxRecDepth 100000 in
theorem w_114 : Cond.fieldLink RX0 26 "RationalProgram$Cone" "places" "[I" ∈ gw := gw_in 114 (by decide +kernel) rfl
set_option maxRecDepth 100000 in
theorem w_115 : Cond.fieldLink RX0 30 "RationalProgram$Cone" "parts" "[J" ∈ gw := gw_in 115 (by decide +kernel) rfl
set_option maxRecDepth 100000 in
theorem w_129 : Cond.fieldLink RX2 12 "RationalProgram" "sheet" "LRationalProgram$Sheet;" ∈ gw := gw_in 129 (by decide +kernel) rfl
set_option maxRecDepth 100000 in
theorem w_130 : Cond.fieldLink RX2 19 "RationalProgram" "cone" "LRationalProgram$Cone;" ∈ gw := gw_in 130 (by decide +kernel) rfl
set_option maxRecDepth 100000 in
theorem w_131 : Cond.fieldLink RX2 23 "RationalProgram" "bends" "[I" ∈ gw := gw_in 131 (by decide +kernel) rfl
set_option maxRecDepth 100000 in
theorem w_143 : Cond.methodLink RX2 63 yX1_allRows ∈ gw := gw_in 143 (by decide +kernel) rfl
set_option maxRecDepth 100000 in
theorem w_147 : Cond.methodLink RX2 67 yX2_isFeasible ∈ gw := gw_in 147 (by decide +kernel) rfl
set_option maxRecDepth 100000 in
theorem w_151 : Cond.methodLink RX2 122 yX0_collect ∈ gw := gw_in 151 (by decide +kernel) rfl
set_option maxRecDepth 100000 in
theorem w_155 : Cond.methodLink RX0 34 yX1_columns ∈ gw := gw_in 155 (by decide +kernel) rfl
set_option maxRecDepth 100000 in
theorem w_159 : Cond.methodLink RX0 40 yJ6_bitCount_0f7a4 ∈ gw := gw_in 159 (by decide +kernel) rfl
set_option maxRecDepth 100000 in
theorem w_162 : Cond.constant RJ6 265 (1431655765) ∈ gw := gw_in 162 (by decide +kernel) rfl
set_option maxRecDepth 100000 in
theorem w_163 : Cond.constant RJ6 266 (858993459) ∈ gw := gw_in 163 (by decide +kernel) rfl
set_option maxRecDepth 100000 in
theorem w_164 : Cond.constant RJ6 267 (252645135) ∈ gw := gw_in 164 (by decide +kernel) rfl
set_option maxRecDepth 100000 in
theorem w_165 : Cond.methodLink RX0 49 yX0_tryRay ∈ gw := gw_in 165 (by decide +kernel) rfl
set_option maxRecDepth 100000 in
theorem w_169 : Cond.methodLink RX0 53 yX0_placeColumns ∈ gw := gw_in 169 (by decide +kernel) rfl
set_option maxRecDepth 100000 in
theorem w_173 : Cond.methodLink RX0 56 yX0_fillGrid ∈ gw := gw_in 173 (by decide +kernel) rfl
set_option maxRecDepth 100000 in
theorem w_177 : Cond.methodLink RX0 68 yX1_entry ∈ gw := gw_in 177 (by decide +kernel) rfl
set_option maxRecDepth 100000 in
theorem w_181 : Cond.methodLink RX0 60 yX0_findParts ∈ gw := gw_in 181 (by decide +kernel) rfl
set_option maxRecDepth 100000 in
theorem w_185 : Cond.methodLink RX0 72 yX0_cofactor ∈ gw := gw_in 185 (by decide +kernel) rfl
set_option maxRecDepth 100000 in
theorem w_189 : Cond.constantLong RX0 76 (-1) ∈ gw := gw_in 189 (by decide +kernel) rfl
set_option maxRecDepth 100000 in
theorem w_190 : Cond.methodLink RX0 64 yX1_holds ∈ gw := gw_in 190 (by decide +kernel) rfl
set_option maxRecDepth 100000 in
theorem w_194 : Cond.methodLink RX1 40 yX1_excess ∈ gw := gw_in 194 (by decide +kernel) rfl
set_option maxRecDepth 100000 in
theorem w_198 : Cond.methodLink RX1 44 yX1_fits ∈ gw := gw_in 198 (by decide +kernel) rfl
set_option maxRecDepth 100000 in
theorem w_201 : Cond.methodLink RX2 129 yX2_isPoint ∈ gw := gw_in 201 (by decide +kernel) rfl
set_option maxRecDepth 100000 in
theorem w_204 : Cond.methodLink RX2 70 yX2_canRise ∈ gw := gw_in 204 (by decide +kernel) rfl
set_option maxRecDepth 100000 in
theorem w_208 : Cond.methodLink RX2 133 yX2_isDirection ∈ gw := gw_in 208 (by decide +kernel) rfl
set_option maxRecDepth 100000 in
theorem w_211 : Cond.methodLink RX2 87 yX1_worth ∈ gw := gw_in 211 (by decide +kernel) rfl
set_option maxRecDepth 100000 in
theorem w_219 : Cond.methodLink RX2 112 yX2_traceBends ∈ gw := gw_in 219 (by decide +kernel) rfl
set_option maxRecDepth 100000 in
theorem w_223 : Cond.methodLink RX2 157 yX2_earliestRay ∈ gw := gw_in 223 (by decide +kernel) rfl
set_option maxRecDepth 100000 in
theorem w_227 : Cond.methodLink RX2 164 yX2_isEarlier ∈ gw := gw_in 227 (by decide +kernel) rfl
set_option maxRecDepth 100000 in
theorem w_231 : Cond.methodLink RX2 167 yX2_compareTimes ∈ gw := gw_in 231 (by decide +kernel) rfl
set_option maxRecDepth 100000 in
theorem w_234 : Cond.methodLink RX2 140 yJ13_compare_74951 ∈ gw := gw_in 234 (by decide +kernel) rfl
set_option maxRecDepth 100000 in
theorem w_237 : Cond.methodLink RX2 160 yX2_followingRay ∈ gw := gw_in 237 (by decide +kernel) rfl
set_option maxRecDepth 100000 in
theorem w_241 : Cond.methodLink RX2 171 yX2_isSteeper ∈ gw := gw_in 241 (by decide +kernel) rfl
set_option maxRecDepth 100000 in
theorem w_245 : Cond.methodLink RX2 175 yX2_liftAbove ∈ gw := gw_in 245 (by decide +kernel) rfl
set_option maxRecDepth 100000 in
theorem w_321 : Cond.methodLink RX2 30 yX1_clear ∈ gw := gw_in 321 (by decide +kernel) rfl
set_option maxRecDepth 100000 in
theorem w_325 : Cond.methodLink RX2 34 yX0_forget ∈ gw := gw_in 325 (by decide +kernel) rfl
set_option maxRecDepth 100000 in
theorem w_337 : Cond.methodLink RX2 37 yX2_hasRow ∈ gw := gw_in 337 (by decide +kernel) rfl
set_option maxRecDepth 100000 in
theorem w_341 : Cond.methodLink RX2 41 yX2_hasVariable ∈ gw := gw_in 341 (by decide +kernel) rfl
set_option maxRecDepth 100000 in
theorem w_360 : Cond.methodLink RX2 47 yX2_isFactor ∈ gw := gw_in 360 (by decide +kernel) rfl
set_option maxRecDepth 100000 in
theorem w_363 : Cond.methodLink RX2 50 yX1_setFactor ∈ gw := gw_in 363 (by decide +kernel) rfl
set_option maxRecDepth 100000 in
theorem w_374 : Cond.methodLink RX2 54 yX1_setRow ∈ gw := gw_in 374 (by decide +kernel) rfl
set_option maxRecDepth 100000 in
theorem w_378 : Cond.methodLink RX1 36 yX1_enterRight ∈ gw := gw_in 378 (by decide +kernel) rfl
set_option maxRecDepth 100000 in
theorem w_389 : Cond.methodLink RX2 57 yX1_setWant ∈ gw := gw_in 389 (by decide +kernel) rfl
set_option maxRecDepth 100000 in
theorem w_400 : Cond.methodLink RX2 60 yX1_setDrift ∈ gw := gw_in 400 (by decide +kernel) rfl
set_option maxRecDepth 100000 in
theorem w_412 : Cond.methodLink RX2 74 yX2_solve ∈ gw := gw_in 412 (by decide +kernel) rfl
set_option maxRecDepth 100000 in
theorem w_428 : Cond.methodLink RX2 80 yX2_isPart ∈ gw := gw_in 428 (by decide +kernel) rfl
set_option maxRecDepth 100000 in
theorem w_431 : Cond.methodLink RX2 83 yX2_bestRay ∈ gw := gw_in 431 (by decide +kernel) rfl
set_option maxRecDepth 100000 in
theorem w_435 : Cond.methodLink RX2 136 yX2_isBetter ∈ gw := gw_in 435 (by decide +kernel) rfl
set_option maxRecDepth 100000 in
theorem w_439 : Cond.methodLink RX2 146 yX1_columns ∈ gw := gw_in 439 (by decide +kernel) rfl
set_option maxRecDepth 100000 in
theorem w_440 : Cond.methodLink RX2 91 yX2_partOf ∈ gw := gw_in 440 (by decide +kernel) rfl
set_option maxRecDepth 100000 in
theorem w_443 : Cond.methodLink RX2 179 yJ9_abs_067f4 ∈ gw := gw_in 443 (by decide +kernel) rfl
set_option maxRecDepth 100000 in
theorem w_444 : Cond.static yJ9_abs_067f4 ∈ gw := gw_in 444 (by decide +kernel) rfl
set_option maxRecDepth 100000 in
theorem w_445 : Cond.code yJ9_abs_067f4 cJ9_abs_067f4 2 (some .long) ∈ gw := gw_in 445 rfl rfl
set_option maxRecDepth 100000 in
theorem w_446 : Cond.methodLink RX2 185 yX2_commonDivisor ∈ gw := gw_in 446 (by decide +kernel) rfl
set_option maxRecDepth 100000 in
theorem w_449 : Cond.methodLink RX2 189 yJ9_max_f86c9 ∈ gw := gw_in 449 (by decide +kernel) rfl
set_option maxRecDepth 100000 in
theorem w_450 : Cond.static yJ9_max_f86c9 ∈ gw := gw_in 450 (by decide +kernel) rfl
set_option maxRecDepth 100000 in
theorem w_451 : Cond.code yJ9_max_f86c9 cJ9_max_f86c9 4 (some .long) ∈ gw := gw_in 451 rfl rfl
set_option maxRecDepth 100000 in
theorem w_467 : Cond.methodLink RX2 95 yX2_canGrow ∈ gw := gw_in 467 (by decide +kernel) rfl
set_option maxRecDepth 100000 in
theorem w_486 : Cond.methodLink RX2 101 yX2_extremeRay ∈ gw := gw_in 486 (by decide +kernel) rfl
set_option maxRecDepth 100000 in
theorem w_490 : Cond.methodLink RX2 149 yX2_isFarther ∈ gw := gw_in 490 (by decide +kernel) rfl
set_option maxRecDepth 100000 in
theorem w_500 : Cond.methodLink RX2 105 yX2_isSharpInBest ∈ gw := gw_in 500 (by decide +kernel) rfl
set_option maxRecDepth 100000 in
theorem w_504 : Cond.methodLink RX2 153 yX1_excess ∈ gw := gw_in 504 (by decide +kernel) rfl
set_option maxRecDepth 100000 in
theorem w_525 : Cond.fieldLink RX3 7 "RationalProgramModel" "n" "I" ∈ gw := gw_in 525 (by decide +kernel) rfl
set_option maxRecDepth 100000 in
theorem w_526 : Cond.fieldLink RX3 65 "RationalProgramModel" "m" "I" ∈ gw := gw_in 526 (by decide +kernel) rfl
set_option maxRecDepth 100000 in
theorem w_527 : Cond.fieldLink RX3 13 "RationalProgramModel" "a" "[I" ∈ gw := gw_in 527 (by decide +kernel) rfl
set_option maxRecDepth 100000 in
theorem w_528 : Cond.fieldLink RX3 17 "RationalProgramModel" "b" "[I" ∈ gw := gw_in 528 (by decide +kernel) rfl
set_option maxRecDepth 100000 in
theorem w_529 : Cond.fieldLink RX3 20 "RationalProgramModel" "c" "[I" ∈ gw := gw_in 529 (by decide +kernel) rfl
set_option maxRecDepth 100000 in
theorem w_530 : Cond.fieldLink RX3 23 "RationalProgramModel" "e" "[I" ∈ gw := gw_in 530 (by decide +kernel) rfl
set_option maxRecDepth 100000 in
theorem w_531 : Cond.fieldLink RX3 26 "RationalProgramModel" "senses" "[I" ∈ gw := gw_in 531 (by decide +kernel) rfl
set_option maxRecDepth 100000 in
theorem w_532 : Cond.fieldLink RX3 54 "RationalProgramModel" "thrown" "I" ∈ gw := gw_in 532 (by decide +kernel) rfl
set_option maxRecDepth 100000 in
theorem w_533 : Cond.fieldLink RX3 71 "RationalProgramModel" "width" "I" ∈ gw := gw_in 533 (by decide +kernel) rfl
set_option maxRecDepth 100000 in
theorem w_534 : Cond.fieldLink RX3 68 "RationalProgramModel" "bounds" "I" ∈ gw := gw_in 534 (by decide +kernel) rfl
set_option maxRecDepth 100000 in
theorem w_535 : Cond.fieldLink RX3 29 "RationalProgramModel" "bound" "[I" ∈ gw := gw_in 535 (by decide +kernel) rfl
set_option maxRecDepth 100000 in
theorem w_536 : Cond.fieldLink RX3 32 "RationalProgramModel" "boundSense" "[I" ∈ gw := gw_in 536 (by decide +kernel) rfl
set_option maxRecDepth 100000 in
theorem w_537 : Cond.fieldLink RX3 35 "RationalProgramModel" "boundRight" "[I" ∈ gw := gw_in 537 (by decide +kernel) rfl
set_option maxRecDepth 100000 in
theorem w_538 : Cond.fieldLink RX3 38 "RationalProgramModel" "matrix" "[J" ∈ gw := gw_in 538 (by decide +kernel) rfl
set_option maxRecDepth 100000 in
theorem w_539 : Cond.fieldLink RX3 85 "RationalProgramModel" "found" "I" ∈ gw := gw_in 539 (by decide +kernel) rfl
set_option maxRecDepth 100000 in
theorem w_540 : Cond.fieldLink RX3 42 "RationalProgramModel" "above" "[J" ∈ gw := gw_in 540 (by decide +kernel) rfl
set_option maxRecDepth 100000 in
theorem w_541 : Cond.fieldLink RX3 45 "RationalProgramModel" "below" "[J" ∈ gw := gw_in 541 (by decide +kernel) rfl
set_option maxRecDepth 100000 in
theorem w_542 : Cond.fieldLink RX3 48 "RationalProgramModel" "worth" "[J" ∈ gw := gw_in 542 (by decide +kernel) rfl
set_option maxRecDepth 100000 in
theorem w_543 : Cond.fieldLink RX3 155 "RationalProgramModel" "cornerCount" "I" ∈ gw := gw_in 543 (by decide +kernel) rfl
set_option maxRecDepth 100000 in
theorem w_544 : Cond.fieldLink RX3 51 "RationalProgramModel" "cornerAt" "[I" ∈ gw := gw_in 544 (by decide +kernel) rfl
set_option maxRecDepth 100000 in
theorem w_594 : Cond.methodLink RX3 57 yX3_outside ∈ gw := gw_in 594 (by decide +kernel) rfl
set_option maxRecDepth 100000 in
theorem w_597 : Cond.methodLink RX3 61 yX3_refuses ∈ gw := gw_in 597 (by decide +kernel) rfl
set_option maxRecDepth 100000 in
theorem w_621 : Cond.methodLink RX3 122 yX3_status ∈ gw := gw_in 621 (by decide +kernel) rfl
set_option maxRecDepth 100000 in
theorem w_625 : Cond.methodLink RX3 111 yX3_everyRow ∈ gw := gw_in 625 (by decide +kernel) rfl
set_option maxRecDepth 100000 in
theorem w_629 : Cond.methodLink RX3 115 yX3_infeasible ∈ gw := gw_in 629 (by decide +kernel) rfl
set_option maxRecDepth 100000 in
theorem w_633 : Cond.methodLink RX3 108 yX3_collect ∈ gw := gw_in 633 (by decide +kernel) rfl
set_option maxRecDepth 100000 in
theorem w_637 : Cond.methodLink RX3 101 yX3_setUp ∈ gw := gw_in 637 (by decide +kernel) rfl
set_option maxRecDepth 100000 in
theorem w_641 : Cond.methodLink RX3 74 yX3_add ∈ gw := gw_in 641 (by decide +kernel) rfl
set_option maxRecDepth 100000 in
theorem w_645 : Cond.methodLink RX3 104 yX3_take ∈ gw := gw_in 645 (by decide +kernel) rfl
set_option maxRecDepth 100000 in
theorem w_649 : Cond.methodLink RX3 88 yX3_picked ∈ gw := gw_in 649 (by decide +kernel) rfl
set_option maxRecDepth 100000 in
theorem w_653 : Cond.methodLink RX3 92 yX3_solved ∈ gw := gw_in 653 (by decide +kernel) rfl
set_option maxRecDepth 100000 in
theorem w_657 : Cond.methodLink RX3 78 yX3_swap ∈ gw := gw_in 657 (by decide +kernel) rfl
set_option maxRecDepth 100000 in
theorem w_661 : Cond.methodLink RX3 81 yX3_clear ∈ gw := gw_in 661 (by decide +kernel) rfl
set_option maxRecDepth 100000 in
theorem w_665 : Cond.constantLong RX3 96 (-1) ∈ gw := gw_in 665 (by decide +kernel) rfl
set_option maxRecDepth 100000 in
theorem w_666 : Cond.methodLink RX3 98 yX3_holds ∈ gw := gw_in 666 (by decide +kernel) rfl
set_option maxRecDepth 100000 in
theorem w_670 : Cond.methodLink RX3 118 yX3_grows ∈ gw := gw_in 670 (by decide +kernel) rfl
set_option maxRecDepth 100000 in
theorem w_678 : Cond.methodLink RX3 137 yX3_best ∈ gw := gw_in 678 (by decide +kernel) rfl
set_option maxRecDepth 100000 in
theorem w_682 : Cond.methodLink RX3 133 yX3_better ∈ gw := gw_in 682 (by decide +kernel) rfl
set_option maxRecDepth 100000 in
theorem w_686 : Cond.methodLink RX3 129 yX3_compare ∈ gw := gw_in 686 (by decide +kernel) rfl
set_option maxRecDepth 100000 in
theorem w_689 : Cond.methodLink RX3 140 yX3_told ∈ gw := gw_in 689 (by decide +kernel) rfl
set_option maxRecDepth 100000 in
theorem w_692 : Cond.methodLink RX3 125 yX3_divisor ∈ gw := gw_in 692 (by decide +kernel) rfl
set_option maxRecDepth 100000 in
theorem w_703 : Cond.methodLink RX3 144 yX3_endless ∈ gw := gw_in 703 (by decide +kernel) rfl
set_option maxRecDepth 100000 in
theorem w_711 : Cond.methodLink RX3 147 yX3_excess ∈ gw := gw_in 711 (by decide +kernel) rfl
set_option maxRecDepth 100000 in
theorem w_723 : Cond.methodLink RX3 161 yX3_findCorners ∈ gw := gw_in 723 (by decide +kernel) rfl
set_option maxRecDepth 100000 in
theorem w_727 : Cond.methodLink RX3 151 yX3_later ∈ gw := gw_in 727 (by decide +kernel) rfl
set_option maxRecDepth 100000 in
theorem w_731 : Cond.methodLink RX3 158 yX3_steeper ∈ gw := gw_in 731 (by decide +kernel) rfl
set_option maxRecDepth 100000 in
theorem cf_J6_bitCount_0f7a4 : CF yJ6_bitCount_0f7a4 cJ6_bitCount_0f7a4 1 (some .int) 1 := ⟨gw_in 161 rfl rfl, gw_in 53 (by decide +kernel) rfl, by decide +kernel, by decide +kernel, by decide +kernel⟩
theorem cs_J6_bitCount_0f7a4 : Cond.static yJ6_bitCount_0f7a4 ∈ gw := gw_in 160 (by decide +kernel) rfl
set_option maxRecDepth 100000 in
theorem cf_J13_compare_74951 : CF yJ13_compare_74951 cJ13_compare_74951 4 (some .int) 2 := ⟨gw_in 236 rfl rfl, gw_in 55 (by decide +kernel) rfl, by decide +kernel, by decide +kernel, by decide +kernel⟩
theorem cs_J13_compare_74951 : Cond.static yJ13_compare_74951 ∈ gw := gw_in 235 (by decide +kernel) rfl
set_option maxRecDepth 100000 in
theorem cf_X1_clear : CF yX1_clear cX1_clear 5 none 2 := ⟨gw_in 324 rfl rfl, gw_in 45 (by decide +kernel) rfl, by decide +kernel, by decide +kernel, by decide +kernel⟩
theorem cv_X1_clear : CV yX1_clear := ⟨gw_in 322 (by decide +kernel) rfl, gw_in 323 (by decide +kernel) rfl⟩
set_option maxRecDepth 100000 in
theorem cf_X1_setFactor : CF yX1_setFactor cX1_setFactor 4 none 3 := ⟨gw_in 366 rfl rfl, gw_in 45 (by decide +kernel) rfl, by decide +kernel, by decide +kernel, by decide +kernel⟩
theorem cv_X1_setFactor : CV yX1_setFactor := ⟨gw_in 364 (by decide +kernel) rfl, gw_in 365 (by decide +kernel) rfl⟩
set_option maxRecDepth 100000 in
theorem cf_X1_setWant : CF yX1_setWant cX1_setWant 3 none 2 := ⟨gw_in 392 rfl rfl, gw_in 45 (by decide +kernel) rfl, by decide +kernel, by decide +kernel, by decide +kernel⟩
theorem cv_X1_setWant : CV yX1_setWant := ⟨gw_in 390 (by decide +kernel) rfl, gw_in 391 (by decide +kernel) rfl⟩
set_option maxRecDepth 100000 in
theorem cf_X1_enterRight : CF yX1_enterRight cX1_enterRight 2 none 1 := ⟨gw_in 381 rfl rfl, gw_in 45 (by decide +kernel) rfl, by decide +kernel, by decide +kernel, by decide +kernel⟩
theorem cv_X1_enterRight : CV yX1_enterRight := ⟨gw_in 380 (by decide +kernel) rfl, gw_in 16 (by decide +kernel) rfl⟩
set_option maxRecDepth 100000 in
theorem cf_X1_setRow : CF yX1_setRow cX1_setRow 4 none 3 := ⟨gw_in 377 rfl rfl, gw_in 45 (by decide +kernel) rfl, by decide +kernel, by decide +kernel, by decide +kernel⟩
theorem cv_X1_setRow : CV yX1_setRow := ⟨gw_in 375 (by decide +kernel) rfl, gw_in 376 (by decide +kernel) rfl⟩
set_option maxRecDepth 100000 in
theorem cf_X1_setDrift : CF yX1_setDrift cX1_setDrift 3 none 2 := ⟨gw_in 403 rfl rfl, gw_in 45 (by decide +kernel) rfl, by decide +kernel, by decide +kernel, by decide +kernel⟩
theorem cv_X1_setDrift : CV yX1_setDrift := ⟨gw_in 401 (by decide +kernel) rfl, gw_in 402 (by decide +kernel) rfl⟩
set_option maxRecDepth 100000 in
theorem cf_X1_columns : CF yX1_columns cX1_columns 1 (some .int) 0 := ⟨gw_in 158 rfl rfl, gw_in 45 (by decide +kernel) rfl, by decide +kernel, by decide +kernel, by decide +kernel⟩
theorem cv_X1_columns : CV yX1_columns := ⟨gw_in 156 (by decide +kernel) rfl, gw_in 157 (by decide +kernel) rfl⟩
set_option maxRecDepth 100000 in
theorem cf_X1_allRows : CF yX1_allRows cX1_allRows 1 (some .int) 0 := ⟨gw_in 146 rfl rfl, gw_in 45 (by decide +kernel) rfl, by decide +kernel, by decide +kernel, by decide +kernel⟩
theorem cv_X1_allRows : CV yX1_allRows := ⟨gw_in 144 (by decide +kernel) rfl, gw_in 145 (by decide +kernel) rfl⟩
set_option maxRecDepth 100000 in
theorem cf_X1_entry : CF yX1_entry cX1_entry 3 (some .long) 2 := ⟨gw_in 180 rfl rfl, gw_in 45 (by decide +kernel) rfl, by decide +kernel, by decide +kernel, by decide +kernel⟩
theorem cv_X1_entry : CV yX1_entry := ⟨gw_in 178 (by decide +kernel) rfl, gw_in 179 (by decide +kernel) rfl⟩
set_option maxRecDepth 100000 in
theorem cf_X1_excess : CF yX1_excess cX1_excess 6 (some .long) 2 := ⟨gw_in 197 rfl rfl, gw_in 45 (by decide +kernel) rfl, by decide +kernel, by decide +kernel, by decide +kernel⟩
theorem cv_X1_excess : CV yX1_excess := ⟨gw_in 195 (by decide +kernel) rfl, gw_in 196 (by decide +kernel) rfl⟩
set_option maxRecDepth 100000 in
theorem cf_X1_worth : CF yX1_worth cX1_worth 5 (some .long) 1 := ⟨gw_in 214 rfl rfl, gw_in 45 (by decide +kernel) rfl, by decide +kernel, by decide +kernel, by decide +kernel⟩
theorem cv_X1_worth : CV yX1_worth := ⟨gw_in 212 (by decide +kernel) rfl, gw_in 213 (by decide +kernel) rfl⟩
set_option maxRecDepth 100000 in
theorem cf_X1_fits : CF yX1_fits cX1_fits 3 (some .boolean) 2 := ⟨gw_in 200 rfl rfl, gw_in 45 (by decide +kernel) rfl, by decide +kernel, by decide +kernel, by decide +kernel⟩
theorem cs_X1_fits : Cond.static yX1_fits ∈ gw := gw_in 199 (by decide +kernel) rfl
set_option maxRecDepth 100000 in
theorem cf_X1_holds : CF yX1_holds cX1_holds 4 (some .boolean) 2 := ⟨gw_in 193 rfl rfl, gw_in 45 (by decide +kernel) rfl, by decide +kernel, by decide +kernel, by decide +kernel⟩
theorem cv_X1_holds : CV yX1_holds := ⟨gw_in 191 (by decide +kernel) rfl, gw_in 192 (by decide +kernel) rfl⟩
set_option maxRecDepth 100000 in
theorem cf_X0_forget : CF yX0_forget cX0_forget 1 none 0 := ⟨gw_in 328 rfl rfl, gw_in 46 (by decide +kernel) rfl, by decide +kernel, by decide +kernel, by decide +kernel⟩
theorem cv_X0_forget : CV yX0_forget := ⟨gw_in 326 (by decide +kernel) rfl, gw_in 327 (by decide +kernel) rfl⟩
set_option maxRecDepth 100000 in
theorem cf_X0_cofactor : CF yX0_cofactor cX0_cofactor 10 (some .long) 1 := ⟨gw_in 188 rfl rfl, gw_in 46 (by decide +kernel) rfl, by decide +kernel, by decide +kernel, by decide +kernel⟩
theorem cv_X0_cofactor : CV yX0_cofactor := ⟨gw_in 187 (by decide +kernel) rfl, gw_in 5 (by decide +kernel) rfl⟩
set_option maxRecDepth 100000 in
theorem cf_X0_placeColumns : CF yX0_placeColumns cX0_placeColumns 4 (some .int) 1 := ⟨gw_in 172 rfl rfl, gw_in 46 (by decide +kernel) rfl, by decide +kernel, by decide +kernel, by decide +kernel⟩
theorem cv_X0_placeColumns : CV yX0_placeColumns := ⟨gw_in 171 (by decide +kernel) rfl, gw_in 2 (by decide +kernel) rfl⟩
set_option maxRecDepth 100000 in
theorem cf_X0_fillGrid : CF yX0_fillGrid cX0_fillGrid 7 none 3 := ⟨gw_in 176 rfl rfl, gw_in 46 (by decide +kernel) rfl, by decide +kernel, by decide +kernel, by decide +kernel⟩
theorem cv_X0_fillGrid : CV yX0_fillGrid := ⟨gw_in 175 (by decide +kernel) rfl, gw_in 3 (by decide +kernel) rfl⟩
set_option maxRecDepth 100000 in
theorem cf_X0_findParts : CF yX0_findParts cX0_findParts 5 (some .boolean) 1 := ⟨gw_in 184 rfl rfl, gw_in 46 (by decide +kernel) rfl, by decide +kernel, by decide +kernel, by decide +kernel⟩
theorem cv_X0_findParts : CV yX0_findParts := ⟨gw_in 183 (by decide +kernel) rfl, gw_in 4 (by decide +kernel) rfl⟩
set_option maxRecDepth 100000 in
theorem cf_X0_tryRay : CF yX0_tryRay cX0_tryRay 8 none 4 := ⟨gw_in 168 rfl rfl, gw_in 46 (by decide +kernel) rfl, by decide +kernel, by decide +kernel, by decide +kernel⟩
theorem cv_X0_tryRay : CV yX0_tryRay := ⟨gw_in 167 (by decide +kernel) rfl, gw_in 1 (by decide +kernel) rfl⟩
set_option maxRecDepth 100000 in
theorem cf_X0_collect : CF yX0_collect cX0_collect 6 none 2 := ⟨gw_in 154 rfl rfl, gw_in 46 (by decide +kernel) rfl, by decide +kernel, by decide +kernel, by decide +kernel⟩
theorem cv_X0_collect : CV yX0_collect := ⟨gw_in 152 (by decide +kernel) rfl, gw_in 153 (by decide +kernel) rfl⟩
set_option maxRecDepth 100000 in
theorem cf_X2_hasRow : CF yX2_hasRow cX2_hasRow 2 (some .boolean) 1 := ⟨gw_in 340 rfl rfl, gw_in 44 (by decide +kernel) rfl, by decide +kernel, by decide +kernel, by decide +kernel⟩
theorem cv_X2_hasRow : CV yX2_hasRow := ⟨gw_in 339 (by decide +kernel) rfl, gw_in 14 (by decide +kernel) rfl⟩
set_option maxRecDepth 100000 in
theorem cf_X2_hasVariable : CF yX2_hasVariable cX2_hasVariable 2 (some .boolean) 1 := ⟨gw_in 344 rfl rfl, gw_in 44 (by decide +kernel) rfl, by decide +kernel, by decide +kernel, by decide +kernel⟩
theorem cv_X2_hasVariable : CV yX2_hasVariable := ⟨gw_in 343 (by decide +kernel) rfl, gw_in 15 (by decide +kernel) rfl⟩
set_option maxRecDepth 100000 in
theorem cf_X2_isFactor : CF yX2_isFactor cX2_isFactor 1 (some .boolean) 1 := ⟨gw_in 362 rfl rfl, gw_in 44 (by decide +kernel) rfl, by decide +kernel, by decide +kernel, by decide +kernel⟩
theorem cs_X2_isFactor : Cond.static yX2_isFactor ∈ gw := gw_in 361 (by decide +kernel) rfl
set_option maxRecDepth 100000 in
theorem cf_X2_isPart : CF yX2_isPart cX2_isPart 1 (some .boolean) 1 := ⟨gw_in 430 rfl rfl, gw_in 44 (by decide +kernel) rfl, by decide +kernel, by decide +kernel, by decide +kernel⟩
theorem cs_X2_isPart : Cond.static yX2_isPart ∈ gw := gw_in 429 (by decide +kernel) rfl
set_option maxRecDepth 100000 in
theorem cf_X2_isPoint : CF yX2_isPoint cX2_isPoint 1 (some .boolean) 1 := ⟨gw_in 203 rfl rfl, gw_in 44 (by decide +kernel) rfl, by decide +kernel, by decide +kernel, by decide +kernel⟩
theorem cs_X2_isPoint : Cond.static yX2_isPoint ∈ gw := gw_in 202 (by decide +kernel) rfl
set_option maxRecDepth 100000 in
theorem cf_X2_isDirection : CF yX2_isDirection cX2_isDirection 1 (some .boolean) 1 := ⟨gw_in 210 rfl rfl, gw_in 44 (by decide +kernel) rfl, by decide +kernel, by decide +kernel, by decide +kernel⟩
theorem cs_X2_isDirection : Cond.static yX2_isDirection ∈ gw := gw_in 209 (by decide +kernel) rfl
set_option maxRecDepth 100000 in
theorem cf_X2_isFeasible : CF yX2_isFeasible cX2_isFeasible 3 (some .boolean) 1 := ⟨gw_in 150 rfl rfl, gw_in 44 (by decide +kernel) rfl, by decide +kernel, by decide +kernel, by decide +kernel⟩
theorem cv_X2_isFeasible : CV yX2_isFeasible := ⟨gw_in 149 (by decide +kernel) rfl, gw_in 0 (by decide +kernel) rfl⟩
set_option maxRecDepth 100000 in
theorem cf_X2_canRise : CF yX2_canRise cX2_canRise 2 (some .boolean) 0 := ⟨gw_in 207 rfl rfl, gw_in 44 (by decide +kernel) rfl, by decide +kernel, by decide +kernel, by decide +kernel⟩
theorem cv_X2_canRise : CV yX2_canRise := ⟨gw_in 206 (by decide +kernel) rfl, gw_in 6 (by decide +kernel) rfl⟩
set_option maxRecDepth 100000 in
theorem cf_X2_canGrow : CF yX2_canGrow cX2_canGrow 3 (some .boolean) 1 := ⟨gw_in 470 rfl rfl, gw_in 44 (by decide +kernel) rfl, by decide +kernel, by decide +kernel, by decide +kernel⟩
theorem cv_X2_canGrow : CV yX2_canGrow := ⟨gw_in 469 (by decide +kernel) rfl, gw_in 19 (by decide +kernel) rfl⟩
set_option maxRecDepth 100000 in
theorem cf_X2_isBetter : CF yX2_isBetter cX2_isBetter 5 (some .boolean) 2 := ⟨gw_in 438 rfl rfl, gw_in 44 (by decide +kernel) rfl, by decide +kernel, by decide +kernel, by decide +kernel⟩
theorem cv_X2_isBetter : CV yX2_isBetter := ⟨gw_in 437 (by decide +kernel) rfl, gw_in 18 (by decide +kernel) rfl⟩
set_option maxRecDepth 100000 in
theorem cf_X2_bestRay : CF yX2_bestRay cX2_bestRay 4 (some (.array .long)) 0 := ⟨gw_in 434 rfl rfl, gw_in 44 (by decide +kernel) rfl, by decide +kernel, by decide +kernel, by decide +kernel⟩
theorem cv_X2_bestRay : CV yX2_bestRay := ⟨gw_in 433 (by decide +kernel) rfl, gw_in 17 (by decide +kernel) rfl⟩
set_option maxRecDepth 100000 in
theorem cf_X2_isFarther : CF yX2_isFarther cX2_isFarther 5 (some .boolean) 4 := ⟨gw_in 492 rfl rfl, gw_in 44 (by decide +kernel) rfl, by decide +kernel, by decide +kernel, by decide +kernel⟩
theorem cs_X2_isFarther : Cond.static yX2_isFarther ∈ gw := gw_in 491 (by decide +kernel) rfl
set_option maxRecDepth 100000 in
theorem cf_X2_extremeRay : CF yX2_extremeRay cX2_extremeRay 6 (some (.array .long)) 2 := ⟨gw_in 489 rfl rfl, gw_in 44 (by decide +kernel) rfl, by decide +kernel, by decide +kernel, by decide +kernel⟩
theorem cv_X2_extremeRay : CV yX2_extremeRay := ⟨gw_in 488 (by decide +kernel) rfl, gw_in 20 (by decide +kernel) rfl⟩
set_option maxRecDepth 100000 in
theorem cf_X2_isSharpInBest : CF yX2_isSharpInBest cX2_isSharpInBest 8 (some .boolean) 1 := ⟨gw_in 503 rfl rfl, gw_in 44 (by decide +kernel) rfl, by decide +kernel, by decide +kernel, by decide +kernel⟩
theorem cv_X2_isSharpInBest : CV yX2_isSharpInBest := ⟨gw_in 502 (by decide +kernel) rfl, gw_in 21 (by decide +kernel) rfl⟩
set_option maxRecDepth 100000 in
theorem cf_X2_compareTimes : CF yX2_compareTimes cX2_compareTimes 2 (some .int) 2 := ⟨gw_in 233 rfl rfl, gw_in 44 (by decide +kernel) rfl, by decide +kernel, by decide +kernel, by decide +kernel⟩
theorem cs_X2_compareTimes : Cond.static yX2_compareTimes ∈ gw := gw_in 232 (by decide +kernel) rfl
set_option maxRecDepth 100000 in
theorem cf_X2_isEarlier : CF yX2_isEarlier cX2_isEarlier 8 (some .boolean) 2 := ⟨gw_in 230 rfl rfl, gw_in 44 (by decide +kernel) rfl, by decide +kernel, by decide +kernel, by decide +kernel⟩
theorem cv_X2_isEarlier : CV yX2_isEarlier := ⟨gw_in 229 (by decide +kernel) rfl, gw_in 9 (by decide +kernel) rfl⟩
set_option maxRecDepth 100000 in
theorem cf_X2_earliestRay : CF yX2_earliestRay cX2_earliestRay 3 (some .int) 0 := ⟨gw_in 226 rfl rfl, gw_in 44 (by decide +kernel) rfl, by decide +kernel, by decide +kernel, by decide +kernel⟩
theorem cv_X2_earliestRay : CV yX2_earliestRay := ⟨gw_in 225 (by decide +kernel) rfl, gw_in 8 (by decide +kernel) rfl⟩
set_option maxRecDepth 100000 in
theorem cf_X2_liftAbove : CF yX2_liftAbove cX2_liftAbove 4 (some .long) 3 := ⟨gw_in 248 rfl rfl, gw_in 44 (by decide +kernel) rfl, by decide +kernel, by decide +kernel, by decide +kernel⟩
theorem cv_X2_liftAbove : CV yX2_liftAbove := ⟨gw_in 247 (by decide +kernel) rfl, gw_in 12 (by decide +kernel) rfl⟩
set_option maxRecDepth 100000 in
theorem cf_X2_isSteeper : CF yX2_isSteeper cX2_isSteeper 6 (some .boolean) 3 := ⟨gw_in 244 rfl rfl, gw_in 44 (by decide +kernel) rfl, by decide +kernel, by decide +kernel, by decide +kernel⟩
theorem cv_X2_isSteeper : CV yX2_isSteeper := ⟨gw_in 243 (by decide +kernel) rfl, gw_in 11 (by decide +kernel) rfl⟩
set_option maxRecDepth 100000 in
theorem cf_X2_followingRay : CF yX2_followingRay cX2_followingRay 7 (some .int) 1 := ⟨gw_in 240 rfl rfl, gw_in 44 (by decide +kernel) rfl, by decide +kernel, by decide +kernel, by decide +kernel⟩
theorem cv_X2_followingRay : CV yX2_followingRay := ⟨gw_in 239 (by decide +kernel) rfl, gw_in 10 (by decide +kernel) rfl⟩
set_option maxRecDepth 100000 in
theorem cf_X2_traceBends : CF yX2_traceBends cX2_traceBends 3 (some .int) 0 := ⟨gw_in 222 rfl rfl, gw_in 44 (by decide +kernel) rfl, by decide +kernel, by decide +kernel, by decide +kernel⟩
theorem cv_X2_traceBends : CV yX2_traceBends := ⟨gw_in 221 (by decide +kernel) rfl, gw_in 7 (by decide +kernel) rfl⟩
set_option maxRecDepth 100000 in
theorem cf_X2_commonDivisor : CF yX2_commonDivisor cX2_commonDivisor 11 (some .long) 2 := ⟨gw_in 448 rfl rfl, gw_in 44 (by decide +kernel) rfl, by decide +kernel, by decide +kernel, by decide +kernel⟩
theorem cs_X2_commonDivisor : Cond.static yX2_commonDivisor ∈ gw := gw_in 447 (by decide +kernel) rfl
set_option maxRecDepth 100000 in
theorem cf_X2_partOf : CF yX2_partOf cX2_partOf 7 (some .long) 3 := ⟨gw_in 442 rfl rfl, gw_in 44 (by decide +kernel) rfl, by decide +kernel, by decide +kernel, by decide +kernel⟩
theorem cs_X2_partOf : Cond.static yX2_partOf ∈ gw := gw_in 441 (by decide +kernel) rfl
set_option maxRecDepth 100000 in
theorem cf_X2_solve : CF yX2_solve cX2_solve 1 (some .int) 0 := ⟨gw_in 142 rfl rfl, gw_in 44 (by decide +kernel) rfl, by decide +kernel, by decide +kernel, by decide +kernel⟩
theorem cv_X2_solve : CV yX2_solve := ⟨gw_in 140 (by decide +kernel) rfl, gw_in 141 (by decide +kernel) rfl⟩
set_option maxRecDepth 100000 in
theorem cf_X2_corners : CF yX2_corners cX2_corners 1 (some .int) 0 := ⟨gw_in 218 rfl rfl, gw_in 44 (by decide +kernel) rfl, by decide +kernel, by decide +kernel, by decide +kernel⟩
theorem cv_X2_corners : CV yX2_corners := ⟨gw_in 216 (by decide +kernel) rfl, gw_in 217 (by decide +kernel) rfl⟩
set_option maxRecDepth 100000 in
theorem cf_X3_refuses : CF yX3_refuses cX3_refuses 5 (some .boolean) 4 := ⟨gw_in 600 rfl rfl, gw_in 47 (by decide +kernel) rfl, by decide +kernel, by decide +kernel, by decide +kernel⟩
theorem cv_X3_refuses : CV yX3_refuses := ⟨gw_in 599 (by decide +kernel) rfl, gw_in 22 (by decide +kernel) rfl⟩
set_option maxRecDepth 100000 in
theorem cf_X3_thrown : CF yX3_thrown cX3_thrown 1 (some .int) 0 := ⟨gw_in 589 rfl rfl, gw_in 47 (by decide +kernel) rfl, by decide +kernel, by decide +kernel, by decide +kernel⟩
theorem cv_X3_thrown : CV yX3_thrown := ⟨gw_in 587 (by decide +kernel) rfl, gw_in 588 (by decide +kernel) rfl⟩
set_option maxRecDepth 100000 in
theorem cf_X3_outside : CF yX3_outside cX3_outside 3 (some .boolean) 3 := ⟨gw_in 596 rfl rfl, gw_in 47 (by decide +kernel) rfl, by decide +kernel, by decide +kernel, by decide +kernel⟩
theorem cs_X3_outside : Cond.static yX3_outside ∈ gw := gw_in 595 (by decide +kernel) rfl
set_option maxRecDepth 100000 in
theorem cf_X3_begin : CF yX3_begin cX3_begin 4 none 2 := ⟨gw_in 593 rfl rfl, gw_in 47 (by decide +kernel) rfl, by decide +kernel, by decide +kernel, by decide +kernel⟩
theorem cv_X3_begin : CV yX3_begin := ⟨gw_in 591 (by decide +kernel) rfl, gw_in 592 (by decide +kernel) rfl⟩
set_option maxRecDepth 100000 in
theorem cf_X3_coefficient : CF yX3_coefficient cX3_coefficient 4 none 3 := ⟨gw_in 604 rfl rfl, gw_in 47 (by decide +kernel) rfl, by decide +kernel, by decide +kernel, by decide +kernel⟩
theorem cv_X3_coefficient : CV yX3_coefficient := ⟨gw_in 602 (by decide +kernel) rfl, gw_in 603 (by decide +kernel) rfl⟩
set_option maxRecDepth 100000 in
theorem cf_X3_row : CF yX3_row cX3_row 4 none 3 := ⟨gw_in 608 rfl rfl, gw_in 47 (by decide +kernel) rfl, by decide +kernel, by decide +kernel, by decide +kernel⟩
theorem cv_X3_row : CV yX3_row := ⟨gw_in 606 (by decide +kernel) rfl, gw_in 607 (by decide +kernel) rfl⟩
set_option maxRecDepth 100000 in
theorem cf_X3_want : CF yX3_want cX3_want 3 none 2 := ⟨gw_in 612 rfl rfl, gw_in 47 (by decide +kernel) rfl, by decide +kernel, by decide +kernel, by decide +kernel⟩
theorem cv_X3_want : CV yX3_want := ⟨gw_in 610 (by decide +kernel) rfl, gw_in 611 (by decide +kernel) rfl⟩
set_option maxRecDepth 100000 in
theorem cf_X3_drift : CF yX3_drift cX3_drift 3 none 2 := ⟨gw_in 616 rfl rfl, gw_in 47 (by decide +kernel) rfl, by decide +kernel, by decide +kernel, by decide +kernel⟩
theorem cv_X3_drift : CV yX3_drift := ⟨gw_in 614 (by decide +kernel) rfl, gw_in 615 (by decide +kernel) rfl⟩
set_option maxRecDepth 100000 in
theorem cf_X3_add : CF yX3_add cX3_add 4 none 2 := ⟨gw_in 644 rfl rfl, gw_in 47 (by decide +kernel) rfl, by decide +kernel, by decide +kernel, by decide +kernel⟩
theorem cv_X3_add : CV yX3_add := ⟨gw_in 643 (by decide +kernel) rfl, gw_in 28 (by decide +kernel) rfl⟩
set_option maxRecDepth 100000 in
theorem cf_X3_setUp : CF yX3_setUp cX3_setUp 5 none 2 := ⟨gw_in 640 rfl rfl, gw_in 47 (by decide +kernel) rfl, by decide +kernel, by decide +kernel, by decide +kernel⟩
theorem cv_X3_setUp : CV yX3_setUp := ⟨gw_in 639 (by decide +kernel) rfl, gw_in 27 (by decide +kernel) rfl⟩
set_option maxRecDepth 100000 in
theorem cf_X3_picked : CF yX3_picked cX3_picked 5 (some .boolean) 1 := ⟨gw_in 652 rfl rfl, gw_in 47 (by decide +kernel) rfl, by decide +kernel, by decide +kernel, by decide +kernel⟩
theorem cv_X3_picked : CV yX3_picked := ⟨gw_in 651 (by decide +kernel) rfl, gw_in 30 (by decide +kernel) rfl⟩
set_option maxRecDepth 100000 in
theorem cf_X3_swap : CF yX3_swap cX3_swap 6 none 2 := ⟨gw_in 660 rfl rfl, gw_in 47 (by decide +kernel) rfl, by decide +kernel, by decide +kernel, by decide +kernel⟩
theorem cv_X3_swap : CV yX3_swap := ⟨gw_in 659 (by decide +kernel) rfl, gw_in 32 (by decide +kernel) rfl⟩
set_option maxRecDepth 100000 in
theorem cf_X3_clear : CF yX3_clear cX3_clear 10 none 2 := ⟨gw_in 664 rfl rfl, gw_in 47 (by decide +kernel) rfl, by decide +kernel, by decide +kernel, by decide +kernel⟩
theorem cv_X3_clear : CV yX3_clear := ⟨gw_in 663 (by decide +kernel) rfl, gw_in 33 (by decide +kernel) rfl⟩
set_option maxRecDepth 100000 in
theorem cf_X3_solved : CF yX3_solved cX3_solved 5 (some .long) 0 := ⟨gw_in 656 rfl rfl, gw_in 47 (by decide +kernel) rfl, by decide +kernel, by decide +kernel, by decide +kernel⟩
theorem cv_X3_solved : CV yX3_solved := ⟨gw_in 655 (by decide +kernel) rfl, gw_in 31 (by decide +kernel) rfl⟩
set_option maxRecDepth 100000 in
theorem cf_X3_holds : CF yX3_holds cX3_holds 5 (some .boolean) 1 := ⟨gw_in 669 rfl rfl, gw_in 47 (by decide +kernel) rfl, by decide +kernel, by decide +kernel, by decide +kernel⟩
theorem cv_X3_holds : CV yX3_holds := ⟨gw_in 668 (by decide +kernel) rfl, gw_in 34 (by decide +kernel) rfl⟩
set_option maxRecDepth 100000 in
theorem cf_X3_take : CF yX3_take cX3_take 8 none 1 := ⟨gw_in 648 rfl rfl, gw_in 47 (by decide +kernel) rfl, by decide +kernel, by decide +kernel, by decide +kernel⟩
theorem cv_X3_take : CV yX3_take := ⟨gw_in 647 (by decide +kernel) rfl, gw_in 29 (by decide +kernel) rfl⟩
set_option maxRecDepth 100000 in
theorem cf_X3_collect : CF yX3_collect cX3_collect 4 none 2 := ⟨gw_in 636 rfl rfl, gw_in 47 (by decide +kernel) rfl, by decide +kernel, by decide +kernel, by decide +kernel⟩
theorem cv_X3_collect : CV yX3_collect := ⟨gw_in 635 (by decide +kernel) rfl, gw_in 26 (by decide +kernel) rfl⟩
set_option maxRecDepth 100000 in
theorem cf_X3_everyRow : CF yX3_everyRow cX3_everyRow 1 (some .int) 0 := ⟨gw_in 628 rfl rfl, gw_in 47 (by decide +kernel) rfl, by decide +kernel, by decide +kernel, by decide +kernel⟩
theorem cv_X3_everyRow : CV yX3_everyRow := ⟨gw_in 627 (by decide +kernel) rfl, gw_in 24 (by decide +kernel) rfl⟩
set_option maxRecDepth 100000 in
theorem cf_X3_infeasible : CF yX3_infeasible cX3_infeasible 2 (some .boolean) 1 := ⟨gw_in 632 rfl rfl, gw_in 47 (by decide +kernel) rfl, by decide +kernel, by decide +kernel, by decide +kernel⟩
theorem cv_X3_infeasible : CV yX3_infeasible := ⟨gw_in 631 (by decide +kernel) rfl, gw_in 25 (by decide +kernel) rfl⟩
set_option maxRecDepth 100000 in
theorem cf_X3_grows : CF yX3_grows cX3_grows 3 (some .boolean) 0 := ⟨gw_in 673 rfl rfl, gw_in 47 (by decide +kernel) rfl, by decide +kernel, by decide +kernel, by decide +kernel⟩
theorem cv_X3_grows : CV yX3_grows := ⟨gw_in 672 (by decide +kernel) rfl, gw_in 35 (by decide +kernel) rfl⟩
set_option maxRecDepth 100000 in
theorem cf_X3_status : CF yX3_status cX3_status 1 (some .int) 0 := ⟨gw_in 624 rfl rfl, gw_in 47 (by decide +kernel) rfl, by decide +kernel, by decide +kernel, by decide +kernel⟩
theorem cv_X3_status : CV yX3_status := ⟨gw_in 623 (by decide +kernel) rfl, gw_in 23 (by decide +kernel) rfl⟩
set_option maxRecDepth 100000 in
theorem cf_X3_solve : CF yX3_solve cX3_solve 1 (some .int) 0 := ⟨gw_in 620 rfl rfl, gw_in 47 (by decide +kernel) rfl, by decide +kernel, by decide +kernel, by decide +kernel⟩
theorem cv_X3_solve : CV yX3_solve := ⟨gw_in 618 (by decide +kernel) rfl, gw_in 619 (by decide +kernel) rfl⟩
set_option maxRecDepth 100000 in
theorem cf_X3_compare : CF yX3_compare cX3_compare 8 (some .int) 4 := ⟨gw_in 688 rfl rfl, gw_in 47 (by decide +kernel) rfl, by decide +kernel, by decide +kernel, by decide +kernel⟩
theorem cs_X3_compare : Cond.static yX3_compare ∈ gw := gw_in 687 (by decide +kernel) rfl
set_option maxRecDepth 100000 in
theorem cf_X3_divisor : CF yX3_divisor cX3_divisor 10 (some .long) 2 := ⟨gw_in 694 rfl rfl, gw_in 47 (by decide +kernel) rfl, by decide +kernel, by decide +kernel, by decide +kernel⟩
theorem cs_X3_divisor : Cond.static yX3_divisor ∈ gw := gw_in 693 (by decide +kernel) rfl
set_option maxRecDepth 100000 in
theorem cf_X3_told : CF yX3_told cX3_told 7 (some .long) 3 := ⟨gw_in 691 rfl rfl, gw_in 47 (by decide +kernel) rfl, by decide +kernel, by decide +kernel, by decide +kernel⟩
theorem cs_X3_told : Cond.static yX3_told ∈ gw := gw_in 690 (by decide +kernel) rfl
set_option maxRecDepth 100000 in
theorem cf_X3_better : CF yX3_better cX3_better 5 (some .boolean) 2 := ⟨gw_in 685 rfl rfl, gw_in 47 (by decide +kernel) rfl, by decide +kernel, by decide +kernel, by decide +kernel⟩
theorem cv_X3_better : CV yX3_better := ⟨gw_in 684 (by decide +kernel) rfl, gw_in 37 (by decide +kernel) rfl⟩
set_option maxRecDepth 100000 in
theorem cf_X3_best : CF yX3_best cX3_best 3 (some .int) 0 := ⟨gw_in 681 rfl rfl, gw_in 47 (by decide +kernel) rfl, by decide +kernel, by decide +kernel, by decide +kernel⟩
theorem cv_X3_best : CV yX3_best := ⟨gw_in 680 (by decide +kernel) rfl, gw_in 36 (by decide +kernel) rfl⟩
set_option maxRecDepth 100000 in
theorem cf_X3_value : CF yX3_value cX3_value 3 (some .long) 1 := ⟨gw_in 677 rfl rfl, gw_in 47 (by decide +kernel) rfl, by decide +kernel, by decide +kernel, by decide +kernel⟩
theorem cv_X3_value : CV yX3_value := ⟨gw_in 675 (by decide +kernel) rfl, gw_in 676 (by decide +kernel) rfl⟩
set_option maxRecDepth 100000 in
theorem cf_X3_point : CF yX3_point cX3_point 4 (some .long) 2 := ⟨gw_in 698 rfl rfl, gw_in 47 (by decide +kernel) rfl, by decide +kernel, by decide +kernel, by decide +kernel⟩
theorem cv_X3_point : CV yX3_point := ⟨gw_in 696 (by decide +kernel) rfl, gw_in 697 (by decide +kernel) rfl⟩
set_option maxRecDepth 100000 in
theorem cf_X3_endless : CF yX3_endless cX3_endless 4 (some .boolean) 1 := ⟨gw_in 706 rfl rfl, gw_in 47 (by decide +kernel) rfl, by decide +kernel, by decide +kernel, by decide +kernel⟩
theorem cv_X3_endless : CV yX3_endless := ⟨gw_in 705 (by decide +kernel) rfl, gw_in 38 (by decide +kernel) rfl⟩
set_option maxRecDepth 100000 in
theorem cf_X3_range : CF yX3_range cX3_range 9 (some .long) 3 := ⟨gw_in 702 rfl rfl, gw_in 47 (by decide +kernel) rfl, by decide +kernel, by decide +kernel, by decide +kernel⟩
theorem cv_X3_range : CV yX3_range := ⟨gw_in 700 (by decide +kernel) rfl, gw_in 701 (by decide +kernel) rfl⟩
set_option maxRecDepth 100000 in
theorem cf_X3_excess : CF yX3_excess cX3_excess 7 (some .long) 3 := ⟨gw_in 714 rfl rfl, gw_in 47 (by decide +kernel) rfl, by decide +kernel, by decide +kernel, by decide +kernel⟩
theorem cv_X3_excess : CV yX3_excess := ⟨gw_in 713 (by decide +kernel) rfl, gw_in 39 (by decide +kernel) rfl⟩
set_option maxRecDepth 100000 in
theorem cf_X3_tight : CF yX3_tight cX3_tight 6 (some .boolean) 1 := ⟨gw_in 710 rfl rfl, gw_in 47 (by decide +kernel) rfl, by decide +kernel, by decide +kernel, by decide +kernel⟩
theorem cv_X3_tight : CV yX3_tight := ⟨gw_in 708 (by decide +kernel) rfl, gw_in 709 (by decide +kernel) rfl⟩
set_option maxRecDepth 100000 in
theorem cf_X3_conflict : CF yX3_conflict cX3_conflict 4 (some .int) 0 := ⟨gw_in 718 rfl rfl, gw_in 47 (by decide +kernel) rfl, by decide +kernel, by decide +kernel, by decide +kernel⟩
theorem cv_X3_conflict : CV yX3_conflict := ⟨gw_in 716 (by decide +kernel) rfl, gw_in 717 (by decide +kernel) rfl⟩
set_option maxRecDepth 100000 in
theorem cf_X3_later : CF yX3_later cX3_later 3 (some .int) 2 := ⟨gw_in 730 rfl rfl, gw_in 47 (by decide +kernel) rfl, by decide +kernel, by decide +kernel, by decide +kernel⟩
theorem cv_X3_later : CV yX3_later := ⟨gw_in 729 (by decide +kernel) rfl, gw_in 41 (by decide +kernel) rfl⟩
set_option maxRecDepth 100000 in
theorem cf_X3_steeper : CF yX3_steeper cX3_steeper 13 (some .boolean) 3 := ⟨gw_in 734 rfl rfl, gw_in 47 (by decide +kernel) rfl, by decide +kernel, by decide +kernel, by decide +kernel⟩
theorem cv_X3_steeper : CV yX3_steeper := ⟨gw_in 733 (by decide +kernel) rfl, gw_in 42 (by decide +kernel) rfl⟩
set_option maxRecDepth 100000 in
theorem cf_X3_findCorners : CF yX3_findCorners cX3_findCorners 6 none 0 := ⟨gw_in 726 rfl rfl, gw_in 47 (by decide +kernel) rfl, by decide +kernel, by decide +kernel, by decide +kernel⟩
theorem cv_X3_findCorners : CV yX3_findCorners := ⟨gw_in 725 (by decide +kernel) rfl, gw_in 40 (by decide +kernel) rfl⟩
set_option maxRecDepth 100000 in
theorem cf_X3_corners : CF yX3_corners cX3_corners 1 (some .int) 0 := ⟨gw_in 722 rfl rfl, gw_in 47 (by decide +kernel) rfl, by decide +kernel, by decide +kernel, by decide +kernel⟩
theorem cv_X3_corners : CV yX3_corners := ⟨gw_in 720 (by decide +kernel) rfl, gw_in 721 (by decide +kernel) rfl⟩
set_option maxRecDepth 100000 in
theorem cf_X3_corner : CF yX3_corner cX3_corner 4 (some .long) 2 := ⟨gw_in 738 rfl rfl, gw_in 47 (by decide +kernel) rfl, by decide +kernel, by decide +kernel, by decide +kernel⟩
theorem cv_X3_corner : CV yX3_corner := ⟨gw_in 736 (by decide +kernel) rfl, gw_in 737 (by decide +kernel) rfl⟩
set_option maxRecDepth 100000 in
theorem cf_X2_begin : CF yX2_begin cX2_begin 3 none 2 := ⟨gw_in 256 rfl rfl, gw_in 44 (by decide +kernel) rfl, by decide +kernel, by decide +kernel, by decide +kernel⟩
theorem cv_X2_begin : CV yX2_begin := ⟨gw_in 254 (by decide +kernel) rfl, gw_in 255 (by decide +kernel) rfl⟩
set_option maxRecDepth 100000 in
theorem cf_X2_coefficient : CF yX2_coefficient cX2_coefficient 4 none 3 := ⟨gw_in 336 rfl rfl, gw_in 44 (by decide +kernel) rfl, by decide +kernel, by decide +kernel, by decide +kernel⟩
theorem cv_X2_coefficient : CV yX2_coefficient := ⟨gw_in 334 (by decide +kernel) rfl, gw_in 335 (by decide +kernel) rfl⟩
set_option maxRecDepth 100000 in
theorem cf_X2_row : CF yX2_row cX2_row 4 none 3 := ⟨gw_in 373 rfl rfl, gw_in 44 (by decide +kernel) rfl, by decide +kernel, by decide +kernel, by decide +kernel⟩
theorem cv_X2_row : CV yX2_row := ⟨gw_in 371 (by decide +kernel) rfl, gw_in 372 (by decide +kernel) rfl⟩
set_option maxRecDepth 100000 in
theorem cf_X2_want : CF yX2_want cX2_want 3 none 2 := ⟨gw_in 388 rfl rfl, gw_in 44 (by decide +kernel) rfl, by decide +kernel, by decide +kernel, by decide +kernel⟩
theorem cv_X2_want : CV yX2_want := ⟨gw_in 386 (by decide +kernel) rfl, gw_in 387 (by decide +kernel) rfl⟩
set_option maxRecDepth 100000 in
theorem cf_X2_drift : CF yX2_drift cX2_drift 3 none 2 := ⟨gw_in 399 rfl rfl, gw_in 44 (by decide +kernel) rfl, by decide +kernel, by decide +kernel, by decide +kernel⟩
theorem cv_X2_drift : CV yX2_drift := ⟨gw_in 397 (by decide +kernel) rfl, gw_in 398 (by decide +kernel) rfl⟩
set_option maxRecDepth 100000 in
theorem cf_X2_value : CF yX2_value cX2_value 3 (some .long) 1 := ⟨gw_in 411 rfl rfl, gw_in 44 (by decide +kernel) rfl, by decide +kernel, by decide +kernel, by decide +kernel⟩
theorem cv_X2_value : CV yX2_value := ⟨gw_in 409 (by decide +kernel) rfl, gw_in 410 (by decide +kernel) rfl⟩
set_option maxRecDepth 100000 in
theorem cf_X2_point : CF yX2_point cX2_point 4 (some .long) 2 := ⟨gw_in 458 rfl rfl, gw_in 44 (by decide +kernel) rfl, by decide +kernel, by decide +kernel, by decide +kernel⟩
theorem cv_X2_point : CV yX2_point := ⟨gw_in 456 (by decide +kernel) rfl, gw_in 457 (by decide +kernel) rfl⟩
set_option maxRecDepth 100000 in
theorem cf_X2_range : CF yX2_range cX2_range 5 (some .long) 3 := ⟨gw_in 466 rfl rfl, gw_in 44 (by decide +kernel) rfl, by decide +kernel, by decide +kernel, by decide +kernel⟩
theorem cv_X2_range : CV yX2_range := ⟨gw_in 464 (by decide +kernel) rfl, gw_in 465 (by decide +kernel) rfl⟩
set_option maxRecDepth 100000 in
theorem cf_X2_tight : CF yX2_tight cX2_tight 2 (some .boolean) 1 := ⟨gw_in 499 rfl rfl, gw_in 44 (by decide +kernel) rfl, by decide +kernel, by decide +kernel, by decide +kernel⟩
theorem cv_X2_tight : CV yX2_tight := ⟨gw_in 497 (by decide +kernel) rfl, gw_in 498 (by decide +kernel) rfl⟩
set_option maxRecDepth 100000 in
theorem cf_X2_conflict : CF yX2_conflict cX2_conflict 4 (some .int) 0 := ⟨gw_in 511 rfl rfl, gw_in 44 (by decide +kernel) rfl, by decide +kernel, by decide +kernel, by decide +kernel⟩
theorem cv_X2_conflict : CV yX2_conflict := ⟨gw_in 509 (by decide +kernel) rfl, gw_in 510 (by decide +kernel) rfl⟩
set_option maxRecDepth 100000 in
theorem cf_X2_corner : CF yX2_corner cX2_corner 7 (some .long) 2 := ⟨gw_in 518 rfl rfl, gw_in 44 (by decide +kernel) rfl, by decide +kernel, by decide +kernel, by decide +kernel⟩
theorem cv_X2_corner : CV yX2_corner := ⟨gw_in 516 (by decide +kernel) rfl, gw_in 517 (by decide +kernel) rfl⟩
section GF
variable {θ : Th} {p : Program} {l : Launch} {e : Env} {R : Room} {s : State} {m : MethodId} {args : Array Value} {below : List Frame} {meth : Method} {c : Code} {H H0 : Heap} {locs : List Loc} {cells slots : Nat} {Q : State → Prop} {cc : ByteArray} {nL : Nat} {own : String} {ret : Option FieldType} {M : Mm} {pc : Nat} {ls : Array Slot} {rest : List Value}
theorem gf_X2_sheet (C : Cx θ p s m args meth c cc nL own ret) (hw : wd θ M H) {index : Nat} (hlink : Cond.fieldLink own index "RationalProgram" "sheet" "LRationalProgram$Sheet;" ∈ gw) (hdg : decode cc pc = .ok (.getfield index, 3)) (kk : W p l e R s m args below meth c H locs cells slots Q (F0 m (pc + 3) ls (.ref (tad θ 1) :: rest))) : W p l e R s m args below meth c H locs cells slots Q (F0 m pc ls (.ref (tad θ 0) :: rest)) := k_get C hw (T := TX2) (N := 3) (ci := 2) 0 0 (by decide) gin2 rfl rfl (by decide) hlink rfl hdg kk
theorem gf_X2_cone (C : Cx θ p s m args meth c cc nL own ret) (hw : wd θ M H) {index : Nat} (hlink : Cond.fieldLink own index "RationalProgram" "cone" "LRationalProgram$Cone;" ∈ gw) (hdg : decode cc pc = .ok (.getfield index, 3)) (kk : W p l e R s m args below meth c H locs cells slots Q (F0 m (pc + 3) ls (.ref (tad θ 2) :: rest))) : W p l e R s m args below meth c H locs cells slots Q (F0 m pc ls (.ref (tad θ 0) :: rest)) := k_get C hw (T := TX2) (N := 3) (ci := 2) 0 1 (by decide) gin2 rfl rfl (by decide) hlink rfl hdg kk
theorem gf_X2_bends (C : Cx θ p s m args meth c cc nL own ret) (hw : wd θ M H) {index : Nat} (hlink : Cond.fieldLink own index "RationalProgram" "bends" "[I" ∈ gw) (hdg : decode cc pc = .ok (.getfield index, 3)) (kk : W p l e R s m args below meth c H locs cells slots Q (F0 m (pc + 3) ls (.ref (tad θ (4 + 5)) :: rest))) : W p l e R s m args below meth c H locs cells slots Q (F0 m pc ls (.ref (tad θ 0) :: rest)) := k_get C hw (T := TX2) (N := 3) (ci := 2) 0 2 (by decide) gin2 rfl rfl (by decide) hlink rfl hdg kk
theorem gf_X1_variables (C : Cx θ p s m args meth c cc nL own ret) (hw : wd θ M H) {index : Nat} (hlink : Cond.fieldLink own index "RationalProgram$Sheet" "variables" "I" ∈ gw) (hdg : decode cc pc = .ok (.getfield index, 3)) (kk : W p l e R s m args below meth c H locs cells slots Q (F0 m (pc + 3) ls (.int (M.1 0) :: rest))) : W p l e R s m args below meth c H locs cells slots Q (F0 m pc ls (.ref (tad θ 1) :: rest)) := k_get C hw (T := TX1) (N := 7) (ci := 1) 1 0 (by decide) gin1 rfl rfl (by decide) hlink rfl hdg kk
theorem pf_X1_variables (C : Cx θ p s m args meth c cc nL own ret) (hw : wd θ M H) (hS : va_S (tA θ) H0 H locs) {index : Nat} {v : Int32} (hlink : Cond.fieldLink own index "RationalProgram$Sheet" "variables" "I" ∈ gw) (hdg : decode cc pc = .ok (.putfield index, 3)) (kk : ∀ (H1 : Heap) (locs1 : List Loc), wd θ (wI M 0 v) H1 → va_S (tA θ) H0 H1 locs1 → W p l e R s m args below meth c H1 locs1 cells slots Q (F0 m (pc + 3) ls rest)) : W p l e R s m args below meth c H locs cells slots Q (F0 m pc ls (.int v :: .ref (tad θ 1) :: rest)) := k_put C hw hS (T := TX1) (N := 7) (ci := 1) 1 0 0 (by decide) gin1 tyX1 tyX1_ok nmX1 rfl rfl (by decide) rfl (by decide +kernel) (Nat.le_of_ble_eq_true rfl) rfl hlink hdg kk
theorem gf_X1_rows (C : Cx θ p s m args meth c cc nL own ret) (hw : wd θ M H) {index : Nat} (hlink : Cond.fieldLink own index "RationalProgram$Sheet" "rows" "I" ∈ gw) (hdg : decode cc pc = .ok (.getfield index, 3)) (kk : W p l e R s m args below meth c H locs cells slots Q (F0 m (pc + 3) ls (.int (M.1 1) :: rest))) : W p l e R s m args below meth c H locs cells slots Q (F0 m pc ls (.ref (tad θ 1) :: rest)) := k_get C hw (T := TX1) (N := 7) (ci := 1) 1 1 (by decide) gin1 rfl rfl (by decide) hlink rfl hdg kk
theorem pf_X1_rows (C : Cx θ p s m args meth c cc nL own ret) (hw : wd θ M H) (hS : va_S (tA θ) H0 H locs) {index : Nat} {v : Int32} (hlink : Cond.fieldLink own index "RationalProgram$Sheet" "rows" "I" ∈ gw) (hdg : decode cc pc = .ok (.putfield index, 3)) (kk : ∀ (H1 : Heap) (locs1 : List Loc), wd θ (wI M 1 v) H1 → va_S (tA θ) H0 H1 locs1 → W p l e R s m args below meth c H1 locs1 cells slots Q (F0 m (pc + 3) ls rest)) : W p l e R s m args below meth c H locs cells slots Q (F0 m pc ls (.int v :: .ref (tad θ 1) :: rest)) := k_put C hw hS (T := TX1) (N := 7) (ci := 1) 1 1 1 (by decide) gin1 tyX1 tyX1_ok nmX1 rfl rfl (by decide) rfl (by decide +kernel) (Nat.le_of_ble_eq_true rfl) rfl hlink hdg kk
theorem gf_X1_entries (C : Cx θ p s m args meth c cc nL own ret) (hw : wd θ M H) {index : Nat} (hlink : Cond.fieldLink own index "RationalProgram$Sheet" "entries" "[[J" ∈ gw) (hdg : decode cc pc = .ok (.getfield index, 3)) (kk : W p l e R s m args below meth c H locs cells slots Q (F0 m (pc + 3) ls (.ref (tad θ (19 + 0)) :: rest))) : W p l e R s m args below meth c H locs cells slots Q (F0 m pc ls (.ref (tad θ 1) :: rest)) := k_get C hw (T := TX1) (N := 7) (ci := 1) 1 2 (by decide) gin1 rfl rfl (by decide) hlink rfl hdg kk
theorem gf_X1_senses (C : Cx θ p s m args meth c cc nL own ret) (hw : wd θ M H) {index : Nat} (hlink : Cond.fieldLink own index "RationalProgram$Sheet" "senses" "[I" ∈ gw) (hdg : decode cc pc = .ok (.getfield index, 3)) (kk : W p l e R s m args below meth c H locs cells slots Q (F0 m (pc + 3) ls (.ref (tad θ (4 + 0)) :: rest))) : W p l e R s m args below meth c H locs cells slots Q (F0 m pc ls (.ref (tad θ 1) :: rest)) := k_get C hw (T := TX1) (N := 7) (ci := 1) 1 3 (by decide) gin1 rfl rfl (by decide) hlink rfl hdg kk
theorem gf_X1_rights (C : Cx θ p s m args meth c cc nL own ret) (hw : wd θ M H) {index : Nat} (hlink : Cond.fieldLink own index "RationalProgram$Sheet" "rights" "[I" ∈ gw) (hdg : decode cc pc = .ok (.getfield index, 3)) (kk : W p l e R s m args below meth c H locs cells slots Q (F0 m (pc + 3) ls (.ref (tad θ (4 + 1)) :: rest))) : W p l e R s m args below meth c H locs cells slots Q (F0 m pc ls (.ref (tad θ 1) :: rest)) := k_get C hw (T := TX1) (N := 7) (ci := 1) 1 4 (by decide) gin1 rfl rfl (by decide) hlink rfl hdg kk
theorem gf_X1_drifts (C : Cx θ p s m args meth c cc nL own ret) (hw : wd θ M H) {index : Nat} (hlink : Cond.fieldLink own index "RationalProgram$Sheet" "drifts" "[I" ∈ gw) (hdg : decode cc pc = .ok (.getfield index, 3)) (kk : W p l e R s m args below meth c H locs cells slots Q (F0 m (pc + 3) ls (.ref (tad θ (4 + 2)) :: rest))) : W p l e R s m args below meth c H locs cells slots Q (F0 m pc ls (.ref (tad θ 1) :: rest)) := k_get C hw (T := TX1) (N := 7) (ci := 1) 1 5 (by decide) gin1 rfl rfl (by decide) hlink rfl hdg kk
theorem gf_X1_wants (C : Cx θ p s m args meth c cc nL own ret) (hw : wd θ M H) {index : Nat} (hlink : Cond.fieldLink own index "RationalProgram$Sheet" "wants" "[I" ∈ gw) (hdg : decode cc pc = .ok (.getfield index, 3)) (kk : W p l e R s m args below meth c H locs cells slots Q (F0 m (pc + 3) ls (.ref (tad θ (4 + 3)) :: rest))) : W p l e R s m args below meth c H locs cells slots Q (F0 m pc ls (.ref (tad θ 1) :: rest)) := k_get C hw (T := TX1) (N := 7) (ci := 1) 1 6 (by decide) gin1 rfl rfl (by decide) hlink rfl hdg kk
theorem gf_X0_rays (C : Cx θ p s m args meth c cc nL own ret) (hw : wd θ M H) {index : Nat} (hlink : Cond.fieldLink own index "RationalProgram$Cone" "rays" "[[J" ∈ gw) (hdg : decode cc pc = .ok (.getfield index, 3)) (kk : W p l e R s m args below meth c H locs cells slots Q (F0 m (pc + 3) ls (.ref (tad θ (19 + 2)) :: rest))) : W p l e R s m args below meth c H locs cells slots Q (F0 m pc ls (.ref (tad θ 2) :: rest)) := k_get C hw (T := TX0) (N := 6) (ci := 0) 2 0 (by decide) gin0 rfl rfl (by decide) hlink rfl hdg kk
theorem gf_X0_count (C : Cx θ p s m args meth c cc nL own ret) (hw : wd θ M H) {index : Nat} (hlink : Cond.fieldLink own index "RationalProgram$Cone" "count" "I" ∈ gw) (hdg : decode cc pc = .ok (.getfield index, 3)) (kk : W p l e R s m args below meth c H locs cells slots Q (F0 m (pc + 3) ls (.int (M.1 2) :: rest))) : W p l e R s m args below meth c H locs cells slots Q (F0 m pc ls (.ref (tad θ 2) :: rest)) := k_get C hw (T := TX0) (N := 6) (ci := 0) 2 1 (by decide) gin0 rfl rfl (by decide) hlink rfl hdg kk
theorem pf_X0_count (C : Cx θ p s m args meth c cc nL own ret) (hw : wd θ M H) (hS : va_S (tA θ) H0 H locs) {index : Nat} {v : Int32} (hlink : Cond.fieldLink own index "RationalProgram$Cone" "count" "I" ∈ gw) (hdg : decode cc pc = .ok (.putfield index, 3)) (kk : ∀ (H1 : Heap) (locs1 : List Loc), wd θ (wI M 2 v) H1 → va_S (tA θ) H0 H1 locs1 → W p l e R s m args below meth c H1 locs1 cells slots Q (F0 m (pc + 3) ls rest)) : W p l e R s m args below meth c H locs cells slots Q (F0 m pc ls (.int v :: .ref (tad θ 2) :: rest)) := k_put C hw hS (T := TX0) (N := 6) (ci := 0) 2 1 2 (by decide) gin0 tyX0 tyX0_ok nmX0 rfl rfl (by decide) rfl (by decide +kernel) (Nat.le_of_ble_eq_true rfl) rfl hlink hdg kk
theorem gf_X0_collected (C : Cx θ p s m args meth c cc nL own ret) (hw : wd θ M H) {index : Nat} (hlink : Cond.fieldLink own index "RationalProgram$Cone" "collected" "I" ∈ gw) (hdg : decode cc pc = .ok (.getfield index, 3)) (kk : W p l e R s m args below meth c H locs cells slots Q (F0 m (pc + 3) ls (.int (M.1 3) :: rest))) : W p l e R s m args below meth c H locs cells slots Q (F0 m pc ls (.ref (tad θ 2) :: rest)) := k_get C hw (T := TX0) (N := 6) (ci := 0) 2 2 (by decide) gin0 rfl rfl (by decide) hlink rfl hdg kk
theorem pf_X0_collected (C : Cx θ p s m args meth c cc nL own ret) (hw : wd θ M H) (hS : va_S (tA θ) H0 H locs) {index : Nat} {v : Int32} (hlink : Cond.fieldLink own index "RationalProgram$Cone" "collected" "I" ∈ gw) (hdg : decode cc pc = .ok (.putfield index, 3)) (kk : ∀ (H1 : Heap) (locs1 : List Loc), wd θ (wI M 3 v) H1 → va_S (tA θ) H0 H1 locs1 → W p l e R s m args below meth c H1 locs1 cells slots Q (F0 m (pc + 3) ls rest)) : W p l e R s m args below meth c H locs cells slots Q (F0 m pc ls (.int v :: .ref (tad θ 2) :: rest)) := k_put C hw hS (T := TX0) (N := 6) (ci := 0) 2 2 3 (by decide) gin0 tyX0 tyX0_ok nmX0 rfl rfl (by decide) rfl (by decide +kernel) (Nat.le_of_ble_eq_true rfl) rfl hlink hdg kk
theorem gf_X0_grid (C : Cx θ p s m args meth c cc nL own ret) (hw : wd θ M H) {index : Nat} (hlink : Cond.fieldLink own index "RationalProgram$Cone" "grid" "[[J" ∈ gw) (hdg : decode cc pc = .ok (.getfield index, 3)) (kk : W p l e R s m args below meth c H locs cells slots Q (F0 m (pc + 3) ls (.ref (tad θ (19 + 1)) :: rest))) : W p l e R s m args below meth c H locs cells slots Q (F0 m pc ls (.ref (tad θ 2) :: rest)) := k_get C hw (T := TX0) (N := 6) (ci := 0) 2 3 (by decide) gin0 rfl rfl (by decide) hlink rfl hdg kk
theorem gf_X0_places (C : Cx θ p s m args meth c cc nL own ret) (hw : wd θ M H) {index : Nat} (hlink : Cond.fieldLink own index "RationalProgram$Cone" "places" "[I" ∈ gw) (hdg : decode cc pc = .ok (.getfield index, 3)) (kk : W p l e R s m args below meth c H locs cells slots Q (F0 m (pc + 3) ls (.ref (tad θ (4 + 4)) :: rest))) : W p l e R s m args below meth c H locs cells slots Q (F0 m pc ls (.ref (tad θ 2) :: rest)) := k_get C hw (T := TX0) (N := 6) (ci := 0) 2 4 (by decide) gin0 rfl rfl (by decide) hlink rfl hdg kk
theorem gf_X0_parts (C : Cx θ p s m args meth c cc nL own ret) (hw : wd θ M H) {index : Nat} (hlink : Cond.fieldLink own index "RationalProgram$Cone" "parts" "[J" ∈ gw) (hdg : decode cc pc = .ok (.getfield index, 3)) (kk : W p l e R s m args below meth c H locs cells slots Q (F0 m (pc + 3) ls (.ref (tad θ (22 + 0)) :: rest))) : W p l e R s m args below meth c H locs cells slots Q (F0 m pc ls (.ref (tad θ 2) :: rest)) := k_get C hw (T := TX0) (N := 6) (ci := 0) 2 5 (by decide) gin0 rfl rfl (by decide) hlink rfl hdg kk
theorem gf_X3_n (C : Cx θ p s m args meth c cc nL own ret) (hw : wd θ M H) {index : Nat} (hlink : Cond.fieldLink own index "RationalProgramModel" "n" "I" ∈ gw) (hdg : decode cc pc = .ok (.getfield index, 3)) (kk : W p l e R s m args below meth c H locs cells slots Q (F0 m (pc + 3) ls (.int (M.1 4) :: rest))) : W p l e R s m args below meth c H locs cells slots Q (F0 m pc ls (.ref (tad θ 3) :: rest)) := k_get C hw (T := TX3) (N := 20) (ci := 3) 3 0 (by decide) gin3 rfl rfl (by decide) hlink rfl hdg kk
theorem pf_X3_n (C : Cx θ p s m args meth c cc nL own ret) (hw : wd θ M H) (hS : va_S (tA θ) H0 H locs) {index : Nat} {v : Int32} (hlink : Cond.fieldLink own index "RationalProgramModel" "n" "I" ∈ gw) (hdg : decode cc pc = .ok (.putfield index, 3)) (kk : ∀ (H1 : Heap) (locs1 : List Loc), wd θ (wI M 4 v) H1 → va_S (tA θ) H0 H1 locs1 → W p l e R s m args below meth c H1 locs1 cells slots Q (F0 m (pc + 3) ls rest)) : W p l e R s m args below meth c H locs cells slots Q (F0 m pc ls (.int v :: .ref (tad θ 3) :: rest)) := k_put C hw hS (T := TX3) (N := 20) (ci := 3) 3 0 4 (by decide) gin3 tyX3 tyX3_ok nmX3 rfl rfl (by decide) rfl (by decide +kernel) (Nat.le_of_ble_eq_true rfl) rfl hlink hdg kk
theorem gf_X3_m (C : Cx θ p s m args meth c cc nL own ret) (hw : wd θ M H) {index : Nat} (hlink : Cond.fieldLink own index "RationalProgramModel" "m" "I" ∈ gw) (hdg : decode cc pc = .ok (.getfield index, 3)) (kk : W p l e R s m args below meth c H locs cells slots Q (F0 m (pc + 3) ls (.int (M.1 5) :: rest))) : W p l e R s m args below meth c H locs cells slots Q (F0 m pc ls (.ref (tad θ 3) :: rest)) := k_get C hw (T := TX3) (N := 20) (ci := 3) 3 1 (by decide) gin3 rfl rfl (by decide) hlink rfl hdg kk
theorem pf_X3_m (C : Cx θ p s m args meth c cc nL own ret) (hw : wd θ M H) (hS : va_S (tA θ) H0 H locs) {index : Nat} {v : Int32} (hlink : Cond.fieldLink own index "RationalProgramModel" "m" "I" ∈ gw) (hdg : decode cc pc = .ok (.putfield index, 3)) (kk : ∀ (H1 : Heap) (locs1 : List Loc), wd θ (wI M 5 v) H1 → va_S (tA θ) H0 H1 locs1 → W p l e R s m args below meth c H1 locs1 cells slots Q (F0 m (pc + 3) ls rest)) : W p l e R s m args below meth c H locs cells slots Q (F0 m pc ls (.int v :: .ref (tad θ 3) :: rest)) := k_put C hw hS (T := TX3) (N := 20) (ci := 3) 3 1 5 (by decide) gin3 tyX3 tyX3_ok nmX3 rfl rfl (by decide) rfl (by decide +kernel) (Nat.le_of_ble_eq_true rfl) rfl hlink hdg kk
theorem gf_X3_a (C : Cx θ p s m args meth c cc nL own ret) (hw : wd θ M H) {index : Nat} (hlink : Cond.fieldLink own index "RationalProgramModel" "a" "[I" ∈ gw) (hdg : decode cc pc = .ok (.getfield index, 3)) (kk : W p l e R s m args below meth c H locs cells slots Q (F0 m (pc + 3) ls (.ref (tad θ (4 + 6)) :: rest))) : W p l e R s m args below meth c H locs cells slots Q (F0 m pc ls (.ref (tad θ 3) :: rest)) := k_get C hw (T := TX3) (N := 20) (ci := 3) 3 2 (by decide) gin3 rfl rfl (by decide) hlink rfl hdg kk
theorem gf_X3_b (C : Cx θ p s m args meth c cc nL own ret) (hw : wd θ M H) {index : Nat} (hlink : Cond.fieldLink own index "RationalProgramModel" "b" "[I" ∈ gw) (hdg : decode cc pc = .ok (.getfield index, 3)) (kk : W p l e R s m args below meth c H locs cells slots Q (F0 m (pc + 3) ls (.ref (tad θ (4 + 7)) :: rest))) : W p l e R s m args below meth c H locs cells slots Q (F0 m pc ls (.ref (tad θ 3) :: rest)) := k_get C hw (T := TX3) (N := 20) (ci := 3) 3 3 (by decide) gin3 rfl rfl (by decide) hlink rfl hdg kk
theorem gf_X3_c (C : Cx θ p s m args meth c cc nL own ret) (hw : wd θ M H) {index : Nat} (hlink : Cond.fieldLink own index "RationalProgramModel" "c" "[I" ∈ gw) (hdg : decode cc pc = .ok (.getfield index, 3)) (kk : W p l e R s m args below meth c H locs cells slots Q (F0 m (pc + 3) ls (.ref (tad θ (4 + 8)) :: rest))) : W p l e R s m args below meth c H locs cells slots Q (F0 m pc ls (.ref (tad θ 3) :: rest)) := k_get C hw (T := TX3) (N := 20) (ci := 3) 3 4 (by decide) gin3 rfl rfl (by decide) hlink rfl hdg kk
theorem gf_X3_e (C : Cx θ p s m args meth c cc nL own ret) (hw : wd θ M H) {index : Nat} (hlink : Cond.fieldLink own index "RationalProgramModel" "e" "[I" ∈ gw) (hdg : decode cc pc = .ok (.getfield index, 3)) (kk : W p l e R s m args below meth c H locs cells slots Q (F0 m (pc + 3) ls (.ref (tad θ (4 + 9)) :: rest))) : W p l e R s m args below meth c H locs cells slots Q (F0 m pc ls (.ref (tad θ 3) :: rest)) := k_get C hw (T := TX3) (N := 20) (ci := 3) 3 5 (by decide) gin3 rfl rfl (by decide) hlink rfl hdg kk
theorem gf_X3_senses (C : Cx θ p s m args meth c cc nL own ret) (hw : wd θ M H) {index : Nat} (hlink : Cond.fieldLink own index "RationalProgramModel" "senses" "[I" ∈ gw) (hdg : decode cc pc = .ok (.getfield index, 3)) (kk : W p l e R s m args below meth c H locs cells slots Q (F0 m (pc + 3) ls (.ref (tad θ (4 + 10)) :: rest))) : W p l e R s m args below meth c H locs cells slots Q (F0 m pc ls (.ref (tad θ 3) :: rest)) := k_get C hw (T := TX3) (N := 20) (ci := 3) 3 6 (by decide) gin3 rfl rfl (by decide) hlink rfl hdg kk
theorem gf_X3_thrown (C : Cx θ p s m args meth c cc nL own ret) (hw : wd θ M H) {index : Nat} (hlink : Cond.fieldLink own index "RationalProgramModel" "thrown" "I" ∈ gw) (hdg : decode cc pc = .ok (.getfield index, 3)) (kk : W p l e R s m args below meth c H locs cells slots Q (F0 m (pc + 3) ls (.int (M.1 6) :: rest))) : W p l e R s m args below meth c H locs cells slots Q (F0 m pc ls (.ref (tad θ 3) :: rest)) := k_get C hw (T := TX3) (N := 20) (ci := 3) 3 7 (by decide) gin3 rfl rfl (by decide) hlink rfl hdg kk
theorem pf_X3_thrown (C : Cx θ p s m args meth c cc nL own ret) (hw : wd θ M H) (hS : va_S (tA θ) H0 H locs) {index : Nat} {v : Int32} (hlink : Cond.fieldLink own index "RationalProgramModel" "thrown" "I" ∈ gw) (hdg : decode cc pc = .ok (.putfield index, 3)) (kk : ∀ (H1 : Heap) (locs1 : List Loc), wd θ (wI M 6 v) H1 → va_S (tA θ) H0 H1 locs1 → W p l e R s m args below meth c H1 locs1 cells slots Q (F0 m (pc + 3) ls rest)) : W p l e R s m args below meth c H locs cells slots Q (F0 m pc ls (.int v :: .ref (tad θ 3) :: rest)) := k_put C hw hS (T := TX3) (N := 20) (ci := 3) 3 7 6 (by decide) gin3 tyX3 tyX3_ok nmX3 rfl rfl (by decide) rfl (by decide +kernel) (Nat.le_of_ble_eq_true rfl) rfl hlink hdg kk
theorem gf_X3_width (C : Cx θ p s m args meth c cc nL own ret) (hw : wd θ M H) {index : Nat} (hlink : Cond.fieldLink own index "RationalProgramModel" "width" "I" ∈ gw) (hdg : decode cc pc = .ok (.getfield index, 3)) (kk : W p l e R s m args below meth c H locs cells slots Q (F0 m (pc + 3) ls (.int (M.1 7) :: rest))) : W p l e R s m args below meth c H locs cells slots Q (F0 m pc ls (.ref (tad θ 3) :: rest)) := k_get C hw (T := TX3) (N := 20) (ci := 3) 3 8 (by decide) gin3 rfl rfl (by decide) hlink rfl hdg kk
theorem pf_X3_width (C : Cx θ p s m args meth c cc nL own ret) (hw : wd θ M H) (hS : va_S (tA θ) H0 H locs) {index : Nat} {v : Int32} (hlink : Cond.fieldLink own index "RationalProgramModel" "width" "I" ∈ gw) (hdg : decode cc pc = .ok (.putfield index, 3)) (kk : ∀ (H1 : Heap) (locs1 : List Loc), wd θ (wI M 7 v) H1 → va_S (tA θ) H0 H1 locs1 → W p l e R s m args below meth c H1 locs1 cells slots Q (F0 m (pc + 3) ls rest)) : W p l e R s m args below meth c H locs cells slots Q (F0 m pc ls (.int v :: .ref (tad θ 3) :: rest)) := k_put C hw hS (T := TX3) (N := 20) (ci := 3) 3 8 7 (by decide) gin3 tyX3 tyX3_ok nmX3 rfl rfl (by decide) rfl (by decide +kernel) (Nat.le_of_ble_eq_true rfl) rfl hlink hdg kk
theorem gf_X3_bounds (C : Cx θ p s m args meth c cc nL own ret) (hw : wd θ M H) {index : Nat} (hlink : Cond.fieldLink own index "RationalProgramModel" "bounds" "I" ∈ gw) (hdg : decode cc pc = .ok (.getfield index, 3)) (kk : W p l e R s m args below meth c H locs cells slots Q (F0 m (pc + 3) ls (.int (M.1 8) :: rest))) : W p l e R s m args below meth c H locs cells slots Q (F0 m pc ls (.ref (tad θ 3) :: rest)) := k_get C hw (T := TX3) (N := 20) (ci := 3) 3 9 (by decide) gin3 rfl rfl (by decide) hlink rfl hdg kk
theorem pf_X3_bounds (C : Cx θ p s m args meth c cc nL own ret) (hw : wd θ M H) (hS : va_S (tA θ) H0 H locs) {index : Nat} {v : Int32} (hlink : Cond.fieldLink own index "RationalProgramModel" "bounds" "I" ∈ gw) (hdg : decode cc pc = .ok (.putfield index, 3)) (kk : ∀ (H1 : Heap) (locs1 : List Loc), wd θ (wI M 8 v) H1 → va_S (tA θ) H0 H1 locs1 → W p l e R s m args below meth c H1 locs1 cells slots Q (F0 m (pc + 3) ls rest)) : W p l e R s m args below meth c H locs cells slots Q (F0 m pc ls (.int v :: .ref (tad θ 3) :: rest)) := k_put C hw hS (T := TX3) (N := 20) (ci := 3) 3 9 8 (by decide) gin3 tyX3 tyX3_ok nmX3 rfl rfl (by decide) rfl (by decide +kernel) (Nat.le_of_ble_eq_true rfl) rfl hlink hdg kk
theorem gf_X3_bound (C : Cx θ p s m args meth c cc nL own ret) (hw : wd θ M H) {index : Nat} (hlink : Cond.fieldLink own index "RationalProgramModel" "bound" "[I" ∈ gw) (hdg : decode cc pc = .ok (.getfield index, 3)) (kk : W p l e R s m args below meth c H locs cells slots Q (F0 m (pc + 3) ls (.ref (tad θ (4 + 11)) :: rest))) : W p l e R s m args below meth c H locs cells slots Q (F0 m pc ls (.ref (tad θ 3) :: rest)) := k_get C hw (T := TX3) (N := 20) (ci := 3) 3 10 (by decide) gin3 rfl rfl (by decide) hlink rfl hdg kk
theorem gf_X3_boundSense (C : Cx θ p s m args meth c cc nL own ret) (hw : wd θ M H) {index : Nat} (hlink : Cond.fieldLink own index "RationalProgramModel" "boundSense" "[I" ∈ gw) (hdg : decode cc pc = .ok (.getfield index, 3)) (kk : W p l e R s m args below meth c H locs cells slots Q (F0 m (pc + 3) ls (.ref (tad θ (4 + 12)) :: rest))) : W p l e R s m args below meth c H locs cells slots Q (F0 m pc ls (.ref (tad θ 3) :: rest)) := k_get C hw (T := TX3) (N := 20) (ci := 3) 3 11 (by decide) gin3 rfl rfl (by decide) hlink rfl hdg kk
theorem gf_X3_boundRight (C : Cx θ p s m args meth c cc nL own ret) (hw : wd θ M H) {index : Nat} (hlink : Cond.fieldLink own index "RationalProgramModel" "boundRight" "[I" ∈ gw) (hdg : decode cc pc = .ok (.getfield index, 3)) (kk : W p l e R s m args below meth c H locs cells slots Q (F0 m (pc + 3) ls (.ref (tad θ (4 + 13)) :: rest))) : W p l e R s m args below meth c H locs cells slots Q (F0 m pc ls (.ref (tad θ 3) :: rest)) := k_get C hw (T := TX3) (N := 20) (ci := 3) 3 12 (by decide) gin3 rfl rfl (by decide) hlink rfl hdg kk
theorem gf_X3_matrix (C : Cx θ p s m args meth c cc nL own ret) (hw : wd θ M H) {index : Nat} (hlink : Cond.fieldLink own index "RationalProgramModel" "matrix" "[J" ∈ gw) (hdg : decode cc pc = .ok (.getfield index, 3)) (kk : W p l e R s m args below meth c H locs cells slots Q (F0 m (pc + 3) ls (.ref (tad θ (22 + 1)) :: rest))) : W p l e R s m args below meth c H locs cells slots Q (F0 m pc ls (.ref (tad θ 3) :: rest)) := k_get C hw (T := TX3) (N := 20) (ci := 3) 3 13 (by decide) gin3 rfl rfl (by decide) hlink rfl hdg kk
theorem gf_X3_found (C : Cx θ p s m args meth c cc nL own ret) (hw : wd θ M H) {index : Nat} (hlink : Cond.fieldLink own index "RationalProgramModel" "found" "I" ∈ gw) (hdg : decode cc pc = .ok (.getfield index, 3)) (kk : W p l e R s m args below meth c H locs cells slots Q (F0 m (pc + 3) ls (.int (M.1 9) :: rest))) : W p l e R s m args below meth c H locs cells slots Q (F0 m pc ls (.ref (tad θ 3) :: rest)) := k_get C hw (T := TX3) (N := 20) (ci := 3) 3 14 (by decide) gin3 rfl rfl (by decide) hlink rfl hdg kk
theorem pf_X3_found (C : Cx θ p s m args meth c cc nL own ret) (hw : wd θ M H) (hS : va_S (tA θ) H0 H locs) {index : Nat} {v : Int32} (hlink : Cond.fieldLink own index "RationalProgramModel" "found" "I" ∈ gw) (hdg : decode cc pc = .ok (.putfield index, 3)) (kk : ∀ (H1 : Heap) (locs1 : List Loc), wd θ (wI M 9 v) H1 → va_S (tA θ) H0 H1 locs1 → W p l e R s m args below meth c H1 locs1 cells slots Q (F0 m (pc + 3) ls rest)) : W p l e R s m args below meth c H locs cells slots Q (F0 m pc ls (.int v :: .ref (tad θ 3) :: rest)) := k_put C hw hS (T := TX3) (N := 20) (ci := 3) 3 14 9 (by decide) gin3 tyX3 tyX3_ok nmX3 rfl rfl (by decide) rfl (by decide +kernel) (Nat.le_of_ble_eq_true rfl) rfl hlink hdg kk
theorem gf_X3_above (C : Cx θ p s m args meth c cc nL own ret) (hw : wd θ M H) {index : Nat} (hlink : Cond.fieldLink own index "RationalProgramModel" "above" "[J" ∈ gw) (hdg : decode cc pc = .ok (.getfield index, 3)) (kk : W p l e R s m args below meth c H locs cells slots Q (F0 m (pc + 3) ls (.ref (tad θ (22 + 2)) :: rest))) : W p l e R s m args below meth c H locs cells slots Q (F0 m pc ls (.ref (tad θ 3) :: rest)) := k_get C hw (T := TX3) (N := 20) (ci := 3) 3 15 (by decide) gin3 rfl rfl (by decide) hlink rfl hdg kk
theorem gf_X3_below (C : Cx θ p s m args meth c cc nL own ret) (hw : wd θ M H) {index : Nat} (hlink : Cond.fieldLink own index "RationalProgramModel" "below" "[J" ∈ gw) (hdg : decode cc pc = .ok (.getfield index, 3)) (kk : W p l e R s m args below meth c H locs cells slots Q (F0 m (pc + 3) ls (.ref (tad θ (22 + 3)) :: rest))) : W p l e R s m args below meth c H locs cells slots Q (F0 m pc ls (.ref (tad θ 3) :: rest)) := k_get C hw (T := TX3) (N := 20) (ci := 3) 3 16 (by decide) gin3 rfl rfl (by decide) hlink rfl hdg kk
theorem gf_X3_worth (C : Cx θ p s m args meth c cc nL own ret) (hw : wd θ M H) {index : Nat} (hlink : Cond.fieldLink own index "RationalProgramModel" "worth" "[J" ∈ gw) (hdg : decode cc pc = .ok (.getfield index, 3)) (kk : W p l e R s m args below meth c H locs cells slots Q (F0 m (pc + 3) ls (.ref (tad θ (22 + 4)) :: rest))) : W p l e R s m args below meth c H locs cells slots Q (F0 m pc ls (.ref (tad θ 3) :: rest)) := k_get C hw (T := TX3) (N := 20) (ci := 3) 3 17 (by decide) gin3 rfl rfl (by decide) hlink rfl hdg kk
theorem gf_X3_cornerCount (C : Cx θ p s m args meth c cc nL own ret) (hw : wd θ M H) {index : Nat} (hlink : Cond.fieldLink own index "RationalProgramModel" "cornerCount" "I" ∈ gw) (hdg : decode cc pc = .ok (.getfield index, 3)) (kk : W p l e R s m args below meth c H locs cells slots Q (F0 m (pc + 3) ls (.int (M.1 10) :: rest))) : W p l e R s m args below meth c H locs cells slots Q (F0 m pc ls (.ref (tad θ 3) :: rest)) := k_get C hw (T := TX3) (N := 20) (ci := 3) 3 18 (by decide) gin3 rfl rfl (by decide) hlink rfl hdg kk
theorem pf_X3_cornerCount (C : Cx θ p s m args meth c cc nL own ret) (hw : wd θ M H) (hS : va_S (tA θ) H0 H locs) {index : Nat} {v : Int32} (hlink : Cond.fieldLink own index "RationalProgramModel" "cornerCount" "I" ∈ gw) (hdg : decode cc pc = .ok (.putfield index, 3)) (kk : ∀ (H1 : Heap) (locs1 : List Loc), wd θ (wI M 10 v) H1 → va_S (tA θ) H0 H1 locs1 → W p l e R s m args below meth c H1 locs1 cells slots Q (F0 m (pc + 3) ls rest)) : W p l e R s m args below meth c H locs cells slots Q (F0 m pc ls (.int v :: .ref (tad θ 3) :: rest)) := k_put C hw hS (T := TX3) (N := 20) (ci := 3) 3 18 10 (by decide) gin3 tyX3 tyX3_ok nmX3 rfl rfl (by decide) rfl (by decide +kernel) (Nat.le_of_ble_eq_true rfl) rfl hlink hdg kk
theorem gf_X3_cornerAt (C : Cx θ p s m args meth c cc nL own ret) (hw : wd θ M H) {index : Nat} (hlink : Cond.fieldLink own index "RationalProgramModel" "cornerAt" "[I" ∈ gw) (hdg : decode cc pc = .ok (.getfield index, 3)) (kk : W p l e R s m args below meth c H locs cells slots Q (F0 m (pc + 3) ls (.ref (tad θ (4 + 14)) :: rest))) : W p l e R s m args below meth c H locs cells slots Q (F0 m pc ls (.ref (tad θ 3) :: rest)) := k_get C hw (T := TX3) (N := 20) (ci := 3) 3 19 (by decide) gin3 rfl rfl (by decide) hlink rfl hdg kk
end GF
