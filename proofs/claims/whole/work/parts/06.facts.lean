/-! what the walks name: constants, words, fields, methods -/
theorem ks_12345 : (Int16.ofInt 12345).toInt32 = 12345 := by decide
theorem ki_0 : Int32.ofInt 0 = 0 := by decide
theorem kb_16 : (Int8.ofInt 16).toInt32 = 16 := by decide
theorem kb_12 : (Int8.ofInt 12).toInt32 = 12 := by decide
theorem kb_64 : (Int8.ofInt 64).toInt32 = 64 := by decide
theorem kb_24 : (Int8.ofInt 24).toInt32 = 24 := by decide
theorem kb_8 : (Int8.ofInt 8).toInt32 = 8 := by decide
theorem kb_10 : (Int8.ofInt 10).toInt32 = 10 := by decide
theorem kb_6 : (Int8.ofInt 6).toInt32 = 6 := by decide
theorem ki_m1 : Int32.ofInt (-1) = (-1) := by decide
theorem ki_1 : Int32.ofInt 1 = 1 := by decide
theorem kb_32 : (Int8.ofInt 32).toInt32 = 32 := by decide
theorem ks_192 : (Int16.ofInt 192).toInt32 = 192 := by decide
theorem kb_9 : (Int8.ofInt 9).toInt32 = 9 := by decide
theorem ki_2 : Int32.ofInt 2 = 2 := by decide
theorem kb_61 : (Int8.ofInt 61).toInt32 = 61 := by decide
theorem ki_4 : Int32.ofInt 4 = 4 := by decide
theorem ks_256 : (Int16.ofInt 256).toInt32 = 256 := by decide
theorem ki_8 : Int32.ofInt 8 = 8 := by decide
theorem ki_16 : Int32.ofInt 16 = 16 := by decide
theorem ki_3 : Int32.ofInt 3 = 3 := by decide
theorem kb_40 : (Int8.ofInt 40).toInt32 = 40 := by decide
theorem ks_1000 : (Int16.ofInt 1000).toInt32 = 1000 := by decide
theorem kb_110 : (Int8.ofInt 110).toInt32 = 110 := by decide
theorem kb_62 : (Int8.ofInt 62).toInt32 = 62 := by decide
theorem kb_126 : (Int8.ofInt 126).toInt32 = 126 := by decide
theorem kb_63 : (Int8.ofInt 63).toInt32 = 63 := by decide
theorem kb_7 : (Int8.ofInt 7).toInt32 = 7 := by decide
theorem ki_5 : Int32.ofInt 5 = 5 := by decide
theorem kb_48 : (Int8.ofInt 48).toInt32 = 48 := by decide
theorem kb_57 : (Int8.ofInt 57).toInt32 = 57 := by decide
theorem kb_45 : (Int8.ofInt 45).toInt32 = 45 := by decide
theorem kb_41 : (Int8.ofInt 41).toInt32 = 41 := by decide
theorem kb_49 : (Int8.ofInt 49).toInt32 = 49 := by decide
theorem kb_m3 : (Int8.ofInt (-3)).toInt32 = (-3) := by decide
theorem kb_m4 : (Int8.ofInt (-4)).toInt32 = (-4) := by decide
theorem kb_m5 : (Int8.ofInt (-5)).toInt32 = (-5) := by decide
theorem kb_100 : (Int8.ofInt 100).toInt32 = 100 := by decide
theorem ks_255 : (Int16.ofInt 255).toInt32 = 255 := by decide
theorem kb_m6 : (Int8.ofInt (-6)).toInt32 = (-6) := by decide
theorem kb_m2 : (Int8.ofInt (-2)).toInt32 = (-2) := by decide
theorem kb_80 : (Int8.ofInt 80).toInt32 = 80 := by decide
theorem ki_m8 : Int32.ofInt (-8) = (-8) := by decide
theorem kb_51 : (Int8.ofInt 51).toInt32 = 51 := by decide
theorem kb_46 : (Int8.ofInt 46).toInt32 = 46 := by decide
theorem kb_18 : (Int8.ofInt 18).toInt32 = 18 := by decide
theorem kb_m100 : (Int8.ofInt (-100)).toInt32 = (-100) := by decide
theorem kb_m101 : (Int8.ofInt (-101)).toInt32 = (-101) := by decide
theorem kb_m102 : (Int8.ofInt (-102)).toInt32 = (-102) := by decide
theorem kb_m99 : (Int8.ofInt (-99)).toInt32 = (-99) := by decide
theorem kb_99 : (Int8.ofInt 99).toInt32 = 99 := by decide
theorem kb_60 : (Int8.ofInt 60).toInt32 = 60 := by decide
theorem kb_20 : (Int8.ofInt 20).toInt32 = 20 := by decide
theorem ks_m10000 : (Int16.ofInt (-10000)).toInt32 = (-10000) := by decide
theorem ks_216 : (Int16.ofInt 216).toInt32 = 216 := by decide
theorem ks_240 : (Int16.ofInt 240).toInt32 = 240 := by decide
theorem ks_264 : (Int16.ofInt 264).toInt32 = 264 := by decide
theorem ks_288 : (Int16.ofInt 288).toInt32 = 288 := by decide
theorem ks_325 : (Int16.ofInt 325).toInt32 = 325 := by decide
theorem ks_312 : (Int16.ofInt 312).toInt32 = 312 := by decide
theorem ks_2600 : (Int16.ofInt 2600).toInt32 = 2600 := by decide
theorem ks_320 : (Int16.ofInt 320).toInt32 = 320 := by decide
theorem ks_650 : (Int16.ofInt 650).toInt32 = 650 := by decide
theorem kb_23 : (Int8.ofInt 23).toInt32 = 23 := by decide
theorem ks_2275 : (Int16.ofInt 2275).toInt32 = 2275 := by decide
theorem ks_318 : (Int16.ofInt 318).toInt32 = 318 := by decide
theorem kb_102 : (Int8.ofInt 102).toInt32 = 102 := by decide
theorem kb_111 : (Int8.ofInt 111).toInt32 = 111 := by decide
theorem kb_115 : (Int8.ofInt 115).toInt32 = 115 := by decide
theorem kb_112 : (Int8.ofInt 112).toInt32 = 112 := by decide
theorem kb_119 : (Int8.ofInt 119).toInt32 = 119 := by decide
theorem kb_116 : (Int8.ofInt 116).toInt32 = 116 := by decide
theorem kb_43 : (Int8.ofInt 43).toInt32 = 43 := by decide
theorem kb_42 : (Int8.ofInt 42).toInt32 = 42 := by decide
theorem kb_47 : (Int8.ofInt 47).toInt32 = 47 := by decide
theorem ks_324 : (Int16.ofInt 324).toInt32 = 324 := by decide
theorem kb_97 : (Int8.ofInt 97).toInt32 = 97 := by decide
theorem kb_114 : (Int8.ofInt 114).toInt32 = 114 := by decide
theorem kb_101 : (Int8.ofInt 101).toInt32 = 101 := by decide
theorem w_1136 : Cond.methodLink RX0 1 Lib.objectInit ∈ TBL := tin5 88 rfl rfl
theorem w_120 : Cond.instanceMethod Lib.objectInit ∈ TBL := tin1 32 rfl rfl
theorem w_121 : Cond.code Lib.objectInit ⟨#[0xb1]⟩ 1 none ∈ TBL := tin1 33 rfl rfl
theorem w_1145 : Cond.constant RX0 13 1103515245 ∈ TBL := tin5 97 rfl rfl
theorem w_259 : Cond.methodLink RX1 3 Lib.objectInit ∈ TBL := tin1 171 rfl rfl
theorem w_172 : Cond.arrayClass .int ∈ TBL := tin1 84 rfl rfl
theorem w_1000 : Cond.code yX1_numbersOf cX1_numbersOf 1 (some .int) ∈ TBL := tin4 192 rfl rfl
theorem w_95 : Cond.initialized RX1 ∈ TBL := tin1 7 rfl rfl
theorem w_999 : Cond.static yX1_numbersOf ∈ TBL := tin4 191 rfl rfl
theorem w_454 : Cond.code yX9_hasObject cX9_hasObject 2 (some .boolean) ∈ TBL := tin2 126 rfl rfl
theorem w_90 : Cond.initialized RX9 ∈ TBL := tin1 2 rfl rfl
theorem w_457 : Cond.code yX10_isPage cX10_isPage 1 (some .boolean) ∈ TBL := tin2 129 rfl rfl
theorem w_89 : Cond.initialized RX10 ∈ TBL := tin1 1 rfl rfl
theorem w_456 : Cond.static yX10_isPage ∈ TBL := tin2 128 rfl rfl
theorem w_577 : Cond.code yX10_isIn cX10_isIn 2 (some .boolean) ∈ TBL := tin3 9 rfl rfl
theorem w_576 : Cond.static yX10_isIn ∈ TBL := tin3 8 rfl rfl
theorem w_574 : Cond.code yX9_holds cX9_holds 3 (some .boolean) ∈ TBL := tin3 6 rfl rfl
theorem w_570 : Cond.code yX9_hasSpace cX9_hasSpace 2 (some .boolean) ∈ TBL := tin3 2 rfl rfl
theorem w_566 : Cond.code yX9_topOf cX9_topOf 2 (some .int) ∈ TBL := tin2 238 rfl rfl
theorem w_594 : Cond.code yX9_valueOf cX9_valueOf 3 (some .int) ∈ TBL := tin3 26 rfl rfl
theorem w_562 : Cond.code yX9_firstHolder cX9_firstHolder 5 (some .int) ∈ TBL := tin2 234 rfl rfl
theorem w_1024 : Cond.code yX1_agrees cX1_agrees 6 (some .boolean) ∈ TBL := tin4 216 rfl rfl
theorem w_1023 : Cond.static yX1_agrees ∈ TBL := tin4 215 rfl rfl
theorem w_1021 : Cond.code yX1_fitsAll cX1_fitsAll 4 (some .boolean) ∈ TBL := tin4 213 rfl rfl
theorem w_127 : Cond.methodLink RX9 3 Lib.objectInit ∈ TBL := tin1 39 rfl rfl
theorem w_422 : Cond.methodLink RX9 49 arraycopyName ∈ TBL := tin2 94 rfl rfl
theorem w_424 : Cond.native arraycopyName ∈ TBL := tin2 96 rfl rfl
theorem w_423 : Cond.static arraycopyName ∈ TBL := tin2 95 rfl rfl
theorem w_101 : Cond.initialized RJ10 ∈ TBL := tin1 13 rfl rfl
theorem w_421 : Cond.code yX9_copyFrom cX9_copyFrom 2 none ∈ TBL := tin2 93 rfl rfl
theorem w_462 : Cond.methodLink RX2 34 Lib.Math.min.name ∈ TBL := tin2 134 rfl rfl
theorem w_441 : Cond.static Lib.Math.min.name ∈ TBL := tin2 113 rfl rfl
theorem w_102 : Cond.initialized RJ9 ∈ TBL := tin1 14 rfl rfl
theorem w_442 : Cond.code Lib.Math.min.name Lib.Math.min.code 2 (some .int) ∈ TBL := tin2 114 rfl rfl
theorem w_303 : Cond.methodLink RX3 1 Lib.objectInit ∈ TBL := tin1 215 rfl rfl
theorem w_439 : Cond.constant RJ6 264 65536 ∈ TBL := tin2 111 rfl rfl
theorem w_438 : Cond.code yJ6_numberOfTrailingZeros_0f7a4 cJ6_numberOfTrailingZeros_0f7a4 2 (some .int) ∈ TBL := tin2 110 rfl rfl
theorem w_100 : Cond.initialized RJ6 ∈ TBL := tin1 12 rfl rfl
theorem w_437 : Cond.static yJ6_numberOfTrailingZeros_0f7a4 ∈ TBL := tin2 109 rfl rfl
theorem w_1099 : Cond.code yX3_worthOf cX3_worthOf 2 (some .int) ∈ TBL := tin5 51 rfl rfl
theorem w_97 : Cond.initialized RX3 ∈ TBL := tin1 9 rfl rfl
theorem w_1100 : Cond.constantLong RX3 20 (-1) ∈ TBL := tin5 52 rfl rfl
theorem w_1103 : Cond.code yJ13_numberOfTrailingZeros_95d88 cJ13_numberOfTrailingZeros_95d88 3 (some .int) ∈ TBL := tin5 55 rfl rfl
theorem w_111 : Cond.initialized RJ13 ∈ TBL := tin1 23 rfl rfl
theorem w_1102 : Cond.static yJ13_numberOfTrailingZeros_95d88 ∈ TBL := tin5 54 rfl rfl
theorem w_1095 : Cond.code yX3_leastWorthNotReached cX3_leastWorthNotReached 6 (some .int) ∈ TBL := tin5 47 rfl rfl
theorem w_1118 : Cond.code yX4_gain cX4_gain 3 (some .int) ∈ TBL := tin5 70 rfl rfl
theorem w_112 : Cond.initialized RX4 ∈ TBL := tin1 24 rfl rfl
theorem w_1117 : Cond.static yX4_gain ∈ TBL := tin5 69 rfl rfl
theorem w_245 : Cond.methodLink RX5 3 Lib.objectInit ∈ TBL := tin1 157 rfl rfl
theorem w_253 : Cond.arrayClass .long ∈ TBL := tin1 165 rfl rfl
theorem w_1300 : Cond.code yX5_has cX5_has 2 (some .boolean) ∈ TBL := tin6 12 rfl rfl
theorem w_94 : Cond.initialized RX5 ∈ TBL := tin1 6 rfl rfl
theorem w_204 : Cond.methodLink RX6 3 Lib.objectInit ∈ TBL := tin1 116 rfl rfl
theorem w_323 : Cond.code yX6_addNumber cX6_addNumber 2 none ∈ TBL := tin1 235 rfl rfl
theorem w_92 : Cond.initialized RX6 ∈ TBL := tin1 4 rfl rfl
theorem w_315 : Cond.code yX6_clear cX6_clear 1 none ∈ TBL := tin1 227 rfl rfl
theorem w_319 : Cond.code yX6_addSign cX6_addSign 2 none ∈ TBL := tin1 231 rfl rfl
theorem w_537 : Cond.methodLink RX6 33 arraycopyName ∈ TBL := tin2 209 rfl rfl
theorem w_522 : Cond.code yX7_strength cX7_strength 1 (some .int) ∈ TBL := tin2 194 rfl rfl
theorem w_93 : Cond.initialized RX7 ∈ TBL := tin1 5 rfl rfl
theorem w_521 : Cond.static yX7_strength ∈ TBL := tin2 193 rfl rfl
theorem w_696 : Cond.code yX6_bind cX6_bind 3 (some .int) ∈ TBL := tin3 128 rfl rfl
theorem w_695 : Cond.static yX6_bind ∈ TBL := tin3 127 rfl rfl
theorem w_399 : Cond.constant RJ6 265 1431655765 ∈ TBL := tin2 71 rfl rfl
theorem w_400 : Cond.constant RJ6 266 858993459 ∈ TBL := tin2 72 rfl rfl
theorem w_401 : Cond.constant RJ6 267 252645135 ∈ TBL := tin2 73 rfl rfl
theorem w_398 : Cond.code yJ6_bitCount_0f7a4 cJ6_bitCount_0f7a4 1 (some .int) ∈ TBL := tin2 70 rfl rfl
theorem w_397 : Cond.static yJ6_bitCount_0f7a4 ∈ TBL := tin2 69 rfl rfl
theorem w_409 : Cond.code yX9_frameTotal cX9_frameTotal 3 (some .int) ∈ TBL := tin2 81 rfl rfl
theorem w_703 : Cond.code yX9_chainLength cX9_chainLength 4 (some .int) ∈ TBL := tin3 135 rfl rfl
theorem w_405 : Cond.code yX9_objectTotal cX9_objectTotal 1 (some .int) ∈ TBL := tin2 77 rfl rfl
theorem w_709 : Cond.code yX9_writeTotal cX9_writeTotal 1 (some .int) ∈ TBL := tin3 141 rfl rfl
theorem w_714 : Cond.code yX9_heldOf cX9_heldOf 2 (some .int) ∈ TBL := tin3 146 rfl rfl
theorem w_680 : Cond.code yX6_signOf cX6_signOf 1 (some .char) ∈ TBL := tin3 112 rfl rfl
theorem w_679 : Cond.static yX6_signOf ∈ TBL := tin3 111 rfl rfl
theorem w_684 : Cond.code yX6_push cX6_push 3 (some .int) ∈ TBL := tin3 116 rfl rfl
theorem w_688 : Cond.code yX6_negateTop cX6_negateTop 2 none ∈ TBL := tin3 120 rfl rfl
theorem w_528 : Cond.code yX7_isBinary cX7_isBinary 1 (some .boolean) ∈ TBL := tin2 200 rfl rfl
theorem w_527 : Cond.static yX7_isBinary ∈ TBL := tin2 199 rfl rfl
theorem w_693 : Cond.code yX6_bindTop cX6_bindTop 3 (some .int) ∈ TBL := tin3 125 rfl rfl
theorem w_699 : Cond.code yX6_measure cX6_measure 4 (some .int) ∈ TBL := tin3 131 rfl rfl
theorem w_698 : Cond.static yX6_measure ∈ TBL := tin3 130 rfl rfl
theorem w_220 : Cond.methodLink RX7 3 Lib.objectInit ∈ TBL := tin1 132 rfl rfl
theorem w_171 : Cond.arrayClass .char ∈ TBL := tin1 83 rfl rfl
theorem w_198 : Cond.arrayClass .boolean ∈ TBL := tin1 110 rfl rfl
theorem w_495 : Cond.code yX6_appendDigit cX6_appendDigit 2 none ∈ TBL := tin2 167 rfl rfl
theorem w_510 : Cond.code yX7_isMeasure cX7_isMeasure 1 (some .boolean) ∈ TBL := tin2 182 rfl rfl
theorem w_509 : Cond.static yX7_isMeasure ∈ TBL := tin2 181 rfl rfl
theorem w_503 : Cond.code yX7_hoard cX7_hoard 2 none ∈ TBL := tin2 175 rfl rfl
theorem w_507 : Cond.code yX7_setCompared cX7_setCompared 2 none ∈ TBL := tin2 179 rfl rfl
theorem w_519 : Cond.code yX7_releaseDownTo cX7_releaseDownTo 3 none ∈ TBL := tin2 191 rfl rfl
theorem w_532 : Cond.code yX7_isCompared cX7_isCompared 1 (some .boolean) ∈ TBL := tin2 204 rfl rfl
theorem w_523 : Cond.methodLink RX7 98 Lib.Math.max.name ∈ TBL := tin2 195 rfl rfl
theorem w_524 : Cond.static Lib.Math.max.name ∈ TBL := tin2 196 rfl rfl
theorem w_525 : Cond.code Lib.Math.max.name Lib.Math.max.code 2 (some .int) ∈ TBL := tin2 197 rfl rfl
theorem w_391 : Cond.code yX10_isDigit cX10_isDigit 1 (some .boolean) ∈ TBL := tin2 63 rfl rfl
theorem w_390 : Cond.static yX10_isDigit ∈ TBL := tin2 62 rfl rfl
theorem w_490 : Cond.code yX7_takesDigit cX7_takesDigit 3 (some .boolean) ∈ TBL := tin2 162 rfl rfl
theorem w_499 : Cond.code yX7_takesThing cX7_takesThing 3 (some .boolean) ∈ TBL := tin2 171 rfl rfl
theorem w_515 : Cond.code yX7_takesBinder cX7_takesBinder 3 (some .boolean) ∈ TBL := tin2 187 rfl rfl
theorem w_485 : Cond.code yX7_takes cX7_takes 3 (some .boolean) ∈ TBL := tin2 157 rfl rfl
theorem w_311 : Cond.code yX6_becomeNone cX6_becomeNone 1 none ∈ TBL := tin1 223 rfl rfl
theorem w_479 : Cond.code yX7_start cX7_start 2 none ∈ TBL := tin2 151 rfl rfl
theorem w_481 : Cond.methodLink RX7 28 Lib.Math.min.name ∈ TBL := tin2 153 rfl rfl
theorem w_281 : Cond.methodLink RX8 3 Lib.objectInit ∈ TBL := tin1 193 rfl rfl
theorem w_1070 : Cond.code yX8_says cX8_says 4 (some .boolean) ∈ TBL := tin5 22 rfl rfl
theorem w_96 : Cond.initialized RX8 ∈ TBL := tin1 8 rfl rfl
theorem w_1069 : Cond.static yX8_says ∈ TBL := tin5 21 rfl rfl
theorem w_1067 : Cond.code yX8_agreeWith cX8_agreeWith 4 (some .boolean) ∈ TBL := tin5 19 rfl rfl
theorem w_602 : Cond.code yX9_shadowOf cX9_shadowOf 2 (some .int) ∈ TBL := tin3 34 rfl rfl
theorem w_581 : Cond.code yX9_placeOf cX9_placeOf 5 (some .int) ∈ TBL := tin3 13 rfl rfl
theorem w_651 : Cond.code yX9_isSharing cX9_isSharing 2 (some .boolean) ∈ TBL := tin3 83 rfl rfl
theorem w_655 : Cond.code yX9_holderTotal cX9_holderTotal 4 (some .int) ∈ TBL := tin3 87 rfl rfl
theorem w_647 : Cond.code yX9_needsObject cX9_needsObject 2 (some .boolean) ∈ TBL := tin3 79 rfl rfl
theorem w_440 : Cond.methodLink RX9 109 Lib.Math.min.name ∈ TBL := tin2 112 rfl rfl
theorem w_435 : Cond.code yX9_leastMissing cX9_leastMissing 2 (some .int) ∈ TBL := tin2 107 rfl rfl
theorem w_434 : Cond.static yX9_leastMissing ∈ TBL := tin2 106 rfl rfl
theorem w_598 : Cond.code yX9_lastOf cX9_lastOf 4 (some .int) ∈ TBL := tin3 30 rfl rfl
theorem w_606 : Cond.code yX9_pagerOf cX9_pagerOf 2 (some .int) ∈ TBL := tin3 38 rfl rfl
theorem w_610 : Cond.code yX9_digitOf cX9_digitOf 2 (some .int) ∈ TBL := tin3 42 rfl rfl
theorem w_589 : Cond.code yX9_peekPage cX9_peekPage 5 (some .int) ∈ TBL := tin3 21 rfl rfl
theorem w_618 : Cond.code yX9_isPagedIn cX9_isPagedIn 3 (some .boolean) ∈ TBL := tin3 50 rfl rfl
theorem w_450 : Cond.code yX9_hold cX9_hold 4 none ∈ TBL := tin2 122 rfl rfl
theorem w_614 : Cond.code yX9_awaitIfLate cX9_awaitIfLate 5 none ∈ TBL := tin3 46 rfl rfl
theorem w_668 : Cond.code yX9_copyOf cX9_copyOf 2 (some .int) ∈ TBL := tin3 100 rfl rfl
theorem w_664 : Cond.code yX9_pushesToCopy cX9_pushesToCopy 4 (some .boolean) ∈ TBL := tin3 96 rfl rfl
theorem w_432 : Cond.code yX9_comeObject cX9_comeObject 4 (some .int) ∈ TBL := tin2 104 rfl rfl
theorem w_727 : Cond.code yX9_passCopy cX9_passCopy 4 none ∈ TBL := tin3 159 rfl rfl
theorem w_735 : Cond.code yX9_remove cX9_remove 3 none ∈ TBL := tin3 167 rfl rfl
theorem w_731 : Cond.code yX9_release cX9_release 5 (some .int) ∈ TBL := tin3 163 rfl rfl
theorem w_743 : Cond.code yX9_isCopy cX9_isCopy 3 (some .boolean) ∈ TBL := tin3 175 rfl rfl
theorem w_723 : Cond.code yX9_bypass cX9_bypass 4 none ∈ TBL := tin3 155 rfl rfl
theorem w_739 : Cond.code yX9_collapse cX9_collapse 4 none ∈ TBL := tin3 171 rfl rfl
theorem w_677 : Cond.code yX6_reckon cX6_reckon 7 (some .int) ∈ TBL := tin3 109 rfl rfl
theorem w_719 : Cond.code yX9_tidyChain cX9_tidyChain 5 (some .int) ∈ TBL := tin3 151 rfl rfl
theorem w_672 : Cond.code yX9_putObjectAbove cX9_putObjectAbove 3 none ∈ TBL := tin3 104 rfl rfl
theorem w_660 : Cond.code yX9_framesToWrite cX9_framesToWrite 8 (some .int) ∈ TBL := tin3 92 rfl rfl
theorem w_643 : Cond.code yX10_isValue cX10_isValue 1 (some .boolean) ∈ TBL := tin3 75 rfl rfl
theorem w_642 : Cond.static yX10_isValue ∈ TBL := tin3 74 rfl rfl
theorem w_466 : Cond.code yX9_comeSpace cX9_comeSpace 3 (some .int) ∈ TBL := tin2 138 rfl rfl
theorem w_757 : Cond.code yX9_comeCopy cX9_comeCopy 4 (some .int) ∈ TBL := tin3 189 rfl rfl
theorem w_395 : Cond.code yX9_spaceTotal cX9_spaceTotal 1 (some .int) ∈ TBL := tin2 67 rfl rfl
theorem w_119 : Cond.methodLink RX10 1 Lib.objectInit ∈ TBL := tin1 31 rfl rfl
theorem w_126 : Cond.code yX9_init cX9_init 2 none ∈ TBL := tin1 38 rfl rfl
theorem w_125 : Cond.instanceMethod yX9_init ∈ TBL := tin1 37 rfl rfl
theorem w_388 : Cond.code yX10_signAt cX10_signAt 2 (some .char) ∈ TBL := tin2 60 rfl rfl
theorem w_384 : Cond.code yX10_standsInSpace cX10_standsInSpace 3 (some .boolean) ∈ TBL := tin2 56 rfl rfl
theorem w_428 : Cond.code yX10_digitAt cX10_digitAt 2 (some .int) ∈ TBL := tin2 100 rfl rfl
theorem w_446 : Cond.code yX10_numberAt cX10_numberAt 2 (some .int) ∈ TBL := tin2 118 rfl rfl
theorem w_376 : Cond.code yX10_takeText cX10_takeText 2 (some .int) ∈ TBL := tin2 48 rfl rfl
theorem w_380 : Cond.code yX10_wrongSpaceSign cX10_wrongSpaceSign 3 (some .int) ∈ TBL := tin2 52 rfl rfl
theorem w_413 : Cond.code yX10_toldPages cX10_toldPages 4 (some .int) ∈ TBL := tin2 85 rfl rfl
theorem w_417 : Cond.code yX2_mark cX2_mark 2 none ∈ TBL := tin2 89 rfl rfl
theorem w_91 : Cond.initialized RX2 ∈ TBL := tin1 3 rfl rfl
theorem w_461 : Cond.code yX2_keepMark cX2_keepMark 1 none ∈ TBL := tin2 133 rfl rfl
theorem w_474 : Cond.code yX7_readRule cX7_readRule 6 (some .int) ∈ TBL := tin2 146 rfl rfl
theorem w_536 : Cond.code yX6_copyFrom cX6_copyFrom 2 none ∈ TBL := tin2 208 rfl rfl
theorem w_549 : Cond.methodLink RX10 408 Lib.Math.min.name ∈ TBL := tin2 221 rfl rfl
theorem w_550 : Cond.methodLink RX10 335 Lib.Math.max.name ∈ TBL := tin2 222 rfl rfl
theorem w_548 : Cond.code yX10_clamp cX10_clamp 3 (some .int) ∈ TBL := tin2 220 rfl rfl
theorem w_547 : Cond.static yX10_clamp ∈ TBL := tin2 219 rfl rfl
theorem w_1281 : Cond.code yX9_awaitedOf cX9_awaitedOf 2 (some .int) ∈ TBL := tin5 233 rfl rfl
theorem w_554 : Cond.code yX9_setDigit cX9_setDigit 3 none ∈ TBL := tin2 226 rfl rfl
theorem w_545 : Cond.code yX10_sheetEntry cX10_sheetEntry 3 (some .int) ∈ TBL := tin2 217 rfl rfl
theorem w_544 : Cond.static yX10_sheetEntry ∈ TBL := tin2 216 rfl rfl
theorem w_632 : Cond.code yX10_keepIfDone cX10_keepIfDone 2 none ∈ TBL := tin3 64 rfl rfl
theorem w_585 : Cond.code yX9_readPage cX9_readPage 4 (some .int) ∈ TBL := tin3 17 rfl rfl
theorem w_624 : Cond.code yX5_clear cX5_clear 1 none ∈ TBL := tin3 56 rfl rfl
theorem w_628 : Cond.code yX5_add cX5_add 3 none ∈ TBL := tin3 60 rfl rfl
theorem w_640 : Cond.code yX9_writePage cX9_writePage 9 (some .int) ∈ TBL := tin3 72 rfl rfl
theorem w_752 : Cond.code yX9_forkSpace cX9_forkSpace 5 (some .int) ∈ TBL := tin3 184 rfl rfl
theorem w_766 : Cond.code yX9_endSpace cX9_endSpace 3 (some .int) ∈ TBL := tin3 198 rfl rfl
theorem w_774 : Cond.code yX9_arrivePage cX9_arrivePage 4 (some .int) ∈ TBL := tin3 206 rfl rfl
theorem w_787 : Cond.code yX9_collapseTotal cX9_collapseTotal 1 (some .int) ∈ TBL := tin3 219 rfl rfl
theorem w_791 : Cond.code yX9_bypassTotal cX9_bypassTotal 1 (some .int) ∈ TBL := tin3 223 rfl rfl
theorem w_783 : Cond.code yX10_tellTidying cX10_tellTidying 3 none ∈ TBL := tin3 215 rfl rfl
theorem w_810 : Cond.fieldLink RJ0 38 "java/lang/String" "COMPACT_STRINGS" "Z" ∈ TBL := tin4 2 rfl rfl
theorem w_1931 : Cond.fieldLink RJ0 15 "java/lang/String" "coder" "B" ∈ TBL := tin8 163 rfl rfl
theorem w_1930 : Cond.fieldLink RJ0 9 "java/lang/String" "value" "[B" ∈ TBL := tin8 162 rfl rfl
theorem w_809 : Cond.code yJ0_coder_7d493 cJ0_coder_7d493 1 (some .byte) ∈ TBL := tin4 1 rfl rfl
theorem w_107 : Cond.initialized RJ0 ∈ TBL := tin1 19 rfl rfl
theorem w_826 : Cond.fieldLink RJ0 1053 "jdk/internal/util/Preconditions" "SIOOBE_FORMATTER" "Ljava/util/function/BiFunction;" ∈ TBL := tin4 18 rfl rfl
theorem w_830 : Cond.code yJ3_checkIndex_8e157 cJ3_checkIndex_8e157 3 (some .int) ∈ TBL := tin4 22 rfl rfl
theorem w_109 : Cond.initialized RJ3 ∈ TBL := tin1 21 rfl rfl
theorem w_829 : Cond.static yJ3_checkIndex_8e157 ∈ TBL := tin4 21 rfl rfl
theorem w_825 : Cond.code yJ0_checkIndex_df160 cJ0_checkIndex_df160 2 none ∈ TBL := tin4 17 rfl rfl
theorem w_824 : Cond.static yJ0_checkIndex_df160 ∈ TBL := tin4 16 rfl rfl
theorem w_819 : Cond.code yJ0_isLatin1_aae02 cJ0_isLatin1_aae02 1 (some .boolean) ∈ TBL := tin4 11 rfl rfl
theorem w_822 : Cond.code yJ1_charAt_3b067 cJ1_charAt_3b067 2 (some .char) ∈ TBL := tin4 14 rfl rfl
theorem w_108 : Cond.initialized RJ1 ∈ TBL := tin1 20 rfl rfl
theorem w_821 : Cond.static yJ1_charAt_3b067 ∈ TBL := tin4 13 rfl rfl
theorem w_805 : Cond.code yJ0_length_8abf5 cJ0_length_8abf5 1 (some .int) ∈ TBL := tin3 237 rfl rfl
theorem w_852 : Cond.code yX10_actDigits cX10_actDigits 1 (some (.object "java/lang/String")) ∈ TBL := tin4 44 rfl rfl
theorem w_851 : Cond.static yX10_actDigits ∈ TBL := tin4 43 rfl rfl
theorem w_860 : Cond.code yJ0_isEmpty_aae02 cJ0_isEmpty_aae02 1 (some .boolean) ∈ TBL := tin4 52 rfl rfl
theorem w_815 : Cond.code yJ0_charAt_5068e cJ0_charAt_5068e 2 (some .char) ∈ TBL := tin4 7 rfl rfl
theorem w_868 : Cond.code yX10_actAt cX10_actAt 3 (some .int) ∈ TBL := tin4 60 rfl rfl
theorem w_864 : Cond.code yX9_awaitedTotal cX9_awaitedTotal 3 (some .int) ∈ TBL := tin4 56 rfl rfl
theorem w_800 : Cond.code yX10_wrongDaySign cX10_wrongDaySign 6 (some .int) ∈ TBL := tin3 232 rfl rfl
theorem w_877 : Cond.code yX2_bringBack cX2_bringBack 2 (some .boolean) ∈ TBL := tin4 69 rfl rfl
theorem w_881 : Cond.code yX2_total cX2_total 1 (some .int) ∈ TBL := tin4 73 rfl rfl
theorem w_901 : Cond.code yX9_spacesAbove cX9_spacesAbove 4 (some .int) ∈ TBL := tin4 93 rfl rfl
theorem w_906 : Cond.code yX10_tellSet cX10_tellSet 2 (some .int) ∈ TBL := tin4 98 rfl rfl
theorem w_915 : Cond.code yX10_areTwo cX10_areTwo 3 (some .boolean) ∈ TBL := tin4 107 rfl rfl
theorem w_932 : Cond.code yX9_isSeen cX9_isSeen 4 (some .boolean) ∈ TBL := tin4 124 rfl rfl
theorem w_936 : Cond.code yX10_tellFirst cX10_tellFirst 4 none ∈ TBL := tin4 128 rfl rfl
theorem w_944 : Cond.code yX9_eagerTotal cX9_eagerTotal 4 (some .int) ∈ TBL := tin4 136 rfl rfl
theorem w_989 : Cond.code yX10_commonDivisor cX10_commonDivisor 11 (some .long) ∈ TBL := tin4 181 rfl rfl
theorem w_988 : Cond.static yX10_commonDivisor ∈ TBL := tin4 180 rfl rfl
theorem w_979 : Cond.code yX10_choices cX10_choices 5 (some .long) ∈ TBL := tin4 171 rfl rfl
theorem w_978 : Cond.static yX10_choices ∈ TBL := tin4 170 rfl rfl
theorem w_982 : Cond.code yX10_power cX10_power 5 (some .long) ∈ TBL := tin4 174 rfl rfl
theorem w_981 : Cond.static yX10_power ∈ TBL := tin4 173 rfl rfl
theorem w_986 : Cond.code yX10_tellFraction cX10_tellFraction 7 none ∈ TBL := tin4 178 rfl rfl
theorem w_975 : Cond.code yX9_ownPages cX9_ownPages 2 (some .int) ∈ TBL := tin4 167 rfl rfl
theorem w_997 : Cond.code yX1_hear cX1_hear 3 (some .int) ∈ TBL := tin4 189 rfl rfl
theorem w_1008 : Cond.code yX1_empty cX1_empty 2 (some .int) ∈ TBL := tin4 200 rfl rfl
theorem w_1016 : Cond.code yX1_gather cX1_gather 4 (some .int) ∈ TBL := tin4 208 rfl rfl
theorem w_1030 : Cond.code yX1_gatheredObject cX1_gatheredObject 2 (some .int) ∈ TBL := tin4 222 rfl rfl
theorem w_1034 : Cond.code yX1_gatheredPage cX1_gatheredPage 2 (some .int) ∈ TBL := tin4 226 rfl rfl
theorem w_1043 : Cond.code yX1_agreeing cX1_agreeing 6 (some .int) ∈ TBL := tin4 235 rfl rfl
theorem w_1051 : Cond.code yX8_see cX8_see 4 (some .int) ∈ TBL := tin5 3 rfl rfl
theorem w_1059 : Cond.code yX8_empty cX8_empty 2 (some .int) ∈ TBL := tin5 11 rfl rfl
theorem w_1083 : Cond.code yX8_tidying cX8_tidying 5 (some .int) ∈ TBL := tin5 35 rfl rfl
theorem w_1078 : Cond.code yX8_gather cX8_gather 3 (some .int) ∈ TBL := tin5 30 rfl rfl
theorem w_1108 : Cond.code yX3_isLost cX3_isLost 3 (some .boolean) ∈ TBL := tin5 60 rfl rfl
theorem w_1091 : Cond.code yX3_weigh cX3_weigh 3 none ∈ TBL := tin5 43 rfl rfl
theorem w_1115 : Cond.code yX4_isBest cX4_isBest 5 (some .boolean) ∈ TBL := tin5 67 rfl rfl
theorem w_1114 : Cond.static yX4_isBest ∈ TBL := tin5 66 rfl rfl
theorem w_1126 : Cond.code yX10_tryRule cX10_tryRule 3 none ∈ TBL := tin5 78 rfl rfl
theorem w_1144 : Cond.code yX0_draw cX0_draw 2 (some .int) ∈ TBL := tin5 96 rfl rfl
theorem w_113 : Cond.initialized RX0 ∈ TBL := tin1 25 rfl rfl
theorem w_1149 : Cond.code yX10_actDrawn cX10_actDrawn 5 none ∈ TBL := tin5 101 rfl rfl
theorem w_1135 : Cond.code yX0_init cX0_init 2 none ∈ TBL := tin5 87 rfl rfl
theorem w_1134 : Cond.instanceMethod yX0_init ∈ TBL := tin5 86 rfl rfl
theorem w_1153 : Cond.code yX9_objectSet cX9_objectSet 1 (some .int) ∈ TBL := tin5 105 rfl rfl
theorem w_1157 : Cond.code yX9_spaceSet cX9_spaceSet 1 (some .int) ∈ TBL := tin5 109 rfl rfl
theorem w_1165 : Cond.code yX2_store cX2_store 3 (some .boolean) ∈ TBL := tin5 117 rfl rfl
theorem w_1173 : Cond.code yX2_fetchStored cX2_fetchStored 3 (some .boolean) ∈ TBL := tin5 125 rfl rfl
theorem w_1182 : Cond.code yX9_sharingTotal cX9_sharingTotal 1 (some .int) ∈ TBL := tin5 134 rfl rfl
theorem w_1186 : Cond.code yX1_total cX1_total 1 (some .int) ∈ TBL := tin5 138 rfl rfl
theorem w_1190 : Cond.code yX8_total cX8_total 1 (some .int) ∈ TBL := tin5 142 rfl rfl
theorem w_1194 : Cond.code yX5_total cX5_total 1 (some .int) ∈ TBL := tin5 146 rfl rfl
theorem w_1304 : Cond.code yX5_number cX5_number 2 (some .long) ∈ TBL := tin6 16 rfl rfl
theorem w_1314 : Cond.code yX11_clear cX11_clear 3 none ∈ TBL := tin6 26 rfl rfl
theorem w_98 : Cond.initialized RX11 ∈ TBL := tin1 10 rfl rfl
theorem w_1313 : Cond.static yX11_clear ∈ TBL := tin6 25 rfl rfl
theorem w_1311 : Cond.methodLink RX11 3 Lib.objectInit ∈ TBL := tin6 23 rfl rfl
theorem w_869 : Cond.arrayClass .byte ∈ TBL := tin4 61 rfl rfl
theorem w_1438 : Cond.code yX11_in cX11_in 3 (some .boolean) ∈ TBL := tin6 150 rfl rfl
theorem w_1437 : Cond.static yX11_in ∈ TBL := tin6 149 rfl rfl
theorem w_1486 : Cond.code yX11_isThere cX11_isThere 2 (some .boolean) ∈ TBL := tin6 198 rfl rfl
theorem w_1485 : Cond.static yX11_isThere ∈ TBL := tin6 197 rfl rfl
theorem w_1495 : Cond.code yX11_holds cX11_holds 3 (some .boolean) ∈ TBL := tin6 207 rfl rfl
theorem w_1494 : Cond.static yX11_holds ∈ TBL := tin6 206 rfl rfl
theorem w_1492 : Cond.code yX11_pagesOf cX11_pagesOf 4 (some .int) ∈ TBL := tin6 204 rfl rfl
theorem w_1491 : Cond.static yX11_pagesOf ∈ TBL := tin6 203 rfl rfl
theorem w_1480 : Cond.code yX11_isSpace cX11_isSpace 2 (some .boolean) ∈ TBL := tin6 192 rfl rfl
theorem w_1479 : Cond.static yX11_isSpace ∈ TBL := tin6 191 rfl rfl
theorem w_1579 : Cond.code yX11_holdersOf cX11_holdersOf 4 (some .int) ∈ TBL := tin7 51 rfl rfl
theorem w_1578 : Cond.static yX11_holdersOf ∈ TBL := tin7 50 rfl rfl
theorem w_1650 : Cond.code yX11_forgetCopy cX11_forgetCopy 4 none ∈ TBL := tin7 122 rfl rfl
theorem w_1649 : Cond.static yX11_forgetCopy ∈ TBL := tin7 121 rfl rfl
theorem w_1556 : Cond.code yX11_lengthOf cX11_lengthOf 4 (some .int) ∈ TBL := tin7 28 rfl rfl
theorem w_1555 : Cond.static yX11_lengthOf ∈ TBL := tin7 27 rfl rfl
theorem w_1609 : Cond.code yX11_objectAt cX11_objectAt 5 (some .int) ∈ TBL := tin7 81 rfl rfl
theorem w_1608 : Cond.static yX11_objectAt ∈ TBL := tin7 80 rfl rfl
theorem w_1450 : Cond.code yX11_begin cX11_begin 4 none ∈ TBL := tin6 162 rfl rfl
theorem w_1458 : Cond.code yX11_fine cX11_fine 1 (some .boolean) ∈ TBL := tin6 170 rfl rfl
theorem w_1462 : Cond.code yX11_here cX11_here 1 (some .int) ∈ TBL := tin6 174 rfl rfl
theorem w_1534 : Cond.code yX11_passes cX11_passes 2 (some .boolean) ∈ TBL := tin7 6 rfl rfl
theorem w_1466 : Cond.code yX11_fault cX11_fault 2 none ∈ TBL := tin6 178 rfl rfl
theorem w_1454 : Cond.code yX11_oneOf cX11_oneOf 3 (some .int) ∈ TBL := tin6 166 rfl rfl
theorem w_1483 : Cond.code yX11_freeObject cX11_freeObject 2 (some .int) ∈ TBL := tin6 195 rfl rfl
theorem w_1482 : Cond.static yX11_freeObject ∈ TBL := tin6 194 rfl rfl
theorem w_1503 : Cond.code yX11_lay cX11_lay 4 none ∈ TBL := tin6 215 rfl rfl
theorem w_1502 : Cond.static yX11_lay ∈ TBL := tin6 214 rfl rfl
theorem w_1470 : Cond.code yX11_valueOf cX11_valueOf 2 (some .int) ∈ TBL := tin6 182 rfl rfl
theorem w_1474 : Cond.code yX11_wasRight cX11_wasRight 1 (some .boolean) ∈ TBL := tin6 186 rfl rfl
theorem w_1477 : Cond.code yX11_freeSpace cX11_freeSpace 2 (some .int) ∈ TBL := tin6 189 rfl rfl
theorem w_1476 : Cond.static yX11_freeSpace ∈ TBL := tin6 188 rfl rfl
theorem w_1489 : Cond.code yX11_framesOf cX11_framesOf 3 (some .int) ∈ TBL := tin6 201 rfl rfl
theorem w_1488 : Cond.static yX11_framesOf ∈ TBL := tin6 200 rfl rfl
theorem w_1500 : Cond.code yX11_remember cX11_remember 3 none ∈ TBL := tin6 212 rfl rfl
theorem w_1506 : Cond.code yX11_comes cX11_comes 5 (some .int) ∈ TBL := tin6 218 rfl rfl
theorem w_1505 : Cond.static yX11_comes ∈ TBL := tin6 217 rfl rfl
theorem w_1446 : Cond.code yX11_beginText cX11_beginText 2 none ∈ TBL := tin6 158 rfl rfl
theorem w_1522 : Cond.code yX11_sum cX11_sum 5 (some .int) ∈ TBL := tin6 234 rfl rfl
theorem w_1526 : Cond.code yX11_product cX11_product 5 (some .int) ∈ TBL := tin6 238 rfl rfl
theorem w_1530 : Cond.code yX11_thing cX11_thing 4 (some .int) ∈ TBL := tin7 2 rfl rfl
theorem w_1542 : Cond.code yX11_number cX11_number 4 (some .int) ∈ TBL := tin7 14 rfl rfl
theorem w_1545 : Cond.code yX11_letterOf cX11_letterOf 1 (some .int) ∈ TBL := tin7 17 rfl rfl
theorem w_1544 : Cond.static yX11_letterOf ∈ TBL := tin7 16 rfl rfl
theorem w_1518 : Cond.code yX11_held cX11_held 3 (some .int) ∈ TBL := tin6 230 rfl rfl
theorem w_1538 : Cond.code yX11_need cX11_need 2 none ∈ TBL := tin7 10 rfl rfl
theorem w_1514 : Cond.code yX11_readRule cX11_readRule 1 (some .boolean) ∈ TBL := tin6 226 rfl rfl
theorem w_1563 : Cond.code yX11_objectsOf cX11_objectsOf 3 (some .int) ∈ TBL := tin7 35 rfl rfl
theorem w_1562 : Cond.static yX11_objectsOf ∈ TBL := tin7 34 rfl rfl
theorem w_1553 : Cond.code yX11_lost cX11_lost 1 (some .int) ∈ TBL := tin7 25 rfl rfl
theorem w_1560 : Cond.code yX11_ruleOf cX11_ruleOf 5 (some .int) ∈ TBL := tin7 32 rfl rfl
theorem w_1564 : Cond.methodLink RX11 233 Lib.Math.min.name ∈ TBL := tin7 36 rfl rfl
theorem w_1565 : Cond.methodLink RX11 239 Lib.Math.max.name ∈ TBL := tin7 37 rfl rfl
theorem w_1573 : Cond.code yX11_isObject cX11_isObject 2 (some .boolean) ∈ TBL := tin7 45 rfl rfl
theorem w_1576 : Cond.code yX11_told24 cX11_told24 1 (some .int) ∈ TBL := tin7 48 rfl rfl
theorem w_1575 : Cond.static yX11_told24 ∈ TBL := tin7 47 rfl rfl
theorem w_1586 : Cond.code yX11_isPage cX11_isPage 1 (some .boolean) ∈ TBL := tin7 58 rfl rfl
theorem w_1585 : Cond.static yX11_isPage ∈ TBL := tin7 57 rfl rfl
theorem w_1603 : Cond.code yX11_placeOf cX11_placeOf 5 (some .int) ∈ TBL := tin7 75 rfl rfl
theorem w_1602 : Cond.static yX11_placeOf ∈ TBL := tin7 74 rfl rfl
theorem w_1606 : Cond.code yX11_lastOf cX11_lastOf 2 (some .int) ∈ TBL := tin7 78 rfl rfl
theorem w_1605 : Cond.static yX11_lastOf ∈ TBL := tin7 77 rfl rfl
theorem w_1612 : Cond.code yX11_isFetched cX11_isFetched 3 (some .boolean) ∈ TBL := tin7 84 rfl rfl
theorem w_1611 : Cond.static yX11_isFetched ∈ TBL := tin7 83 rfl rfl
theorem w_1618 : Cond.code yX11_fetchOf cX11_fetchOf 5 (some .int) ∈ TBL := tin7 90 rfl rfl
theorem w_1617 : Cond.static yX11_fetchOf ∈ TBL := tin7 89 rfl rfl
theorem w_1600 : Cond.code yX11_refusesFetch cX11_refusesFetch 4 (some .int) ∈ TBL := tin7 72 rfl rfl
theorem w_1599 : Cond.static yX11_refusesFetch ∈ TBL := tin7 71 rfl rfl
theorem w_1621 : Cond.code yX11_goFetch cX11_goFetch 3 none ∈ TBL := tin7 93 rfl rfl
theorem w_1620 : Cond.static yX11_goFetch ∈ TBL := tin7 92 rfl rfl
theorem w_1625 : Cond.code yX11_tell cX11_tell 3 none ∈ TBL := tin7 97 rfl rfl
theorem w_1597 : Cond.code yX11_refusesRead cX11_refusesRead 4 (some .int) ∈ TBL := tin7 69 rfl rfl
theorem w_1596 : Cond.static yX11_refusesRead ∈ TBL := tin7 68 rfl rfl
theorem w_1615 : Cond.code yX11_goAwait cX11_goAwait 3 none ∈ TBL := tin7 87 rfl rfl
theorem w_1614 : Cond.static yX11_goAwait ∈ TBL := tin7 86 rfl rfl
theorem w_1635 : Cond.code yX11_isShared cX11_isShared 2 (some .boolean) ∈ TBL := tin7 107 rfl rfl
theorem w_1634 : Cond.static yX11_isShared ∈ TBL := tin7 106 rfl rfl
theorem w_1653 : Cond.code yX11_goFree cX11_goFree 4 (some .int) ∈ TBL := tin7 125 rfl rfl
theorem w_1652 : Cond.static yX11_goFree ∈ TBL := tin7 124 rfl rfl
theorem w_1659 : Cond.code yX11_isCopy cX11_isCopy 3 (some .boolean) ∈ TBL := tin7 131 rfl rfl
theorem w_1658 : Cond.static yX11_isCopy ∈ TBL := tin7 130 rfl rfl
theorem w_1647 : Cond.code yX11_goBypass cX11_goBypass 4 none ∈ TBL := tin7 119 rfl rfl
theorem w_1656 : Cond.code yX11_goCollapse cX11_goCollapse 4 none ∈ TBL := tin7 128 rfl rfl
theorem w_1655 : Cond.static yX11_goCollapse ∈ TBL := tin7 127 rfl rfl
theorem w_1643 : Cond.code yX11_goTidy cX11_goTidy 6 none ∈ TBL := tin7 115 rfl rfl
theorem w_1639 : Cond.code yX11_goWrite cX11_goWrite 8 none ∈ TBL := tin7 111 rfl rfl
theorem w_1632 : Cond.code yX11_refusesWrite cX11_refusesWrite 8 (some .int) ∈ TBL := tin7 104 rfl rfl
theorem w_1631 : Cond.static yX11_refusesWrite ∈ TBL := tin7 103 rfl rfl
theorem w_1666 : Cond.code yX11_refusesFork cX11_refusesFork 2 (some .int) ∈ TBL := tin7 138 rfl rfl
theorem w_1665 : Cond.static yX11_refusesFork ∈ TBL := tin7 137 rfl rfl
theorem w_1669 : Cond.code yX11_goFork cX11_goFork 5 (some .int) ∈ TBL := tin7 141 rfl rfl
theorem w_1668 : Cond.static yX11_goFork ∈ TBL := tin7 140 rfl rfl
theorem w_1676 : Cond.code yX11_goEnd cX11_goEnd 2 (some .int) ∈ TBL := tin7 148 rfl rfl
theorem w_1675 : Cond.static yX11_goEnd ∈ TBL := tin7 147 rfl rfl
theorem w_1687 : Cond.code yX11_has cX11_has 2 (some .boolean) ∈ TBL := tin7 159 rfl rfl
theorem w_1686 : Cond.static yX11_has ∈ TBL := tin7 158 rfl rfl
theorem w_1684 : Cond.code yX11_refusesArrival cX11_refusesArrival 4 (some .int) ∈ TBL := tin7 156 rfl rfl
theorem w_1691 : Cond.code yX11_goArrive cX11_goArrive 4 (some .int) ∈ TBL := tin7 163 rfl rfl
theorem w_1707 : Cond.code yX11_twoDigits cX11_twoDigits 2 (some .int) ∈ TBL := tin7 179 rfl rfl
theorem w_1703 : Cond.code yX11_readAct cX11_readAct 3 none ∈ TBL := tin7 175 rfl rfl
theorem w_1711 : Cond.code yX11_act cX11_act 5 (some .boolean) ∈ TBL := tin7 183 rfl rfl
theorem w_1734 : Cond.code yX11_isInChain cX11_isInChain 4 (some .boolean) ∈ TBL := tin7 206 rfl rfl
theorem w_1733 : Cond.static yX11_isInChain ∈ TBL := tin7 205 rfl rfl
theorem w_1731 : Cond.code yX11_inChains cX11_inChains 4 (some .int) ∈ TBL := tin7 203 rfl rfl
theorem w_1745 : Cond.code yX11_frameOf cX11_frameOf 4 (some .int) ∈ TBL := tin7 217 rfl rfl
theorem w_1744 : Cond.static yX11_frameOf ∈ TBL := tin7 216 rfl rfl
theorem w_1742 : Cond.code yX11_areTwo cX11_areTwo 3 (some .boolean) ∈ TBL := tin7 214 rfl rfl
theorem w_1749 : Cond.code yX11_tellBits cX11_tellBits 2 (some .int) ∈ TBL := tin7 221 rfl rfl
theorem w_1765 : Cond.code yX11_havers cX11_havers 5 (some .int) ∈ TBL := tin7 237 rfl rfl
theorem w_1789 : Cond.code yX11_tryWrite cX11_tryWrite 6 (some .boolean) ∈ TBL := tin8 21 rfl rfl
theorem w_1792 : Cond.code yX11_spacesOf cX11_spacesOf 3 (some .int) ∈ TBL := tin8 24 rfl rfl
theorem w_1791 : Cond.static yX11_spacesOf ∈ TBL := tin8 23 rfl rfl
theorem w_1804 : Cond.code yX11_common_ cX11_common_ 4 (some .long) ∈ TBL := tin8 36 rfl rfl
theorem w_1803 : Cond.static yX11_common_ ∈ TBL := tin8 35 rfl rfl
theorem w_1801 : Cond.constantLong RX11 376 10 ∈ TBL := tin8 33 rfl rfl
theorem w_1811 : Cond.code yX11_highOf cX11_highOf 1 (some .int) ∈ TBL := tin8 43 rfl rfl
theorem w_1810 : Cond.static yX11_highOf ∈ TBL := tin8 42 rfl rfl
theorem w_1831 : Cond.code yX11_isSo cX11_isSo 5 (some .boolean) ∈ TBL := tin8 63 rfl rfl
theorem w_1827 : Cond.code yX11_isFitting cX11_isFitting 4 (some .boolean) ∈ TBL := tin8 59 rfl rfl
theorem w_1823 : Cond.code yX11_layFits cX11_layFits 4 (some .int) ∈ TBL := tin8 55 rfl rfl
theorem w_1836 : Cond.constant RX11 394 1000000 ∈ TBL := tin8 68 rfl rfl
theorem w_1855 : Cond.code yX11_tidiesBy cX11_tidiesBy 3 (some .boolean) ∈ TBL := tin8 87 rfl rfl
theorem w_1854 : Cond.static yX11_tidiesBy ∈ TBL := tin8 86 rfl rfl
theorem w_1852 : Cond.code yX11_isLaw cX11_isLaw 3 (some .boolean) ∈ TBL := tin8 84 rfl rfl
theorem w_1867 : Cond.code yX11_worthBy cX11_worthBy 5 (some .int) ∈ TBL := tin8 99 rfl rfl
theorem w_1877 : Cond.code yX11_gets cX11_gets 3 (some .int) ∈ TBL := tin8 109 rfl rfl
theorem w_1876 : Cond.static yX11_gets ∈ TBL := tin8 108 rfl rfl
theorem w_1874 : Cond.code yX11_isBest cX11_isBest 4 (some .boolean) ∈ TBL := tin8 106 rfl rfl
theorem w_1873 : Cond.static yX11_isBest ∈ TBL := tin8 105 rfl rfl
theorem w_1885 : Cond.code yX11_layWritten cX11_layWritten 3 none ∈ TBL := tin8 117 rfl rfl
theorem w_1894 : Cond.constant RX11 419 1103515245 ∈ TBL := tin8 126 rfl rfl
theorem w_1893 : Cond.code yX11_draw cX11_draw 2 (some .int) ∈ TBL := tin8 125 rfl rfl
theorem w_1910 : Cond.code yX11_sumOf cX11_sumOf 6 (some .int) ∈ TBL := tin8 142 rfl rfl
theorem in_X0 : ∀ w ∈ u_ws RX0 TX0 1, w ∈ TBL := List.forall_mem_cons.mpr ⟨tin5 90 rfl rfl, fun _ h => absurd h List.not_mem_nil⟩
theorem in_X1 : ∀ w ∈ u_ws RX1 TX1 5, w ∈ TBL := List.forall_mem_cons.mpr ⟨tin1 177 rfl rfl, List.forall_mem_cons.mpr ⟨tin1 179 rfl rfl, List.forall_mem_cons.mpr ⟨tin1 181 rfl rfl, List.forall_mem_cons.mpr ⟨tin1 183 rfl rfl, List.forall_mem_cons.mpr ⟨tin1 185 rfl rfl, fun _ h => absurd h List.not_mem_nil⟩⟩⟩⟩⟩
theorem in_X9 : ∀ w ∈ u_ws RX9 TX9 14, w ∈ TBL := List.forall_mem_cons.mpr ⟨tin1 54 rfl rfl, List.forall_mem_cons.mpr ⟨tin1 56 rfl rfl, List.forall_mem_cons.mpr ⟨tin1 58 rfl rfl, List.forall_mem_cons.mpr ⟨tin1 60 rfl rfl, List.forall_mem_cons.mpr ⟨tin1 62 rfl rfl, List.forall_mem_cons.mpr ⟨tin1 64 rfl rfl, List.forall_mem_cons.mpr ⟨tin1 66 rfl rfl, List.forall_mem_cons.mpr ⟨tin1 68 rfl rfl, List.forall_mem_cons.mpr ⟨tin1 70 rfl rfl, List.forall_mem_cons.mpr ⟨tin1 72 rfl rfl, List.forall_mem_cons.mpr ⟨tin1 74 rfl rfl, List.forall_mem_cons.mpr ⟨tin1 76 rfl rfl, List.forall_mem_cons.mpr ⟨tin1 78 rfl rfl, List.forall_mem_cons.mpr ⟨tin1 80 rfl rfl, fun _ h => absurd h List.not_mem_nil⟩⟩⟩⟩⟩⟩⟩⟩⟩⟩⟩⟩⟩⟩
theorem in_X2 : ∀ w ∈ u_ws RX2 TX2 5, w ∈ TBL := List.forall_mem_cons.mpr ⟨tin1 99 rfl rfl, List.forall_mem_cons.mpr ⟨tin1 101 rfl rfl, List.forall_mem_cons.mpr ⟨tin1 103 rfl rfl, List.forall_mem_cons.mpr ⟨tin1 105 rfl rfl, List.forall_mem_cons.mpr ⟨tin1 107 rfl rfl, fun _ h => absurd h List.not_mem_nil⟩⟩⟩⟩⟩
theorem in_X3 : ∀ w ∈ u_ws RX3 TX3 1, w ∈ TBL := List.forall_mem_cons.mpr ⟨tin1 217 rfl rfl, fun _ h => absurd h List.not_mem_nil⟩
theorem in_X5 : ∀ w ∈ u_ws RX5 TX5 2, w ∈ TBL := List.forall_mem_cons.mpr ⟨tin1 160 rfl rfl, List.forall_mem_cons.mpr ⟨tin1 162 rfl rfl, fun _ h => absurd h List.not_mem_nil⟩⟩
theorem in_X6 : ∀ w ∈ u_ws RX6 TX6 3, w ∈ TBL := List.forall_mem_cons.mpr ⟨tin1 120 rfl rfl, List.forall_mem_cons.mpr ⟨tin1 122 rfl rfl, List.forall_mem_cons.mpr ⟨tin1 124 rfl rfl, fun _ h => absurd h List.not_mem_nil⟩⟩⟩
theorem in_X7 : ∀ w ∈ u_ws RX7 TX7 6, w ∈ TBL := List.forall_mem_cons.mpr ⟨tin1 139 rfl rfl, List.forall_mem_cons.mpr ⟨tin1 141 rfl rfl, List.forall_mem_cons.mpr ⟨tin1 143 rfl rfl, List.forall_mem_cons.mpr ⟨tin1 145 rfl rfl, List.forall_mem_cons.mpr ⟨tin1 147 rfl rfl, List.forall_mem_cons.mpr ⟨tin1 149 rfl rfl, fun _ h => absurd h List.not_mem_nil⟩⟩⟩⟩⟩⟩
theorem in_X8 : ∀ w ∈ u_ws RX8 TX8 5, w ∈ TBL := List.forall_mem_cons.mpr ⟨tin1 199 rfl rfl, List.forall_mem_cons.mpr ⟨tin1 201 rfl rfl, List.forall_mem_cons.mpr ⟨tin1 203 rfl rfl, List.forall_mem_cons.mpr ⟨tin1 205 rfl rfl, List.forall_mem_cons.mpr ⟨tin1 207 rfl rfl, fun _ h => absurd h List.not_mem_nil⟩⟩⟩⟩⟩
theorem in_X10 : ∀ w ∈ u_ws RX10 TX10 12, w ∈ TBL := List.forall_mem_cons.mpr ⟨tin2 8 rfl rfl, List.forall_mem_cons.mpr ⟨tin2 10 rfl rfl, List.forall_mem_cons.mpr ⟨tin2 12 rfl rfl, List.forall_mem_cons.mpr ⟨tin2 14 rfl rfl, List.forall_mem_cons.mpr ⟨tin2 16 rfl rfl, List.forall_mem_cons.mpr ⟨tin2 18 rfl rfl, List.forall_mem_cons.mpr ⟨tin2 20 rfl rfl, List.forall_mem_cons.mpr ⟨tin2 22 rfl rfl, List.forall_mem_cons.mpr ⟨tin2 24 rfl rfl, List.forall_mem_cons.mpr ⟨tin2 26 rfl rfl, List.forall_mem_cons.mpr ⟨tin2 28 rfl rfl, List.forall_mem_cons.mpr ⟨tin2 30 rfl rfl, fun _ h => absurd h List.not_mem_nil⟩⟩⟩⟩⟩⟩⟩⟩⟩⟩⟩⟩
theorem in_X11 : ∀ w ∈ u_ws RX11 TX11 36, w ∈ TBL := List.forall_mem_cons.mpr ⟨tin6 63 rfl rfl, List.forall_mem_cons.mpr ⟨tin6 65 rfl rfl, List.forall_mem_cons.mpr ⟨tin6 67 rfl rfl, List.forall_mem_cons.mpr ⟨tin6 69 rfl rfl, List.forall_mem_cons.mpr ⟨tin6 71 rfl rfl, List.forall_mem_cons.mpr ⟨tin6 73 rfl rfl, List.forall_mem_cons.mpr ⟨tin6 75 rfl rfl, List.forall_mem_cons.mpr ⟨tin6 77 rfl rfl, List.forall_mem_cons.mpr ⟨tin6 79 rfl rfl, List.forall_mem_cons.mpr ⟨tin6 81 rfl rfl, List.forall_mem_cons.mpr ⟨tin6 83 rfl rfl, List.forall_mem_cons.mpr ⟨tin6 85 rfl rfl, List.forall_mem_cons.mpr ⟨tin6 87 rfl rfl, List.forall_mem_cons.mpr ⟨tin6 89 rfl rfl, List.forall_mem_cons.mpr ⟨tin6 91 rfl rfl, List.forall_mem_cons.mpr ⟨tin6 93 rfl rfl, List.forall_mem_cons.mpr ⟨tin6 95 rfl rfl, List.forall_mem_cons.mpr ⟨tin6 97 rfl rfl, List.forall_mem_cons.mpr ⟨tin6 99 rfl rfl, List.forall_mem_cons.mpr ⟨tin6 101 rfl rfl, List.forall_mem_cons.mpr ⟨tin6 103 rfl rfl, List.forall_mem_cons.mpr ⟨tin6 105 rfl rfl, List.forall_mem_cons.mpr ⟨tin6 107 rfl rfl, List.forall_mem_cons.mpr ⟨tin6 109 rfl rfl, List.forall_mem_cons.mpr ⟨tin6 111 rfl rfl, List.forall_mem_cons.mpr ⟨tin6 113 rfl rfl, List.forall_mem_cons.mpr ⟨tin6 115 rfl rfl, List.forall_mem_cons.mpr ⟨tin6 117 rfl rfl, List.forall_mem_cons.mpr ⟨tin6 119 rfl rfl, List.forall_mem_cons.mpr ⟨tin6 121 rfl rfl, List.forall_mem_cons.mpr ⟨tin6 123 rfl rfl, List.forall_mem_cons.mpr ⟨tin6 125 rfl rfl, List.forall_mem_cons.mpr ⟨tin6 127 rfl rfl, List.forall_mem_cons.mpr ⟨tin6 129 rfl rfl, List.forall_mem_cons.mpr ⟨tin6 131 rfl rfl, List.forall_mem_cons.mpr ⟨tin6 133 rfl rfl, fun _ h => absurd h List.not_mem_nil⟩⟩⟩⟩⟩⟩⟩⟩⟩⟩⟩⟩⟩⟩⟩⟩⟩⟩⟩⟩⟩⟩⟩⟩⟩⟩⟩⟩⟩⟩⟩⟩⟩⟩⟩⟩
theorem fpX0_7 : FP RX0 7 0 0 .int false := ⟨RX0, TX0, 1, tyX0, rfl, in_X0, by decide, tin5 89 rfl rfl, by decide +kernel, tyX0_ok, nmX0, rfl, rfl⟩
theorem pn_X0 : plainName RX0 = true := by decide +kernel
theorem fdX0_7 : FD RX0 7 0 0 .int := ⟨RX0, TX0, 1, rfl, in_X0, by decide, tin5 89 rfl rfl, by decide +kernel⟩
theorem fpX1_11 : FP RX1 11 1 0 (.array .int) true := ⟨RX1, TX1, 5, tyX1, rfl, in_X1, by decide, tin1 172 rfl rfl, by decide +kernel, tyX1_ok, nmX1, rfl, rfl⟩
theorem fpX1_15 : FP RX1 15 1 1 (.array .int) true := ⟨RX1, TX1, 5, tyX1, rfl, in_X1, by decide, tin1 173 rfl rfl, by decide +kernel, tyX1_ok, nmX1, rfl, rfl⟩
theorem fpX1_18 : FP RX1 18 1 2 (.array .int) true := ⟨RX1, TX1, 5, tyX1, rfl, in_X1, by decide, tin1 174 rfl rfl, by decide +kernel, tyX1_ok, nmX1, rfl, rfl⟩
theorem pn_X1 : plainName RX1 = true := by decide +kernel
theorem miX1_21 : MI RX1 21 yX1_numbersOf cX1_numbersOf 1 (some .int) 1 := ⟨(tin4 190 rfl rfl), w_1000, w_95, by decide +kernel⟩
theorem fdX1_25 : FD RX1 25 1 3 .int := ⟨RX1, TX1, 5, rfl, in_X1, by decide, tin1 175 rfl rfl, by decide +kernel⟩
theorem fdX1_11 : FD RX1 11 1 0 (.array .int) := ⟨RX1, TX1, 5, rfl, in_X1, by decide, tin1 172 rfl rfl, by decide +kernel⟩
theorem fdX1_15 : FD RX1 15 1 1 (.array .int) := ⟨RX1, TX1, 5, rfl, in_X1, by decide, tin1 173 rfl rfl, by decide +kernel⟩
theorem fpX1_25 : FP RX1 25 1 3 .int false := ⟨RX1, TX1, 5, tyX1, rfl, in_X1, by decide, tin1 175 rfl rfl, by decide +kernel, tyX1_ok, nmX1, rfl, rfl⟩
theorem fdX9_43 : FD RX9 43 9 2 .int := ⟨RX9, TX9, 14, rfl, in_X9, by decide, tin1 42 rfl rfl, by decide +kernel⟩
theorem pn_X9 : plainName RX9 = true := by decide +kernel
theorem pn_X10 : plainName RX10 = true := by decide +kernel
theorem miX9_55 : MI RX9 55 yX9_hasObject cX9_hasObject 2 (some .boolean) 1 := ⟨(tin2 123 rfl rfl), w_454, w_90, by decide +kernel⟩
theorem mvX9_hasObject : MIV yX9_hasObject 9 := ⟨(tin2 124 rfl rfl), (tin2 125 rfl rfl), TX9, 14, rfl⟩
theorem miX9_59 : MIN RX9 59 yX10_isPage RX10 cX10_isPage 1 (some .boolean) 1 := ⟨List.mem_of_getElem? (i := 6) rfl, w_457, w_89, by decide +kernel⟩
theorem fdX9_15 : FD RX9 15 9 5 (.array .int) := ⟨RX9, TX9, 14, rfl, in_X9, by decide, tin1 45 rfl rfl, by decide +kernel⟩
theorem miX9_62 : MIN RX9 62 yX10_isIn RX10 cX10_isIn 2 (some .boolean) 2 := ⟨List.mem_of_getElem? (i := 8) rfl, w_577, w_89, by decide +kernel⟩
theorem miX9_81 : MI RX9 81 yX9_holds cX9_holds 3 (some .boolean) 2 := ⟨(tin3 3 rfl rfl), w_574, w_90, by decide +kernel⟩
theorem mvX9_holds : MIV yX9_holds 9 := ⟨(tin3 4 rfl rfl), (tin3 5 rfl rfl), TX9, 14, rfl⟩
theorem fdX9_33 : FD RX9 33 9 11 (.array .int) := ⟨RX9, TX9, 14, rfl, in_X9, by decide, tin1 51 rfl rfl, by decide +kernel⟩
theorem fdX9_9 : FD RX9 9 9 4 (.array .int) := ⟨RX9, TX9, 14, rfl, in_X9, by decide, tin1 44 rfl rfl, by decide +kernel⟩
theorem miX9_78 : MI RX9 78 yX9_hasSpace cX9_hasSpace 2 (some .boolean) 1 := ⟨(tin2 239 rfl rfl), w_570, w_90, by decide +kernel⟩
theorem mvX9_hasSpace : MIV yX9_hasSpace 9 := ⟨(tin3 0 rfl rfl), (tin3 1 rfl rfl), TX9, 14, rfl⟩
theorem fdX9_21 : FD RX9 21 9 7 (.array .int) := ⟨RX9, TX9, 14, rfl, in_X9, by decide, tin1 47 rfl rfl, by decide +kernel⟩
theorem miX9_84 : MI RX9 84 yX9_topOf cX9_topOf 2 (some .int) 1 := ⟨(tin2 235 rfl rfl), w_566, w_90, by decide +kernel⟩
theorem mvX9_topOf : MIV yX9_topOf 9 := ⟨(tin2 236 rfl rfl), (tin2 237 rfl rfl), TX9, 14, rfl⟩
theorem miX1_46 : MI RX1 46 yX9_valueOf cX9_valueOf 3 (some .int) 2 := ⟨(tin4 217 rfl rfl), w_594, w_90, by decide +kernel⟩
theorem mvX9_valueOf : MIV yX9_valueOf 9 := ⟨(tin3 24 rfl rfl), (tin3 25 rfl rfl), TX9, 14, rfl⟩
theorem miX1_50 : MI RX1 50 yX9_firstHolder cX9_firstHolder 5 (some .int) 2 := ⟨(tin4 218 rfl rfl), w_562, w_90, by decide +kernel⟩
theorem mvX9_firstHolder : MIV yX9_firstHolder 9 := ⟨(tin2 232 rfl rfl), (tin2 233 rfl rfl), TX9, 14, rfl⟩
theorem miX1_42 : MI RX1 42 yX1_agrees cX1_agrees 6 (some .boolean) 4 := ⟨(tin4 214 rfl rfl), w_1024, w_95, by decide +kernel⟩
theorem fdX1_29 : FD RX1 29 1 4 .int := ⟨RX1, TX1, 5, rfl, in_X1, by decide, tin1 176 rfl rfl, by decide +kernel⟩
theorem miX1_32 : MI RX1 32 yX9_holds cX9_holds 3 (some .boolean) 2 := ⟨(tin4 209 rfl rfl), w_574, w_90, by decide +kernel⟩
theorem miX1_38 : MI RX1 38 yX1_fitsAll cX1_fitsAll 4 (some .boolean) 2 := ⟨(tin4 210 rfl rfl), w_1021, w_95, by decide +kernel⟩
theorem mvX1_fitsAll : MIV yX1_fitsAll 1 := ⟨(tin4 212 rfl rfl), (tinP 40 rfl rfl), TX1, 5, rfl⟩
theorem fdX1_18 : FD RX1 18 1 2 (.array .int) := ⟨RX1, TX1, 5, rfl, in_X1, by decide, tin1 174 rfl rfl, by decide +kernel⟩
theorem fpX1_29 : FP RX1 29 1 4 .int false := ⟨RX1, TX1, 5, tyX1, rfl, in_X1, by decide, tin1 176 rfl rfl, by decide +kernel, tyX1_ok, nmX1, rfl, rfl⟩
theorem fdX9_24 : FD RX9 24 9 8 (.array .int) := ⟨RX9, TX9, 14, rfl, in_X9, by decide, tin1 48 rfl rfl, by decide +kernel⟩
theorem fpX9_9 : FP RX9 9 9 4 (.array .int) true := ⟨RX9, TX9, 14, tyX9, rfl, in_X9, by decide, tin1 44 rfl rfl, by decide +kernel, tyX9_ok, nmX9, rfl, rfl⟩
theorem fpX9_15 : FP RX9 15 9 5 (.array .int) true := ⟨RX9, TX9, 14, tyX9, rfl, in_X9, by decide, tin1 45 rfl rfl, by decide +kernel, tyX9_ok, nmX9, rfl, rfl⟩
theorem fpX9_18 : FP RX9 18 9 6 (.array .int) true := ⟨RX9, TX9, 14, tyX9, rfl, in_X9, by decide, tin1 46 rfl rfl, by decide +kernel, tyX9_ok, nmX9, rfl, rfl⟩
theorem fpX9_21 : FP RX9 21 9 7 (.array .int) true := ⟨RX9, TX9, 14, tyX9, rfl, in_X9, by decide, tin1 47 rfl rfl, by decide +kernel, tyX9_ok, nmX9, rfl, rfl⟩
theorem fpX9_24 : FP RX9 24 9 8 (.array .int) true := ⟨RX9, TX9, 14, tyX9, rfl, in_X9, by decide, tin1 48 rfl rfl, by decide +kernel, tyX9_ok, nmX9, rfl, rfl⟩
theorem fpX9_27 : FP RX9 27 9 9 (.array .int) true := ⟨RX9, TX9, 14, tyX9, rfl, in_X9, by decide, tin1 49 rfl rfl, by decide +kernel, tyX9_ok, nmX9, rfl, rfl⟩
theorem fpX9_30 : FP RX9 30 9 10 (.array .int) true := ⟨RX9, TX9, 14, tyX9, rfl, in_X9, by decide, tin1 50 rfl rfl, by decide +kernel, tyX9_ok, nmX9, rfl, rfl⟩
theorem fpX9_33 : FP RX9 33 9 11 (.array .int) true := ⟨RX9, TX9, 14, tyX9, rfl, in_X9, by decide, tin1 51 rfl rfl, by decide +kernel, tyX9_ok, nmX9, rfl, rfl⟩
theorem fdX2_23 : FD RX2 23 2 4 .int := ⟨RX2, TX2, 5, rfl, in_X2, by decide, tin1 98 rfl rfl, by decide +kernel⟩
theorem pn_X2 : plainName RX2 = true := by decide +kernel
theorem fdX9_36 : FD RX9 36 9 0 .int := ⟨RX9, TX9, 14, rfl, in_X9, by decide, tin1 40 rfl rfl, by decide +kernel⟩
theorem fpX9_36 : FP RX9 36 9 0 .int false := ⟨RX9, TX9, 14, tyX9, rfl, in_X9, by decide, tin1 40 rfl rfl, by decide +kernel, tyX9_ok, nmX9, rfl, rfl⟩
theorem fdX9_40 : FD RX9 40 9 1 .int := ⟨RX9, TX9, 14, rfl, in_X9, by decide, tin1 41 rfl rfl, by decide +kernel⟩
theorem fpX9_40 : FP RX9 40 9 1 .int false := ⟨RX9, TX9, 14, tyX9, rfl, in_X9, by decide, tin1 41 rfl rfl, by decide +kernel, tyX9_ok, nmX9, rfl, rfl⟩
theorem fpX9_43 : FP RX9 43 9 2 .int false := ⟨RX9, TX9, 14, tyX9, rfl, in_X9, by decide, tin1 42 rfl rfl, by decide +kernel, tyX9_ok, nmX9, rfl, rfl⟩
theorem fdX9_46 : FD RX9 46 9 3 .int := ⟨RX9, TX9, 14, rfl, in_X9, by decide, tin1 43 rfl rfl, by decide +kernel⟩
theorem fpX9_46 : FP RX9 46 9 3 .int false := ⟨RX9, TX9, 14, tyX9, rfl, in_X9, by decide, tin1 43 rfl rfl, by decide +kernel, tyX9_ok, nmX9, rfl, rfl⟩
theorem fdX9_18 : FD RX9 18 9 6 (.array .int) := ⟨RX9, TX9, 14, rfl, in_X9, by decide, tin1 46 rfl rfl, by decide +kernel⟩
theorem fdX9_27 : FD RX9 27 9 9 (.array .int) := ⟨RX9, TX9, 14, rfl, in_X9, by decide, tin1 49 rfl rfl, by decide +kernel⟩
theorem fdX9_30 : FD RX9 30 9 10 (.array .int) := ⟨RX9, TX9, 14, rfl, in_X9, by decide, tin1 50 rfl rfl, by decide +kernel⟩
theorem fdX2_27 : FD RX2 27 2 3 .int := ⟨RX2, TX2, 5, rfl, in_X2, by decide, tin1 97 rfl rfl, by decide +kernel⟩
theorem fdX2_11 : FD RX2 11 2 0 (.array (.object RX9)) := ⟨RX2, TX2, 5, rfl, in_X2, by decide, tin1 94 rfl rfl, by decide +kernel⟩
theorem miX2_30 : MI RX2 30 yX9_copyFrom cX9_copyFrom 2 none 1 := ⟨(tin2 90 rfl rfl), w_421, w_90, by decide +kernel⟩
theorem mvX9_copyFrom : MIV yX9_copyFrom 9 := ⟨(tin2 91 rfl rfl), (tin2 92 rfl rfl), TX9, 14, rfl⟩
theorem fpX2_27 : FP RX2 27 2 3 .int false := ⟨RX2, TX2, 5, tyX2, rfl, in_X2, by decide, tin1 97 rfl rfl, by decide +kernel, tyX2_ok, nmX2, rfl, rfl⟩
theorem fpX2_23 : FP RX2 23 2 4 .int false := ⟨RX2, TX2, 5, tyX2, rfl, in_X2, by decide, tin1 98 rfl rfl, by decide +kernel, tyX2_ok, nmX2, rfl, rfl⟩
theorem fdX2_15 : FD RX2 15 2 1 (.array (.object RX9)) := ⟨RX2, TX2, 5, rfl, in_X2, by decide, tin1 95 rfl rfl, by decide +kernel⟩
theorem fdX2_18 : FD RX2 18 2 2 (.array .boolean) := ⟨RX2, TX2, 5, rfl, in_X2, by decide, tin1 96 rfl rfl, by decide +kernel⟩
theorem fpX3_9 : FP RX3 9 3 0 (.array .int) true := ⟨RX3, TX3, 1, tyX3, rfl, in_X3, by decide, tin1 216 rfl rfl, by decide +kernel, tyX3_ok, nmX3, rfl, rfl⟩
theorem pn_X3 : plainName RX3 = true := by decide +kernel
theorem fdX3_9 : FD RX3 9 3 0 (.array .int) := ⟨RX3, TX3, 1, rfl, in_X3, by decide, tin1 216 rfl rfl, by decide +kernel⟩
theorem pn_J6 : plainName RJ6 = true := by decide +kernel
theorem miJ13_311 : MI RJ13 311 yJ6_numberOfTrailingZeros_0f7a4 cJ6_numberOfTrailingZeros_0f7a4 2 (some .int) 1 := ⟨(tin5 56 rfl rfl), w_438, w_100, by decide +kernel⟩
theorem pn_J13 : plainName RJ13 = true := by decide +kernel
theorem miX3_17 : MI RX3 17 yX3_worthOf cX3_worthOf 2 (some .int) 1 := ⟨(tin5 48 rfl rfl), w_1099, w_97, by decide +kernel⟩
theorem mvX3_worthOf : MIV yX3_worthOf 3 := ⟨(tin5 50 rfl rfl), (tinP 42 rfl rfl), TX3, 1, rfl⟩
theorem miX3_22 : MI RX3 22 yJ13_numberOfTrailingZeros_95d88 cJ13_numberOfTrailingZeros_95d88 3 (some .int) 1 := ⟨(tin5 53 rfl rfl), w_1103, w_111, by decide +kernel⟩
theorem miX3_13 : MI RX3 13 yX3_leastWorthNotReached cX3_leastWorthNotReached 6 (some .int) 1 := ⟨(tin5 44 rfl rfl), w_1095, w_97, by decide +kernel⟩
theorem mvX3_leastWorthNotReached : MIV yX3_leastWorthNotReached 3 := ⟨(tin5 46 rfl rfl), (tinP 41 rfl rfl), TX3, 1, rfl⟩
theorem pn_X4 : plainName RX4 = true := by decide +kernel
theorem miX4_7 : MI RX4 7 yX4_gain cX4_gain 3 (some .int) 3 := ⟨(tin5 68 rfl rfl), w_1118, w_112, by decide +kernel⟩
theorem fpX5_9 : FP RX5 9 5 0 (.array .long) true := ⟨RX5, TX5, 2, tyX5, rfl, in_X5, by decide, tin1 158 rfl rfl, by decide +kernel, tyX5_ok, nmX5, rfl, rfl⟩
theorem pn_X5 : plainName RX5 = true := by decide +kernel
theorem fpX5_15 : FP RX5 15 5 1 .int false := ⟨RX5, TX5, 2, tyX5, rfl, in_X5, by decide, tin1 159 rfl rfl, by decide +kernel, tyX5_ok, nmX5, rfl, rfl⟩
theorem fdX5_15 : FD RX5 15 5 1 .int := ⟨RX5, TX5, 2, rfl, in_X5, by decide, tin1 159 rfl rfl, by decide +kernel⟩
theorem fdX5_9 : FD RX5 9 5 0 (.array .long) := ⟨RX5, TX5, 2, rfl, in_X5, by decide, tin1 158 rfl rfl, by decide +kernel⟩
theorem miX5_19 : MI RX5 19 yX5_has cX5_has 2 (some .boolean) 1 := ⟨(tin6 17 rfl rfl), w_1300, w_94, by decide +kernel⟩
theorem mvX5_has : MIV yX5_has 5 := ⟨(tin6 10 rfl rfl), (tin6 11 rfl rfl), TX5, 2, rfl⟩
theorem fpX6_9 : FP RX6 9 6 0 (.array .int) true := ⟨RX6, TX6, 3, tyX6, rfl, in_X6, by decide, tin1 117 rfl rfl, by decide +kernel, tyX6_ok, nmX6, rfl, rfl⟩
theorem fpX6_15 : FP RX6 15 6 1 (.array .int) true := ⟨RX6, TX6, 3, tyX6, rfl, in_X6, by decide, tin1 118 rfl rfl, by decide +kernel, tyX6_ok, nmX6, rfl, rfl⟩
theorem pn_X6 : plainName RX6 = true := by decide +kernel
theorem fpX6_18 : FP RX6 18 6 2 .int false := ⟨RX6, TX6, 3, tyX6, rfl, in_X6, by decide, tin1 119 rfl rfl, by decide +kernel, tyX6_ok, nmX6, rfl, rfl⟩
theorem fdX6_18 : FD RX6 18 6 2 .int := ⟨RX6, TX6, 3, rfl, in_X6, by decide, tin1 119 rfl rfl, by decide +kernel⟩
theorem fdX6_9 : FD RX6 9 6 0 (.array .int) := ⟨RX6, TX6, 3, rfl, in_X6, by decide, tin1 117 rfl rfl, by decide +kernel⟩
theorem miX6_29 : MI RX6 29 yX6_addNumber cX6_addNumber 2 none 1 := ⟨(tin1 232 rfl rfl), w_323, w_92, by decide +kernel⟩
theorem mvX6_addNumber : MIV yX6_addNumber 6 := ⟨(tin1 233 rfl rfl), (tin1 234 rfl rfl), TX6, 3, rfl⟩
theorem miX6_22 : MI RX6 22 yX6_clear cX6_clear 1 none 0 := ⟨(tin1 224 rfl rfl), w_315, w_92, by decide +kernel⟩
theorem mvX6_clear : MIV yX6_clear 6 := ⟨(tin1 225 rfl rfl), (tin1 226 rfl rfl), TX6, 3, rfl⟩
theorem miX6_25 : MI RX6 25 yX6_addSign cX6_addSign 2 none 1 := ⟨(tin1 228 rfl rfl), w_319, w_92, by decide +kernel⟩
theorem mvX6_addSign : MIV yX6_addSign 6 := ⟨(tin1 229 rfl rfl), (tin1 230 rfl rfl), TX6, 3, rfl⟩
theorem fdX6_15 : FD RX6 15 6 1 (.array .int) := ⟨RX6, TX6, 3, rfl, in_X6, by decide, tin1 118 rfl rfl, by decide +kernel⟩
theorem pn_X7 : plainName RX7 = true := by decide +kernel
theorem miX7_50 : MI RX7 50 yX7_strength cX7_strength 1 (some .int) 1 := ⟨(tin2 192 rfl rfl), w_522, w_93, by decide +kernel⟩
theorem miX6_64 : MI RX6 64 yX6_bind cX6_bind 3 (some .int) 3 := ⟨(tin3 126 rfl rfl), w_696, w_92, by decide +kernel⟩
theorem miX9_66 : MI RX9 66 yJ6_bitCount_0f7a4 cJ6_bitCount_0f7a4 1 (some .int) 1 := ⟨(tin2 68 rfl rfl), w_398, w_100, by decide +kernel⟩
theorem miX6_74 : MI RX6 74 yX9_frameTotal cX9_frameTotal 3 (some .int) 0 := ⟨(tin3 136 rfl rfl), w_409, w_90, by decide +kernel⟩
theorem mvX9_frameTotal : MIV yX9_frameTotal 9 := ⟨(tin2 79 rfl rfl), (tin2 80 rfl rfl), TX9, 14, rfl⟩
theorem miX6_68 : MI RX6 68 yX9_chainLength cX9_chainLength 4 (some .int) 1 := ⟨(tin3 132 rfl rfl), w_703, w_90, by decide +kernel⟩
theorem mvX9_chainLength : MIV yX9_chainLength 9 := ⟨(tin3 133 rfl rfl), (tin3 134 rfl rfl), TX9, 14, rfl⟩
theorem miX6_78 : MI RX6 78 yX9_objectTotal cX9_objectTotal 1 (some .int) 0 := ⟨(tin3 137 rfl rfl), w_405, w_90, by decide +kernel⟩
theorem mvX9_objectTotal : MIV yX9_objectTotal 9 := ⟨(tin2 75 rfl rfl), (tin2 76 rfl rfl), TX9, 14, rfl⟩
theorem miX6_81 : MI RX6 81 yX9_writeTotal cX9_writeTotal 1 (some .int) 0 := ⟨(tin3 138 rfl rfl), w_709, w_90, by decide +kernel⟩
theorem mvX9_writeTotal : MIV yX9_writeTotal 9 := ⟨(tin3 139 rfl rfl), (tin3 140 rfl rfl), TX9, 14, rfl⟩
theorem miX6_84 : MI RX6 84 yX9_topOf cX9_topOf 2 (some .int) 1 := ⟨(tin3 142 rfl rfl), w_566, w_90, by decide +kernel⟩
theorem miX6_87 : MI RX6 87 yX9_heldOf cX9_heldOf 2 (some .int) 1 := ⟨(tin3 143 rfl rfl), w_714, w_90, by decide +kernel⟩
theorem mvX9_heldOf : MIV yX9_heldOf 9 := ⟨(tin3 144 rfl rfl), (tin3 145 rfl rfl), TX9, 14, rfl⟩
theorem miX6_90 : MI RX6 90 yJ6_bitCount_0f7a4 cJ6_bitCount_0f7a4 1 (some .int) 1 := ⟨(tin3 147 rfl rfl), w_398, w_100, by decide +kernel⟩
theorem miX6_39 : MI RX6 39 yX6_signOf cX6_signOf 1 (some .char) 1 := ⟨(tin3 110 rfl rfl), w_680, w_92, by decide +kernel⟩
theorem miX6_43 : MI RX6 43 yX6_push cX6_push 3 (some .int) 2 := ⟨(tin3 113 rfl rfl), w_684, w_92, by decide +kernel⟩
theorem mvX6_push : MIV yX6_push 6 := ⟨(tin3 115 rfl rfl), (tinP 23 rfl rfl), TX6, 3, rfl⟩
theorem miX6_47 : MI RX6 47 yX6_negateTop cX6_negateTop 2 none 1 := ⟨(tin3 117 rfl rfl), w_688, w_92, by decide +kernel⟩
theorem mvX6_negateTop : MIV yX6_negateTop 6 := ⟨(tin3 119 rfl rfl), (tinP 24 rfl rfl), TX6, 3, rfl⟩
theorem miX6_50 : MI RX6 50 yX7_isBinary cX7_isBinary 1 (some .boolean) 1 := ⟨(tin3 121 rfl rfl), w_528, w_93, by decide +kernel⟩
theorem miX6_56 : MI RX6 56 yX6_bindTop cX6_bindTop 3 (some .int) 2 := ⟨(tin3 122 rfl rfl), w_693, w_92, by decide +kernel⟩
theorem mvX6_bindTop : MIV yX6_bindTop 6 := ⟨(tin3 124 rfl rfl), (tinP 25 rfl rfl), TX6, 3, rfl⟩
theorem miX6_60 : MI RX6 60 yX6_measure cX6_measure 4 (some .int) 4 := ⟨(tin3 129 rfl rfl), w_699, w_92, by decide +kernel⟩
theorem fpX7_9 : FP RX7 9 7 0 (.array .char) true := ⟨RX7, TX7, 6, tyX7, rfl, in_X7, by decide, tin1 133 rfl rfl, by decide +kernel, tyX7_ok, nmX7, rfl, rfl⟩
theorem fpX7_15 : FP RX7 15 7 1 (.array .boolean) true := ⟨RX7, TX7, 6, tyX7, rfl, in_X7, by decide, tin1 134 rfl rfl, by decide +kernel, tyX7_ok, nmX7, rfl, rfl⟩
theorem miX7_54 : MI RX7 54 yX6_clear cX6_clear 1 none 0 := ⟨(tin2 152 rfl rfl), w_315, w_92, by decide +kernel⟩
theorem fpX7_57 : FP RX7 57 7 2 .int false := ⟨RX7, TX7, 6, tyX7, rfl, in_X7, by decide, tin1 135 rfl rfl, by decide +kernel, tyX7_ok, nmX7, rfl, rfl⟩
theorem fpX7_42 : FP RX7 42 7 3 .int false := ⟨RX7, TX7, 6, tyX7, rfl, in_X7, by decide, tin1 136 rfl rfl, by decide +kernel, tyX7_ok, nmX7, rfl, rfl⟩
theorem fpX7_60 : FP RX7 60 7 4 .int false := ⟨RX7, TX7, 6, tyX7, rfl, in_X7, by decide, tin1 137 rfl rfl, by decide +kernel, tyX7_ok, nmX7, rfl, rfl⟩
theorem fpX7_38 : FP RX7 38 7 5 .boolean false := ⟨RX7, TX7, 6, tyX7, rfl, in_X7, by decide, tin1 138 rfl rfl, by decide +kernel, tyX7_ok, nmX7, rfl, rfl⟩
theorem fdX7_15 : FD RX7 15 7 1 (.array .boolean) := ⟨RX7, TX7, 6, rfl, in_X7, by decide, tin1 134 rfl rfl, by decide +kernel⟩
theorem fdX7_38 : FD RX7 38 7 5 .boolean := ⟨RX7, TX7, 6, rfl, in_X7, by decide, tin1 138 rfl rfl, by decide +kernel⟩
theorem miX7_77 : MI RX7 77 yX6_addNumber cX6_addNumber 2 none 1 := ⟨(tin2 163 rfl rfl), w_323, w_92, by decide +kernel⟩
theorem fdX7_60 : FD RX7 60 7 4 .int := ⟨RX7, TX7, 6, rfl, in_X7, by decide, tin1 137 rfl rfl, by decide +kernel⟩
theorem miX7_81 : MI RX7 81 yX6_appendDigit cX6_appendDigit 2 none 1 := ⟨(tin2 164 rfl rfl), w_495, w_92, by decide +kernel⟩
theorem mvX6_appendDigit : MIV yX6_appendDigit 6 := ⟨(tin2 165 rfl rfl), (tin2 166 rfl rfl), TX6, 3, rfl⟩
theorem fdX7_57 : FD RX7 57 7 2 .int := ⟨RX7, TX7, 6, rfl, in_X7, by decide, tin1 135 rfl rfl, by decide +kernel⟩
theorem fdX7_9 : FD RX7 9 7 0 (.array .char) := ⟨RX7, TX7, 6, rfl, in_X7, by decide, tin1 133 rfl rfl, by decide +kernel⟩
theorem fdX7_42 : FD RX7 42 7 3 .int := ⟨RX7, TX7, 6, rfl, in_X7, by decide, tin1 136 rfl rfl, by decide +kernel⟩
theorem miX7_92 : MI RX7 92 yX7_isMeasure cX7_isMeasure 1 (some .boolean) 1 := ⟨(tin2 180 rfl rfl), w_510, w_93, by decide +kernel⟩
theorem miX7_95 : MI RX7 95 yX6_addSign cX6_addSign 2 none 1 := ⟨(tin2 183 rfl rfl), w_319, w_92, by decide +kernel⟩
theorem miX7_84 : MI RX7 84 yX7_hoard cX7_hoard 2 none 1 := ⟨(tin2 172 rfl rfl), w_503, w_93, by decide +kernel⟩
theorem mvX7_hoard : MIV yX7_hoard 7 := ⟨(tin2 174 rfl rfl), (tinP 11 rfl rfl), TX7, 6, rfl⟩
theorem miX7_88 : MI RX7 88 yX7_setCompared cX7_setCompared 2 none 1 := ⟨(tin2 176 rfl rfl), w_507, w_93, by decide +kernel⟩
theorem mvX7_setCompared : MIV yX7_setCompared 7 := ⟨(tin2 178 rfl rfl), (tinP 12 rfl rfl), TX7, 6, rfl⟩
theorem miX7_46 : MI RX7 46 yX7_releaseDownTo cX7_releaseDownTo 3 none 2 := ⟨(tin2 188 rfl rfl), w_519, w_93, by decide +kernel⟩
theorem mvX7_releaseDownTo : MIV yX7_releaseDownTo 7 := ⟨(tin2 190 rfl rfl), (tinP 14 rfl rfl), TX7, 6, rfl⟩
theorem miX7_101 : MI RX7 101 yX7_isBinary cX7_isBinary 1 (some .boolean) 1 := ⟨(tin2 198 rfl rfl), w_528, w_93, by decide +kernel⟩
theorem miX7_104 : MI RX7 104 yX7_isCompared cX7_isCompared 1 (some .boolean) 0 := ⟨(tin2 201 rfl rfl), w_532, w_93, by decide +kernel⟩
theorem mvX7_isCompared : MIV yX7_isCompared 7 := ⟨(tin2 203 rfl rfl), (tinP 15 rfl rfl), TX7, 6, rfl⟩
theorem miX7_63 : MIN RX7 63 yX10_isDigit RX10 cX10_isDigit 1 (some .boolean) 1 := ⟨List.mem_of_getElem? (i := 7) rfl, w_391, w_89, by decide +kernel⟩
theorem miX7_67 : MI RX7 67 yX7_takesDigit cX7_takesDigit 3 (some .boolean) 2 := ⟨(tin2 159 rfl rfl), w_490, w_93, by decide +kernel⟩
theorem mvX7_takesDigit : MIV yX7_takesDigit 7 := ⟨(tin2 161 rfl rfl), (tinP 9 rfl rfl), TX7, 6, rfl⟩
theorem miX7_71 : MI RX7 71 yX7_takesThing cX7_takesThing 3 (some .boolean) 2 := ⟨(tin2 168 rfl rfl), w_499, w_93, by decide +kernel⟩
theorem mvX7_takesThing : MIV yX7_takesThing 7 := ⟨(tin2 170 rfl rfl), (tinP 10 rfl rfl), TX7, 6, rfl⟩
theorem miX7_74 : MI RX7 74 yX7_takesBinder cX7_takesBinder 3 (some .boolean) 2 := ⟨(tin2 184 rfl rfl), w_515, w_93, by decide +kernel⟩
theorem mvX7_takesBinder : MIV yX7_takesBinder 7 := ⟨(tin2 186 rfl rfl), (tinP 13 rfl rfl), TX7, 6, rfl⟩
theorem miX7_34 : MI RX7 34 yX7_takes cX7_takes 3 (some .boolean) 2 := ⟨(tin2 154 rfl rfl), w_485, w_93, by decide +kernel⟩
theorem mvX7_takes : MIV yX7_takes 7 := ⟨(tin2 156 rfl rfl), (tinP 8 rfl rfl), TX7, 6, rfl⟩
theorem miX7_19 : MI RX7 19 yX6_becomeNone cX6_becomeNone 1 none 0 := ⟨(tin2 147 rfl rfl), w_311, w_92, by decide +kernel⟩
theorem mvX6_becomeNone : MIV yX6_becomeNone 6 := ⟨(tin1 221 rfl rfl), (tin1 222 rfl rfl), TX6, 3, rfl⟩
theorem miX7_24 : MI RX7 24 yX7_start cX7_start 2 none 1 := ⟨(tin2 148 rfl rfl), w_479, w_93, by decide +kernel⟩
theorem mvX7_start : MIV yX7_start 7 := ⟨(tin2 150 rfl rfl), (tinP 7 rfl rfl), TX7, 6, rfl⟩
theorem fpX8_11 : FP RX8 11 8 0 (.array .int) true := ⟨RX8, TX8, 5, tyX8, rfl, in_X8, by decide, tin1 194 rfl rfl, by decide +kernel, tyX8_ok, nmX8, rfl, rfl⟩
theorem fpX8_15 : FP RX8 15 8 1 (.array .int) true := ⟨RX8, TX8, 5, tyX8, rfl, in_X8, by decide, tin1 195 rfl rfl, by decide +kernel, tyX8_ok, nmX8, rfl, rfl⟩
theorem fpX8_18 : FP RX8 18 8 2 (.array .boolean) true := ⟨RX8, TX8, 5, tyX8, rfl, in_X8, by decide, tin1 196 rfl rfl, by decide +kernel, tyX8_ok, nmX8, rfl, rfl⟩
theorem fpX8_22 : FP RX8 22 8 3 (.array .boolean) true := ⟨RX8, TX8, 5, tyX8, rfl, in_X8, by decide, tin1 197 rfl rfl, by decide +kernel, tyX8_ok, nmX8, rfl, rfl⟩
theorem pn_X8 : plainName RX8 = true := by decide +kernel
theorem fdX8_25 : FD RX8 25 8 4 .int := ⟨RX8, TX8, 5, rfl, in_X8, by decide, tin1 198 rfl rfl, by decide +kernel⟩
theorem fpX8_25 : FP RX8 25 8 4 .int false := ⟨RX8, TX8, 5, tyX8, rfl, in_X8, by decide, tin1 198 rfl rfl, by decide +kernel, tyX8_ok, nmX8, rfl, rfl⟩
theorem fdX8_11 : FD RX8 11 8 0 (.array .int) := ⟨RX8, TX8, 5, rfl, in_X8, by decide, tin1 194 rfl rfl, by decide +kernel⟩
theorem fdX8_15 : FD RX8 15 8 1 (.array .int) := ⟨RX8, TX8, 5, rfl, in_X8, by decide, tin1 195 rfl rfl, by decide +kernel⟩
theorem fdX8_18 : FD RX8 18 8 2 (.array .boolean) := ⟨RX8, TX8, 5, rfl, in_X8, by decide, tin1 196 rfl rfl, by decide +kernel⟩
theorem miX8_29 : MI RX8 29 yX8_says cX8_says 4 (some .boolean) 4 := ⟨(tin5 20 rfl rfl), w_1070, w_96, by decide +kernel⟩
theorem fdX8_22 : FD RX8 22 8 3 (.array .boolean) := ⟨RX8, TX8, 5, rfl, in_X8, by decide, tin1 197 rfl rfl, by decide +kernel⟩
theorem miX8_33 : MI RX8 33 yX8_agreeWith cX8_agreeWith 4 (some .boolean) 2 := ⟨(tin5 31 rfl rfl), w_1067, w_96, by decide +kernel⟩
theorem mvX8_agreeWith : MIV yX8_agreeWith 8 := ⟨(tin5 17 rfl rfl), (tin5 18 rfl rfl), TX8, 5, rfl⟩
theorem fdX9_72 : FD RX9 72 9 12 .int := ⟨RX9, TX9, 14, rfl, in_X9, by decide, tin1 52 rfl rfl, by decide +kernel⟩
theorem fdX9_75 : FD RX9 75 9 13 .int := ⟨RX9, TX9, 14, rfl, in_X9, by decide, tin1 53 rfl rfl, by decide +kernel⟩
theorem miX9_87 : MI RX9 87 yX9_shadowOf cX9_shadowOf 2 (some .int) 1 := ⟨(tin3 31 rfl rfl), w_602, w_90, by decide +kernel⟩
theorem mvX9_shadowOf : MIV yX9_shadowOf 9 := ⟨(tin3 32 rfl rfl), (tin3 33 rfl rfl), TX9, 14, rfl⟩
theorem miX9_90 : MI RX9 90 yX9_placeOf cX9_placeOf 5 (some .int) 2 := ⟨(tin4 94 rfl rfl), w_581, w_90, by decide +kernel⟩
theorem mvX9_placeOf : MIV yX9_placeOf 9 := ⟨(tin3 11 rfl rfl), (tin3 12 rfl rfl), TX9, 14, rfl⟩
theorem miX9_94 : MI RX9 94 yX9_chainLength cX9_chainLength 4 (some .int) 1 := ⟨(tin3 176 rfl rfl), w_703, w_90, by decide +kernel⟩
theorem miX9_97 : MI RX9 97 yX9_firstHolder cX9_firstHolder 5 (some .int) 2 := ⟨(tin3 22 rfl rfl), w_562, w_90, by decide +kernel⟩
theorem miX9_175 : MI RX9 175 yX9_isSharing cX9_isSharing 2 (some .boolean) 1 := ⟨(tin3 80 rfl rfl), w_651, w_90, by decide +kernel⟩
theorem mvX9_isSharing : MIV yX9_isSharing 9 := ⟨(tin3 81 rfl rfl), (tin3 82 rfl rfl), TX9, 14, rfl⟩
theorem miX9_178 : MI RX9 178 yX9_holderTotal cX9_holderTotal 4 (some .int) 1 := ⟨(tin3 84 rfl rfl), w_655, w_90, by decide +kernel⟩
theorem mvX9_holderTotal : MIV yX9_holderTotal 9 := ⟨(tin3 85 rfl rfl), (tin3 86 rfl rfl), TX9, 14, rfl⟩
theorem miX9_100 : MI RX9 100 yX9_needsObject cX9_needsObject 2 (some .boolean) 1 := ⟨(tin3 76 rfl rfl), w_647, w_90, by decide +kernel⟩
theorem mvX9_needsObject : MIV yX9_needsObject 9 := ⟨(tin3 78 rfl rfl), (tinP 19 rfl rfl), TX9, 14, rfl⟩
theorem miX9_103 : MI RX9 103 yX9_heldOf cX9_heldOf 2 (some .int) 1 := ⟨(tin4 168 rfl rfl), w_714, w_90, by decide +kernel⟩
theorem miX9_106 : MI RX9 106 yJ6_numberOfTrailingZeros_0f7a4 cJ6_numberOfTrailingZeros_0f7a4 2 (some .int) 1 := ⟨(tin2 108 rfl rfl), w_438, w_100, by decide +kernel⟩
theorem miX9_114 : MI RX9 114 yX9_leastMissing cX9_leastMissing 2 (some .int) 2 := ⟨(tin2 105 rfl rfl), w_435, w_90, by decide +kernel⟩
theorem miX9_120 : MI RX9 120 yX9_lastOf cX9_lastOf 4 (some .int) 1 := ⟨(tin3 27 rfl rfl), w_598, w_90, by decide +kernel⟩
theorem mvX9_lastOf : MIV yX9_lastOf 9 := ⟨(tin3 28 rfl rfl), (tin3 29 rfl rfl), TX9, 14, rfl⟩
theorem miX9_123 : MI RX9 123 yX9_pagerOf cX9_pagerOf 2 (some .int) 1 := ⟨(tin3 35 rfl rfl), w_606, w_90, by decide +kernel⟩
theorem mvX9_pagerOf : MIV yX9_pagerOf 9 := ⟨(tin3 36 rfl rfl), (tin3 37 rfl rfl), TX9, 14, rfl⟩
theorem miX9_126 : MI RX9 126 yX9_digitOf cX9_digitOf 2 (some .int) 1 := ⟨(tin3 39 rfl rfl), w_610, w_90, by decide +kernel⟩
theorem mvX9_digitOf : MIV yX9_digitOf 9 := ⟨(tin3 40 rfl rfl), (tin3 41 rfl rfl), TX9, 14, rfl⟩
theorem miX9_117 : MI RX9 117 yX9_valueOf cX9_valueOf 3 (some .int) 2 := ⟨(tin3 23 rfl rfl), w_594, w_90, by decide +kernel⟩
theorem miX9_129 : MI RX9 129 yX9_peekPage cX9_peekPage 5 (some .int) 2 := ⟨(tin3 18 rfl rfl), w_589, w_90, by decide +kernel⟩
theorem mvX9_peekPage : MIV yX9_peekPage 9 := ⟨(tin3 19 rfl rfl), (tin3 20 rfl rfl), TX9, 14, rfl⟩
theorem miX9_136 : MI RX9 136 yX9_isPagedIn cX9_isPagedIn 3 (some .boolean) 2 := ⟨(tin3 47 rfl rfl), w_618, w_90, by decide +kernel⟩
theorem mvX9_isPagedIn : MIV yX9_isPagedIn 9 := ⟨(tin3 49 rfl rfl), (tinP 17 rfl rfl), TX9, 14, rfl⟩
theorem miX9_139 : MI RX9 139 yX9_frameTotal cX9_frameTotal 3 (some .int) 0 := ⟨(tin3 51 rfl rfl), w_409, w_90, by decide +kernel⟩
theorem miX9_143 : MI RX9 143 yX9_hold cX9_hold 4 none 3 := ⟨(tin3 52 rfl rfl), w_450, w_90, by decide +kernel⟩
theorem mvX9_hold : MIV yX9_hold 9 := ⟨(tin2 120 rfl rfl), (tin2 121 rfl rfl), TX9, 14, rfl⟩
theorem miX9_132 : MI RX9 132 yX9_awaitIfLate cX9_awaitIfLate 5 none 3 := ⟨(tin3 43 rfl rfl), w_614, w_90, by decide +kernel⟩
theorem mvX9_awaitIfLate : MIV yX9_awaitIfLate 9 := ⟨(tin3 45 rfl rfl), (tinP 16 rfl rfl), TX9, 14, rfl⟩
theorem miX9_163 : MI RX9 163 yX9_copyOf cX9_copyOf 2 (some .int) 1 := ⟨(tin3 97 rfl rfl), w_668, w_90, by decide +kernel⟩
theorem mvX9_copyOf : MIV yX9_copyOf 9 := ⟨(tin3 98 rfl rfl), (tin3 99 rfl rfl), TX9, 14, rfl⟩
theorem miX9_160 : MI RX9 160 yX9_pushesToCopy cX9_pushesToCopy 4 (some .boolean) 2 := ⟨(tin3 93 rfl rfl), w_664, w_90, by decide +kernel⟩
theorem mvX9_pushesToCopy : MIV yX9_pushesToCopy 9 := ⟨(tin3 95 rfl rfl), (tinP 21 rfl rfl), TX9, 14, rfl⟩
theorem miX9_181 : MI RX9 181 yX9_comeObject cX9_comeObject 4 (some .int) 2 := ⟨(tin3 105 rfl rfl), w_432, w_90, by decide +kernel⟩
theorem mvX9_comeObject : MIV yX9_comeObject 9 := ⟨(tin2 102 rfl rfl), (tin2 103 rfl rfl), TX9, 14, rfl⟩
theorem miX9_200 : MI RX9 200 yX9_passCopy cX9_passCopy 4 none 2 := ⟨(tin3 156 rfl rfl), w_727, w_90, by decide +kernel⟩
theorem mvX9_passCopy : MIV yX9_passCopy 9 := ⟨(tin3 158 rfl rfl), (tinP 27 rfl rfl), TX9, 14, rfl⟩
theorem miX9_196 : MI RX9 196 yX9_remove cX9_remove 3 none 2 := ⟨(tin3 164 rfl rfl), w_735, w_90, by decide +kernel⟩
theorem mvX9_remove : MIV yX9_remove 9 := ⟨(tin3 166 rfl rfl), (tinP 29 rfl rfl), TX9, 14, rfl⟩
theorem miX9_193 : MI RX9 193 yX9_release cX9_release 5 (some .int) 1 := ⟨(tin3 160 rfl rfl), w_731, w_90, by decide +kernel⟩
theorem mvX9_release : MIV yX9_release 9 := ⟨(tin3 162 rfl rfl), (tinP 28 rfl rfl), TX9, 14, rfl⟩
theorem fpX9_75 : FP RX9 75 9 13 .int false := ⟨RX9, TX9, 14, tyX9, rfl, in_X9, by decide, tin1 53 rfl rfl, by decide +kernel, tyX9_ok, nmX9, rfl, rfl⟩
theorem fpX9_72 : FP RX9 72 9 12 .int false := ⟨RX9, TX9, 14, tyX9, rfl, in_X9, by decide, tin1 52 rfl rfl, by decide +kernel, tyX9_ok, nmX9, rfl, rfl⟩
theorem miX9_209 : MI RX9 209 yX9_isCopy cX9_isCopy 3 (some .boolean) 1 := ⟨(tin3 172 rfl rfl), w_743, w_90, by decide +kernel⟩
theorem mvX9_isCopy : MIV yX9_isCopy 9 := ⟨(tin3 174 rfl rfl), (tinP 31 rfl rfl), TX9, 14, rfl⟩
theorem miX9_203 : MI RX9 203 yX9_bypass cX9_bypass 4 none 2 := ⟨(tin3 152 rfl rfl), w_723, w_90, by decide +kernel⟩
theorem mvX9_bypass : MIV yX9_bypass 9 := ⟨(tin3 154 rfl rfl), (tinP 26 rfl rfl), TX9, 14, rfl⟩
theorem miX9_206 : MI RX9 206 yX9_collapse cX9_collapse 4 none 2 := ⟨(tin3 168 rfl rfl), w_739, w_90, by decide +kernel⟩
theorem mvX9_collapse : MIV yX9_collapse 9 := ⟨(tin3 170 rfl rfl), (tinP 30 rfl rfl), TX9, 14, rfl⟩
theorem miX9_166 : MI RX9 166 yX6_reckon cX6_reckon 7 (some .int) 3 := ⟨(tin3 106 rfl rfl), w_677, w_92, by decide +kernel⟩
theorem mvX6_reckon : MIV yX6_reckon 6 := ⟨(tin3 107 rfl rfl), (tin3 108 rfl rfl), TX6, 3, rfl⟩
theorem miX9_172 : MI RX9 172 yX9_tidyChain cX9_tidyChain 5 (some .int) 1 := ⟨(tin3 148 rfl rfl), w_719, w_90, by decide +kernel⟩
theorem mvX9_tidyChain : MIV yX9_tidyChain 9 := ⟨(tin3 149 rfl rfl), (tin3 150 rfl rfl), TX9, 14, rfl⟩
theorem miX9_156 : MI RX9 156 yX9_putObjectAbove cX9_putObjectAbove 3 none 1 := ⟨(tin3 101 rfl rfl), w_672, w_90, by decide +kernel⟩
theorem mvX9_putObjectAbove : MIV yX9_putObjectAbove 9 := ⟨(tin3 103 rfl rfl), (tinP 22 rfl rfl), TX9, 14, rfl⟩
theorem miX9_152 : MI RX9 152 yX9_framesToWrite cX9_framesToWrite 8 (some .int) 3 := ⟨(tin3 89 rfl rfl), w_660, w_90, by decide +kernel⟩
theorem mvX9_framesToWrite : MIV yX9_framesToWrite 9 := ⟨(tin3 91 rfl rfl), (tinP 20 rfl rfl), TX9, 14, rfl⟩
theorem miX9_146 : MIN RX9 146 yX10_isValue RX10 cX10_isValue 1 (some .boolean) 1 := ⟨List.mem_of_getElem? (i := 9) rfl, w_643, w_89, by decide +kernel⟩
theorem miX9_149 : MI RX9 149 yX9_objectTotal cX9_objectTotal 1 (some .int) 0 := ⟨(tin3 88 rfl rfl), w_405, w_90, by decide +kernel⟩
theorem miX9_190 : MI RX9 190 yX9_comeSpace cX9_comeSpace 3 (some .int) 1 := ⟨(tin3 190 rfl rfl), w_466, w_90, by decide +kernel⟩
theorem mvX9_comeSpace : MIV yX9_comeSpace 9 := ⟨(tin2 136 rfl rfl), (tin2 137 rfl rfl), TX9, 14, rfl⟩
theorem miX9_187 : MI RX9 187 yX9_comeCopy cX9_comeCopy 4 (some .int) 1 := ⟨(tin3 186 rfl rfl), w_757, w_90, by decide +kernel⟩
theorem mvX9_comeCopy : MIV yX9_comeCopy 9 := ⟨(tin3 188 rfl rfl), (tinP 32 rfl rfl), TX9, 14, rfl⟩
theorem miX9_184 : MI RX9 184 yX9_spaceTotal cX9_spaceTotal 1 (some .int) 0 := ⟨(tin3 185 rfl rfl), w_395, w_90, by decide +kernel⟩
theorem mvX9_spaceTotal : MIV yX9_spaceTotal 9 := ⟨(tin2 65 rfl rfl), (tin2 66 rfl rfl), TX9, 14, rfl⟩
theorem fpX10_9 : FP RX10 9 10 0 (.array .char) true := ⟨RX10, TX10, 12, tyX10, rfl, in_X10, by decide, tin1 236 rfl rfl, by decide +kernel, tyX10_ok, nmX10, rfl, rfl⟩
theorem clX10_13 : CLS RX10 13 9 14 [.int 0, .int 0, .int 0, .int 0, .null, .null, .null, .null, .null, .null, .null, .null, .int 0, .int 0] := ⟨RX9, TX9, tyX9, rfl, in_X9, tyX9_ok, (tin1 34 rfl rfl), (tin1 35 rfl rfl), (tin1 2 rfl rfl), fun j hj => by rcases (show j = 0 ∨ j = 1 ∨ j = 2 ∨ j = 3 ∨ j = 4 ∨ j = 5 ∨ j = 6 ∨ j = 7 ∨ j = 8 ∨ j = 9 ∨ j = 10 ∨ j = 11 ∨ j = 12 ∨ j = 13 by omega) with rfl | rfl | rfl | rfl | rfl | rfl | rfl | rfl | rfl | rfl | rfl | rfl | rfl | rfl <;> rfl, rfl⟩
theorem miX10_15 : MI RX10 15 yX9_init cX9_init 2 none 0 := ⟨(tin1 36 rfl rfl), w_126, w_90, by decide +kernel⟩
theorem fpX10_16 : FP RX10 16 10 2 (.object RX9) true := ⟨RX10, TX10, 12, tyX10, rfl, in_X10, by decide, tin1 238 rfl rfl, by decide +kernel, tyX10_ok, nmX10, rfl, rfl⟩
theorem fpX10_20 : FP RX10 20 10 3 (.object RX9) true := ⟨RX10, TX10, 12, tyX10, rfl, in_X10, by decide, tin1 239 rfl rfl, by decide +kernel, tyX10_ok, nmX10, rfl, rfl⟩
theorem clX10_23 : CLS RX10 23 2 5 [.null, .null, .null, .int 0, .int 0] := ⟨RX2, TX2, tyX2, rfl, in_X2, tyX2_ok, (tin1 85 rfl rfl), (tin1 86 rfl rfl), (tin1 3 rfl rfl), fun j hj => by rcases (show j = 0 ∨ j = 1 ∨ j = 2 ∨ j = 3 ∨ j = 4 by omega) with rfl | rfl | rfl | rfl | rfl <;> rfl, rfl⟩
theorem fdX10_78 : FD RX10 78 10 1 .int := ⟨RX10, TX10, 12, rfl, in_X10, by decide, tin1 237 rfl rfl, by decide +kernel⟩
theorem fdX10_9 : FD RX10 9 10 0 (.array .char) := ⟨RX10, TX10, 12, rfl, in_X10, by decide, tin1 236 rfl rfl, by decide +kernel⟩
theorem fpX10_78 : FP RX10 78 10 1 .int false := ⟨RX10, TX10, 12, tyX10, rfl, in_X10, by decide, tin1 237 rfl rfl, by decide +kernel, tyX10_ok, nmX10, rfl, rfl⟩
theorem miX10_113 : MI RX10 113 yX10_signAt cX10_signAt 2 (some .char) 1 := ⟨(tin2 57 rfl rfl), w_388, w_89, by decide +kernel⟩
theorem mvX10_signAt : MIV yX10_signAt 10 := ⟨(tin2 59 rfl rfl), (tinP 3 rfl rfl), TX10, 12, rfl⟩
theorem miX10_414 : MI RX10 414 yX10_isDigit cX10_isDigit 1 (some .boolean) 1 := ⟨(tin2 61 rfl rfl), w_391, w_89, by decide +kernel⟩
theorem miX10_411 : MI RX10 411 yX10_standsInSpace cX10_standsInSpace 3 (some .boolean) 1 := ⟨(tin2 53 rfl rfl), w_384, w_89, by decide +kernel⟩
theorem mvX10_standsInSpace : MIV yX10_standsInSpace 10 := ⟨(tin2 55 rfl rfl), (tinP 2 rfl rfl), TX10, 12, rfl⟩
theorem miX10_106 : MI RX10 106 yX10_digitAt cX10_digitAt 2 (some .int) 1 := ⟨(tin2 97 rfl rfl), w_428, w_89, by decide +kernel⟩
theorem mvX10_digitAt : MIV yX10_digitAt 10 := ⟨(tin2 99 rfl rfl), (tinP 5 rfl rfl), TX10, 12, rfl⟩
theorem fdX10_16 : FD RX10 16 10 2 (.object RX9) := ⟨RX10, TX10, 12, rfl, in_X10, by decide, tin1 238 rfl rfl, by decide +kernel⟩
theorem miX10_117 : MI RX10 117 yX10_numberAt cX10_numberAt 2 (some .int) 1 := ⟨(tin2 115 rfl rfl), w_446, w_89, by decide +kernel⟩
theorem mvX10_numberAt : MIV yX10_numberAt 10 := ⟨(tin2 117 rfl rfl), (tinP 6 rfl rfl), TX10, 12, rfl⟩
theorem miX10_120 : MI RX10 120 yX9_hold cX9_hold 4 none 3 := ⟨(tin2 119 rfl rfl), w_450, w_90, by decide +kernel⟩
theorem miX10_82 : MI RX10 82 yX10_takeText cX10_takeText 2 (some .int) 0 := ⟨(tin2 45 rfl rfl), w_376, w_89, by decide +kernel⟩
theorem mvX10_takeText : MIV yX10_takeText 10 := ⟨(tin2 47 rfl rfl), (tinP 0 rfl rfl), TX10, 12, rfl⟩
theorem miX10_86 : MI RX10 86 yX10_wrongSpaceSign cX10_wrongSpaceSign 3 (some .int) 1 := ⟨(tin2 49 rfl rfl), w_380, w_89, by decide +kernel⟩
theorem mvX10_wrongSpaceSign : MIV yX10_wrongSpaceSign 10 := ⟨(tin2 51 rfl rfl), (tinP 1 rfl rfl), TX10, 12, rfl⟩
theorem miX10_90 : MI RX10 90 yX9_spaceTotal cX9_spaceTotal 1 (some .int) 0 := ⟨(tin2 64 rfl rfl), w_395, w_90, by decide +kernel⟩
theorem miX10_93 : MI RX10 93 yX9_objectTotal cX9_objectTotal 1 (some .int) 0 := ⟨(tin2 74 rfl rfl), w_405, w_90, by decide +kernel⟩
theorem miX10_96 : MI RX10 96 yX9_frameTotal cX9_frameTotal 3 (some .int) 0 := ⟨(tin2 78 rfl rfl), w_409, w_90, by decide +kernel⟩
theorem miX10_99 : MI RX10 99 yX10_toldPages cX10_toldPages 4 (some .int) 1 := ⟨(tin2 82 rfl rfl), w_413, w_89, by decide +kernel⟩
theorem mvX10_toldPages : MIV yX10_toldPages 10 := ⟨(tin2 84 rfl rfl), (tinP 4 rfl rfl), TX10, 12, rfl⟩
theorem fdX10_26 : FD RX10 26 10 4 (.object RX2) := ⟨RX10, TX10, 12, rfl, in_X10, by decide, tin2 0 rfl rfl, by decide +kernel⟩
theorem miX10_102 : MI RX10 102 yX2_mark cX2_mark 2 none 1 := ⟨(tin2 86 rfl rfl), w_417, w_91, by decide +kernel⟩
theorem mvX2_mark : MIV yX2_mark 2 := ⟨(tin2 87 rfl rfl), (tin2 88 rfl rfl), TX2, 5, rfl⟩
theorem miX10_109 : MI RX10 109 yX9_comeObject cX9_comeObject 4 (some .int) 2 := ⟨(tin2 101 rfl rfl), w_432, w_90, by decide +kernel⟩
theorem miX10_124 : MI RX10 124 yX2_keepMark cX2_keepMark 1 none 0 := ⟨(tin2 130 rfl rfl), w_461, w_91, by decide +kernel⟩
theorem mvX2_keepMark : MIV yX2_keepMark 2 := ⟨(tin2 131 rfl rfl), (tin2 132 rfl rfl), TX2, 5, rfl⟩
theorem miX10_127 : MI RX10 127 yX9_comeSpace cX9_comeSpace 3 (some .int) 1 := ⟨(tin2 135 rfl rfl), w_466, w_90, by decide +kernel⟩
theorem fdX10_43 : FD RX10 43 10 7 (.object RX7) := ⟨RX10, TX10, 12, rfl, in_X10, by decide, tin2 3 rfl rfl, by decide +kernel⟩
theorem fdX10_37 : FD RX10 37 10 6 (.object RX6) := ⟨RX10, TX10, 12, rfl, in_X10, by decide, tin2 2 rfl rfl, by decide +kernel⟩
theorem miX10_130 : MI RX10 130 yX7_readRule cX7_readRule 6 (some .int) 3 := ⟨(tin2 143 rfl rfl), w_474, w_93, by decide +kernel⟩
theorem mvX7_readRule : MIV yX7_readRule 7 := ⟨(tin2 144 rfl rfl), (tin2 145 rfl rfl), TX7, 6, rfl⟩
theorem fdX10_33 : FD RX10 33 10 5 (.object RX6) := ⟨RX10, TX10, 12, rfl, in_X10, by decide, tin2 1 rfl rfl, by decide +kernel⟩
theorem miX10_134 : MI RX10 134 yX6_copyFrom cX6_copyFrom 2 none 1 := ⟨(tin2 205 rfl rfl), w_536, w_92, by decide +kernel⟩
theorem mvX6_copyFrom : MIV yX6_copyFrom 6 := ⟨(tin2 206 rfl rfl), (tin2 207 rfl rfl), TX6, 3, rfl⟩
theorem miX10_138 : MI RX10 138 yX9_hasSpace cX9_hasSpace 2 (some .boolean) 1 := ⟨(tin4 78 rfl rfl), w_570, w_90, by decide +kernel⟩
theorem miX10_145 : MI RX10 145 yX9_topOf cX9_topOf 2 (some .int) 1 := ⟨(tin4 79 rfl rfl), w_566, w_90, by decide +kernel⟩
theorem miX10_148 : MI RX10 148 yX9_isSharing cX9_isSharing 2 (some .boolean) 1 := ⟨(tin5 216 rfl rfl), w_651, w_90, by decide +kernel⟩
theorem miX10_151 : MI RX10 151 yX9_chainLength cX9_chainLength 4 (some .int) 1 := ⟨(tin3 224 rfl rfl), w_703, w_90, by decide +kernel⟩
theorem miX10_154 : MI RX10 154 yX6_reckon cX6_reckon 7 (some .int) 3 := ⟨(tin5 217 rfl rfl), w_677, w_92, by decide +kernel⟩
theorem miX10_158 : MI RX10 158 yX10_clamp cX10_clamp 3 (some .int) 3 := ⟨(tin2 218 rfl rfl), w_548, w_89, by decide +kernel⟩
theorem miX10_162 : MI RX10 162 yX9_hasObject cX9_hasObject 2 (some .boolean) 1 := ⟨(tin2 214 rfl rfl), w_454, w_90, by decide +kernel⟩
theorem miX10_165 : MI RX10 165 yX9_heldOf cX9_heldOf 2 (some .int) 1 := ⟨(tin5 225 rfl rfl), w_714, w_90, by decide +kernel⟩
theorem miX10_168 : MI RX10 168 yX9_shadowOf cX9_shadowOf 2 (some .int) 1 := ⟨(tin4 80 rfl rfl), w_602, w_90, by decide +kernel⟩
theorem miX10_171 : MI RX10 171 yX9_copyOf cX9_copyOf 2 (some .int) 1 := ⟨(tin5 226 rfl rfl), w_668, w_90, by decide +kernel⟩
theorem miX10_174 : MI RX10 174 yX9_pagerOf cX9_pagerOf 2 (some .int) 1 := ⟨(tin5 227 rfl rfl), w_606, w_90, by decide +kernel⟩
theorem miX10_177 : MI RX10 177 yX9_digitOf cX9_digitOf 2 (some .int) 1 := ⟨(tin5 228 rfl rfl), w_610, w_90, by decide +kernel⟩
theorem miX10_180 : MI RX10 180 yX9_holderTotal cX9_holderTotal 4 (some .int) 1 := ⟨(tin5 229 rfl rfl), w_655, w_90, by decide +kernel⟩
theorem miX10_183 : MI RX10 183 yX9_awaitedOf cX9_awaitedOf 2 (some .int) 1 := ⟨(tin5 230 rfl rfl), w_1281, w_90, by decide +kernel⟩
theorem mvX9_awaitedOf : MIV yX9_awaitedOf 9 := ⟨(tin5 231 rfl rfl), (tin5 232 rfl rfl), TX9, 14, rfl⟩
theorem miX10_186 : MI RX10 186 yX9_holds cX9_holds 3 (some .boolean) 2 := ⟨(tin4 120 rfl rfl), w_574, w_90, by decide +kernel⟩
theorem miX10_190 : MI RX10 190 yX9_valueOf cX9_valueOf 3 (some .int) 2 := ⟨(tin6 1 rfl rfl), w_594, w_90, by decide +kernel⟩
theorem miX10_196 : MI RX10 196 yX9_setDigit cX9_setDigit 3 none 2 := ⟨(tin2 223 rfl rfl), w_554, w_90, by decide +kernel⟩
theorem mvX9_setDigit : MIV yX9_setDigit 9 := ⟨(tin2 224 rfl rfl), (tin2 225 rfl rfl), TX9, 14, rfl⟩
theorem miX10_193 : MI RX10 193 yX10_sheetEntry cX10_sheetEntry 3 (some .int) 2 := ⟨(tin2 215 rfl rfl), w_545, w_89, by decide +kernel⟩
theorem miX10_216 : MI RX10 216 yX10_keepIfDone cX10_keepIfDone 2 none 1 := ⟨(tin3 61 rfl rfl), w_632, w_89, by decide +kernel⟩
theorem mvX10_keepIfDone : MIV yX10_keepIfDone 10 := ⟨(tin3 63 rfl rfl), (tinP 18 rfl rfl), TX10, 12, rfl⟩
theorem miX10_200 : MI RX10 200 yX9_firstHolder cX9_firstHolder 5 (some .int) 2 := ⟨(tin2 231 rfl rfl), w_562, w_90, by decide +kernel⟩
theorem miX10_203 : MI RX10 203 yX9_placeOf cX9_placeOf 5 (some .int) 2 := ⟨(tin3 10 rfl rfl), w_581, w_90, by decide +kernel⟩
theorem miX10_206 : MI RX10 206 yX9_readPage cX9_readPage 4 (some .int) 2 := ⟨(tin3 14 rfl rfl), w_585, w_90, by decide +kernel⟩
theorem mvX9_readPage : MIV yX9_readPage 9 := ⟨(tin3 15 rfl rfl), (tin3 16 rfl rfl), TX9, 14, rfl⟩
theorem fdX10_50 : FD RX10 50 10 8 (.object RX5) := ⟨RX10, TX10, 12, rfl, in_X10, by decide, tin2 4 rfl rfl, by decide +kernel⟩
theorem miX10_209 : MI RX10 209 yX5_clear cX5_clear 1 none 0 := ⟨(tin3 53 rfl rfl), w_624, w_94, by decide +kernel⟩
theorem mvX5_clear : MIV yX5_clear 5 := ⟨(tin3 54 rfl rfl), (tin3 55 rfl rfl), TX5, 2, rfl⟩
theorem miX10_212 : MI RX10 212 yX5_add cX5_add 3 none 1 := ⟨(tin3 57 rfl rfl), w_628, w_94, by decide +kernel⟩
theorem mvX5_add : MIV yX5_add 5 := ⟨(tin3 58 rfl rfl), (tin3 59 rfl rfl), TX5, 2, rfl⟩
theorem miX10_220 : MI RX10 220 yX9_writePage cX9_writePage 9 (some .int) 4 := ⟨(tin3 69 rfl rfl), w_640, w_90, by decide +kernel⟩
theorem mvX9_writePage : MIV yX9_writePage 9 := ⟨(tin3 70 rfl rfl), (tin3 71 rfl rfl), TX9, 14, rfl⟩
theorem miX10_224 : MI RX10 224 yX9_forkSpace cX9_forkSpace 5 (some .int) 1 := ⟨(tin3 181 rfl rfl), w_752, w_90, by decide +kernel⟩
theorem mvX9_forkSpace : MIV yX9_forkSpace 9 := ⟨(tin3 182 rfl rfl), (tin3 183 rfl rfl), TX9, 14, rfl⟩
theorem miX10_227 : MI RX10 227 yX9_endSpace cX9_endSpace 3 (some .int) 1 := ⟨(tin3 195 rfl rfl), w_766, w_90, by decide +kernel⟩
theorem mvX9_endSpace : MIV yX9_endSpace 9 := ⟨(tin3 196 rfl rfl), (tin3 197 rfl rfl), TX9, 14, rfl⟩
theorem miX10_230 : MI RX10 230 yX9_arrivePage cX9_arrivePage 4 (some .int) 3 := ⟨(tin3 203 rfl rfl), w_774, w_90, by decide +kernel⟩
theorem mvX9_arrivePage : MIV yX9_arrivePage 9 := ⟨(tin3 204 rfl rfl), (tin3 205 rfl rfl), TX9, 14, rfl⟩
theorem miX10_435 : MI RX10 435 yX9_collapseTotal cX9_collapseTotal 1 (some .int) 0 := ⟨(tin3 216 rfl rfl), w_787, w_90, by decide +kernel⟩
theorem mvX9_collapseTotal : MIV yX9_collapseTotal 9 := ⟨(tin3 217 rfl rfl), (tin3 218 rfl rfl), TX9, 14, rfl⟩
theorem miX10_438 : MI RX10 438 yX9_bypassTotal cX9_bypassTotal 1 (some .int) 0 := ⟨(tin3 220 rfl rfl), w_791, w_90, by decide +kernel⟩
theorem mvX9_bypassTotal : MIV yX9_bypassTotal 9 := ⟨(tin3 221 rfl rfl), (tin3 222 rfl rfl), TX9, 14, rfl⟩
theorem miX10_233 : MI RX10 233 yX9_tidyChain cX9_tidyChain 5 (some .int) 1 := ⟨(tin3 211 rfl rfl), w_719, w_90, by decide +kernel⟩
theorem miX10_236 : MI RX10 236 yX10_tellTidying cX10_tellTidying 3 none 2 := ⟨(tin3 212 rfl rfl), w_783, w_89, by decide +kernel⟩
theorem mvX10_tellTidying : MIV yX10_tellTidying 10 := ⟨(tin3 214 rfl rfl), (tinP 33 rfl rfl), TX10, 12, rfl⟩
theorem pn_J0 : plainName RJ0 = true := by decide +kernel
theorem miJ0_335 : MI RJ0 335 yJ0_coder_7d493 cJ0_coder_7d493 1 (some .byte) 0 := ⟨(tin3 238 rfl rfl), w_809, w_107, by decide +kernel⟩
theorem mvSJ0_coder_7d493 : MIS yJ0_coder_7d493 := ⟨(tin3 239 rfl rfl), (tin4 0 rfl rfl), rfl⟩
theorem pn_J3 : plainName RJ3 = true := by decide +kernel
theorem miJ0_1059 : MI RJ0 1059 yJ3_checkIndex_8e157 cJ3_checkIndex_8e157 3 (some .int) 3 := ⟨(tin4 20 rfl rfl), w_830, w_109, by decide +kernel⟩
theorem miJ1_9 : MI RJ1 9 yJ0_checkIndex_df160 cJ0_checkIndex_df160 2 none 2 := ⟨(tin4 15 rfl rfl), w_825, w_107, by decide +kernel⟩
theorem pn_J1 : plainName RJ1 = true := by decide +kernel
theorem miJ0_492 : MI RJ0 492 yJ0_isLatin1_aae02 cJ0_isLatin1_aae02 1 (some .boolean) 0 := ⟨(tin4 8 rfl rfl), w_819, w_107, by decide +kernel⟩
theorem mvSJ0_isLatin1_aae02 : MIS yJ0_isLatin1_aae02 := ⟨(tin4 9 rfl rfl), (tin4 10 rfl rfl), rfl⟩
theorem miJ0_495 : MI RJ0 495 yJ1_charAt_3b067 cJ1_charAt_3b067 2 (some .char) 2 := ⟨(tin4 12 rfl rfl), w_822, w_108, by decide +kernel⟩
theorem miX10_253 : MI RX10 253 yJ0_length_8abf5 cJ0_length_8abf5 1 (some .int) 0 := ⟨(tin3 234 rfl rfl), w_805, w_107, by decide +kernel⟩
theorem mvSJ0_length_8abf5 : MIS yJ0_length_8abf5 := ⟨(tin3 235 rfl rfl), (tin3 236 rfl rfl), rfl⟩
theorem miX10_249 : MI RX10 249 yX10_actDigits cX10_actDigits 1 (some (.object "java/lang/String")) 1 := ⟨(tin4 42 rfl rfl), w_852, w_89, by decide +kernel⟩
theorem miX10_431 : MI RX10 431 yJ0_isEmpty_aae02 cJ0_isEmpty_aae02 1 (some .boolean) 0 := ⟨(tin4 49 rfl rfl), w_860, w_107, by decide +kernel⟩
theorem mvSJ0_isEmpty_aae02 : MIS yJ0_isEmpty_aae02 := ⟨(tin4 50 rfl rfl), (tin4 51 rfl rfl), rfl⟩
theorem miX10_428 : MI RX10 428 yJ0_charAt_5068e cJ0_charAt_5068e 2 (some .char) 1 := ⟨(tin4 4 rfl rfl), w_815, w_107, by decide +kernel⟩
theorem mvSJ0_charAt_5068e : MIS yJ0_charAt_5068e := ⟨(tin4 5 rfl rfl), (tin4 6 rfl rfl), rfl⟩
theorem miX10_246 : MI RX10 246 yX10_actAt cX10_actAt 3 (some .int) 1 := ⟨(tin4 57 rfl rfl), w_868, w_89, by decide +kernel⟩
theorem mvX10_actAt : MIV yX10_actAt 10 := ⟨(tin4 59 rfl rfl), (tinP 35 rfl rfl), TX10, 12, rfl⟩
theorem miX10_243 : MI RX10 243 yX9_awaitedTotal cX9_awaitedTotal 3 (some .int) 0 := ⟨(tin4 53 rfl rfl), w_864, w_90, by decide +kernel⟩
theorem mvX9_awaitedTotal : MIV yX9_awaitedTotal 9 := ⟨(tin4 54 rfl rfl), (tin4 55 rfl rfl), TX9, 14, rfl⟩
theorem miX10_240 : MI RX10 240 yX10_wrongDaySign cX10_wrongDaySign 6 (some .int) 1 := ⟨(tin3 229 rfl rfl), w_800, w_89, by decide +kernel⟩
theorem mvX10_wrongDaySign : MIV yX10_wrongDaySign 10 := ⟨(tin3 231 rfl rfl), (tinP 34 rfl rfl), TX10, 12, rfl⟩
theorem miX10_258 : MI RX10 258 yX2_bringBack cX2_bringBack 2 (some .boolean) 1 := ⟨(tin4 66 rfl rfl), w_877, w_91, by decide +kernel⟩
theorem mvX2_bringBack : MIV yX2_bringBack 2 := ⟨(tin4 67 rfl rfl), (tin4 68 rfl rfl), TX2, 5, rfl⟩
theorem miX10_262 : MI RX10 262 yX2_total cX2_total 1 (some .int) 0 := ⟨(tin4 70 rfl rfl), w_881, w_91, by decide +kernel⟩
theorem mvX2_total : MIV yX2_total 2 := ⟨(tin4 71 rfl rfl), (tin4 72 rfl rfl), TX2, 5, rfl⟩
theorem miX10_265 : MI RX10 265 yX9_peekPage cX9_peekPage 5 (some .int) 2 := ⟨(tin4 85 rfl rfl), w_589, w_90, by decide +kernel⟩
theorem miX10_291 : MI RX10 291 yJ6_bitCount_0f7a4 cJ6_bitCount_0f7a4 1 (some .int) 1 := ⟨(tin4 99 rfl rfl), w_398, w_100, by decide +kernel⟩
theorem miX10_268 : MI RX10 268 yX9_spacesAbove cX9_spacesAbove 4 (some .int) 1 := ⟨(tin4 90 rfl rfl), w_901, w_90, by decide +kernel⟩
theorem mvX9_spacesAbove : MIV yX9_spacesAbove 9 := ⟨(tin4 91 rfl rfl), (tin4 92 rfl rfl), TX9, 14, rfl⟩
theorem miX10_271 : MI RX10 271 yX10_tellSet cX10_tellSet 2 (some .int) 1 := ⟨(tin4 95 rfl rfl), w_906, w_89, by decide +kernel⟩
theorem mvX10_tellSet : MIV yX10_tellSet 10 := ⟨(tin4 97 rfl rfl), (tinP 36 rfl rfl), TX10, 12, rfl⟩
theorem miX10_274 : MI RX10 274 yX10_areTwo cX10_areTwo 3 (some .boolean) 2 := ⟨(tin4 104 rfl rfl), w_915, w_89, by decide +kernel⟩
theorem mvX10_areTwo : MIV yX10_areTwo 10 := ⟨(tin4 106 rfl rfl), (tinP 37 rfl rfl), TX10, 12, rfl⟩
theorem miX10_277 : MI RX10 277 yX9_isSeen cX9_isSeen 4 (some .boolean) 2 := ⟨(tin4 121 rfl rfl), w_932, w_90, by decide +kernel⟩
theorem mvX9_isSeen : MIV yX9_isSeen 9 := ⟨(tin4 122 rfl rfl), (tin4 123 rfl rfl), TX9, 14, rfl⟩
theorem miX10_280 : MI RX10 280 yX10_tellFirst cX10_tellFirst 4 none 3 := ⟨(tin4 125 rfl rfl), w_936, w_89, by decide +kernel⟩
theorem mvX10_tellFirst : MIV yX10_tellFirst 10 := ⟨(tin4 127 rfl rfl), (tinP 38 rfl rfl), TX10, 12, rfl⟩
theorem miX10_283 : MI RX10 283 yX9_eagerTotal cX9_eagerTotal 4 (some .int) 0 := ⟨(tin4 133 rfl rfl), w_944, w_90, by decide +kernel⟩
theorem mvX9_eagerTotal : MIV yX9_eagerTotal 9 := ⟨(tin4 134 rfl rfl), (tin4 135 rfl rfl), TX9, 14, rfl⟩
theorem fdX10_20 : FD RX10 20 10 3 (.object RX9) := ⟨RX10, TX10, 12, rfl, in_X10, by decide, tin1 239 rfl rfl, by decide +kernel⟩
theorem miX10_286 : MI RX10 286 yX9_copyFrom cX9_copyFrom 2 none 1 := ⟨(tin4 145 rfl rfl), w_421, w_90, by decide +kernel⟩
theorem miX10_288 : MI RX10 288 yX10_isIn cX10_isIn 2 (some .boolean) 2 := ⟨(tin4 150 rfl rfl), w_577, w_89, by decide +kernel⟩
theorem miX10_296 : MI RX10 296 yX10_isValue cX10_isValue 1 (some .boolean) 1 := ⟨(tin4 159 rfl rfl), w_643, w_89, by decide +kernel⟩
theorem miX10_441 : MI RX10 441 yX10_commonDivisor cX10_commonDivisor 11 (some .long) 2 := ⟨(tin4 179 rfl rfl), w_989, w_89, by decide +kernel⟩
theorem miX10_302 : MI RX10 302 yX10_choices cX10_choices 5 (some .long) 2 := ⟨(tin4 169 rfl rfl), w_979, w_89, by decide +kernel⟩
theorem miX10_306 : MI RX10 306 yX10_power cX10_power 5 (some .long) 2 := ⟨(tin4 172 rfl rfl), w_982, w_89, by decide +kernel⟩
theorem miX10_309 : MI RX10 309 yX10_tellFraction cX10_tellFraction 7 none 2 := ⟨(tin4 175 rfl rfl), w_986, w_89, by decide +kernel⟩
theorem mvX10_tellFraction : MIV yX10_tellFraction 10 := ⟨(tin4 177 rfl rfl), (tinP 39 rfl rfl), TX10, 12, rfl⟩
theorem miX10_299 : MI RX10 299 yX9_ownPages cX9_ownPages 2 (some .int) 1 := ⟨(tin4 164 rfl rfl), w_975, w_90, by decide +kernel⟩
theorem mvX9_ownPages : MIV yX9_ownPages 9 := ⟨(tin4 165 rfl rfl), (tin4 166 rfl rfl), TX9, 14, rfl⟩
theorem fdX10_57 : FD RX10 57 10 9 (.object RX1) := ⟨RX10, TX10, 12, rfl, in_X10, by decide, tin2 5 rfl rfl, by decide +kernel⟩
theorem miX10_313 : MI RX10 313 yX1_hear cX1_hear 3 (some .int) 2 := ⟨(tin4 186 rfl rfl), w_997, w_95, by decide +kernel⟩
theorem mvX1_hear : MIV yX1_hear 1 := ⟨(tin4 187 rfl rfl), (tin4 188 rfl rfl), TX1, 5, rfl⟩
theorem miX10_316 : MI RX10 316 yX1_empty cX1_empty 2 (some .int) 0 := ⟨(tin4 197 rfl rfl), w_1008, w_95, by decide +kernel⟩
theorem mvX1_empty : MIV yX1_empty 1 := ⟨(tin4 198 rfl rfl), (tin4 199 rfl rfl), TX1, 5, rfl⟩
theorem miX10_319 : MI RX10 319 yX1_gather cX1_gather 4 (some .int) 1 := ⟨(tin4 205 rfl rfl), w_1016, w_95, by decide +kernel⟩
theorem mvX1_gather : MIV yX1_gather 1 := ⟨(tin4 206 rfl rfl), (tin4 207 rfl rfl), TX1, 5, rfl⟩
theorem miX10_323 : MI RX10 323 yX1_gatheredObject cX1_gatheredObject 2 (some .int) 1 := ⟨(tin4 219 rfl rfl), w_1030, w_95, by decide +kernel⟩
theorem mvX1_gatheredObject : MIV yX1_gatheredObject 1 := ⟨(tin4 220 rfl rfl), (tin4 221 rfl rfl), TX1, 5, rfl⟩
theorem miX10_326 : MI RX10 326 yX1_gatheredPage cX1_gatheredPage 2 (some .int) 1 := ⟨(tin4 223 rfl rfl), w_1034, w_95, by decide +kernel⟩
theorem mvX1_gatheredPage : MIV yX1_gatheredPage 1 := ⟨(tin4 224 rfl rfl), (tin4 225 rfl rfl), TX1, 5, rfl⟩
theorem miX10_329 : MI RX10 329 yX1_numbersOf cX1_numbersOf 1 (some .int) 1 := ⟨(tin4 231 rfl rfl), w_1000, w_95, by decide +kernel⟩
theorem miX10_332 : MI RX10 332 yX1_agreeing cX1_agreeing 6 (some .int) 3 := ⟨(tin4 232 rfl rfl), w_1043, w_95, by decide +kernel⟩
theorem mvX1_agreeing : MIV yX1_agreeing 1 := ⟨(tin4 233 rfl rfl), (tin4 234 rfl rfl), TX1, 5, rfl⟩
theorem fdX10_64 : FD RX10 64 10 10 (.object RX8) := ⟨RX10, TX10, 12, rfl, in_X10, by decide, tin2 6 rfl rfl, by decide +kernel⟩
theorem miX10_340 : MI RX10 340 yX8_see cX8_see 4 (some .int) 3 := ⟨(tin5 0 rfl rfl), w_1051, w_96, by decide +kernel⟩
theorem mvX8_see : MIV yX8_see 8 := ⟨(tin5 1 rfl rfl), (tin5 2 rfl rfl), TX8, 5, rfl⟩
theorem miX10_343 : MI RX10 343 yX8_empty cX8_empty 2 (some .int) 0 := ⟨(tin5 8 rfl rfl), w_1059, w_96, by decide +kernel⟩
theorem mvX8_empty : MIV yX8_empty 8 := ⟨(tin5 9 rfl rfl), (tin5 10 rfl rfl), TX8, 5, rfl⟩
theorem miX10_344 : MI RX10 344 yX8_agreeWith cX8_agreeWith 4 (some .boolean) 2 := ⟨(tin5 16 rfl rfl), w_1067, w_96, by decide +kernel⟩
theorem miX10_349 : MI RX10 349 yX8_tidying cX8_tidying 5 (some .int) 2 := ⟨(tin5 32 rfl rfl), w_1083, w_96, by decide +kernel⟩
theorem mvX8_tidying : MIV yX8_tidying 8 := ⟨(tin5 33 rfl rfl), (tin5 34 rfl rfl), TX8, 5, rfl⟩
theorem miX10_347 : MI RX10 347 yX8_gather cX8_gather 3 (some .int) 0 := ⟨(tin5 27 rfl rfl), w_1078, w_96, by decide +kernel⟩
theorem mvX8_gather : MIV yX8_gather 8 := ⟨(tin5 28 rfl rfl), (tin5 29 rfl rfl), TX8, 5, rfl⟩
theorem fdX10_71 : FD RX10 71 10 11 (.object RX3) := ⟨RX10, TX10, 12, rfl, in_X10, by decide, tin2 7 rfl rfl, by decide +kernel⟩
theorem miX10_356 : MI RX10 356 yX3_isLost cX3_isLost 3 (some .boolean) 2 := ⟨(tin5 57 rfl rfl), w_1108, w_97, by decide +kernel⟩
theorem mvX3_isLost : MIV yX3_isLost 3 := ⟨(tin5 58 rfl rfl), (tin5 59 rfl rfl), TX3, 1, rfl⟩
theorem miX10_352 : MI RX10 352 yX3_weigh cX3_weigh 3 none 1 := ⟨(tin5 40 rfl rfl), w_1091, w_97, by decide +kernel⟩
theorem mvX3_weigh : MIV yX3_weigh 3 := ⟨(tin5 41 rfl rfl), (tin5 42 rfl rfl), TX3, 1, rfl⟩
theorem miX10_361 : MI RX10 361 yX4_isBest cX4_isBest 5 (some .boolean) 3 := ⟨(tin5 65 rfl rfl), w_1115, w_112, by decide +kernel⟩
theorem miX10_365 : MI RX10 365 yX10_tryRule cX10_tryRule 3 none 1 := ⟨(tin5 75 rfl rfl), w_1126, w_89, by decide +kernel⟩
theorem mvX10_tryRule : MIV yX10_tryRule 10 := ⟨(tin5 77 rfl rfl), (tinP 43 rfl rfl), TX10, 12, rfl⟩
theorem miX10_372 : MI RX10 372 yX0_draw cX0_draw 2 (some .int) 1 := ⟨(tin5 93 rfl rfl), w_1144, w_113, by decide +kernel⟩
theorem mvX0_draw : MIV yX0_draw 0 := ⟨(tin5 94 rfl rfl), (tin5 95 rfl rfl), TX0, 1, rfl⟩
theorem miX10_375 : MI RX10 375 yX10_actDrawn cX10_actDrawn 5 none 3 := ⟨(tin5 98 rfl rfl), w_1149, w_89, by decide +kernel⟩
theorem mvX10_actDrawn : MIV yX10_actDrawn 10 := ⟨(tin5 100 rfl rfl), (tinP 44 rfl rfl), TX10, 12, rfl⟩
theorem clX10_368 : CLS RX10 368 0 1 [.int 0] := ⟨RX0, TX0, tyX0, rfl, in_X0, tyX0_ok, (tin5 83 rfl rfl), (tin5 84 rfl rfl), (tin1 25 rfl rfl), fun j hj => by rcases (show j = 0 by omega) with rfl <;> rfl, rfl⟩
theorem miX10_370 : MI RX10 370 yX0_init cX0_init 2 none 1 := ⟨(tin5 85 rfl rfl), w_1135, w_113, by decide +kernel⟩
theorem miX10_379 : MI RX10 379 yX9_objectSet cX9_objectSet 1 (some .int) 0 := ⟨(tin5 102 rfl rfl), w_1153, w_90, by decide +kernel⟩
theorem mvX9_objectSet : MIV yX9_objectSet 9 := ⟨(tin5 103 rfl rfl), (tin5 104 rfl rfl), TX9, 14, rfl⟩
theorem miX10_382 : MI RX10 382 yX9_spaceSet cX9_spaceSet 1 (some .int) 0 := ⟨(tin5 106 rfl rfl), w_1157, w_90, by decide +kernel⟩
theorem mvX9_spaceSet : MIV yX9_spaceSet 9 := ⟨(tin5 107 rfl rfl), (tin5 108 rfl rfl), TX9, 14, rfl⟩
theorem miX10_385 : MI RX10 385 yX2_store cX2_store 3 (some .boolean) 2 := ⟨(tin5 114 rfl rfl), w_1165, w_91, by decide +kernel⟩
theorem mvX2_store : MIV yX2_store 2 := ⟨(tin5 115 rfl rfl), (tin5 116 rfl rfl), TX2, 5, rfl⟩
theorem miX10_389 : MI RX10 389 yX2_fetchStored cX2_fetchStored 3 (some .boolean) 2 := ⟨(tin5 122 rfl rfl), w_1173, w_91, by decide +kernel⟩
theorem mvX2_fetchStored : MIV yX2_fetchStored 2 := ⟨(tin5 123 rfl rfl), (tin5 124 rfl rfl), TX2, 5, rfl⟩
theorem miX10_392 : MI RX10 392 yX9_writeTotal cX9_writeTotal 1 (some .int) 0 := ⟨(tin5 130 rfl rfl), w_709, w_90, by decide +kernel⟩
theorem miX10_395 : MI RX10 395 yX9_sharingTotal cX9_sharingTotal 1 (some .int) 0 := ⟨(tin5 131 rfl rfl), w_1182, w_90, by decide +kernel⟩
theorem mvX9_sharingTotal : MIV yX9_sharingTotal 9 := ⟨(tin5 132 rfl rfl), (tin5 133 rfl rfl), TX9, 14, rfl⟩
theorem miX10_398 : MI RX10 398 yX1_total cX1_total 1 (some .int) 0 := ⟨(tin5 135 rfl rfl), w_1186, w_95, by decide +kernel⟩
theorem mvX1_total : MIV yX1_total 1 := ⟨(tin5 136 rfl rfl), (tin5 137 rfl rfl), TX1, 5, rfl⟩
theorem miX10_399 : MI RX10 399 yX8_total cX8_total 1 (some .int) 0 := ⟨(tin5 139 rfl rfl), w_1190, w_96, by decide +kernel⟩
theorem mvX8_total : MIV yX8_total 8 := ⟨(tin5 140 rfl rfl), (tin5 141 rfl rfl), TX8, 5, rfl⟩
theorem miX10_400 : MI RX10 400 yX5_total cX5_total 1 (some .int) 0 := ⟨(tin5 143 rfl rfl), w_1194, w_94, by decide +kernel⟩
theorem mvX5_total : MIV yX5_total 5 := ⟨(tin5 144 rfl rfl), (tin5 145 rfl rfl), TX5, 2, rfl⟩
theorem miX10_401 : MI RX10 401 yX5_has cX5_has 2 (some .boolean) 1 := ⟨(tin6 9 rfl rfl), w_1300, w_94, by decide +kernel⟩
theorem miX10_404 : MI RX10 404 yX5_number cX5_number 2 (some .long) 1 := ⟨(tin6 13 rfl rfl), w_1304, w_94, by decide +kernel⟩
theorem mvX5_number : MIV yX5_number 5 := ⟨(tin6 14 rfl rfl), (tin6 15 rfl rfl), TX5, 2, rfl⟩
theorem pn_X11 : plainName RX11 = true := by decide +kernel
theorem fdX11_9 : FD RX11 9 11 0 (.array .int) := ⟨RX11, TX11, 36, rfl, in_X11, by decide, tin6 27 rfl rfl, by decide +kernel⟩
theorem miX11_73 : MI RX11 73 yX11_clear cX11_clear 3 none 2 := ⟨(tin6 24 rfl rfl), w_1314, w_98, by decide +kernel⟩
theorem fpX11_9 : FP RX11 9 11 0 (.array .int) true := ⟨RX11, TX11, 36, tyX11, rfl, in_X11, by decide, tin6 27 rfl rfl, by decide +kernel, tyX11_ok, nmX11, rfl, rfl⟩
theorem fpX11_13 : FP RX11 13 11 1 (.array .byte) true := ⟨RX11, TX11, 36, tyX11, rfl, in_X11, by decide, tin6 28 rfl rfl, by decide +kernel, tyX11_ok, nmX11, rfl, rfl⟩
theorem fpX11_17 : FP RX11 17 11 3 (.array .long) true := ⟨RX11, TX11, 36, tyX11, rfl, in_X11, by decide, tin6 30 rfl rfl, by decide +kernel, tyX11_ok, nmX11, rfl, rfl⟩
theorem fpX11_21 : FP RX11 21 11 11 (.array .int) true := ⟨RX11, TX11, 36, tyX11, rfl, in_X11, by decide, tin6 38 rfl rfl, by decide +kernel, tyX11_ok, nmX11, rfl, rfl⟩
theorem fpX11_24 : FP RX11 24 11 12 (.array .byte) false := ⟨RX11, TX11, 36, tyX11, rfl, in_X11, by decide, tin6 39 rfl rfl, by decide +kernel, tyX11_ok, nmX11, rfl, rfl⟩
theorem fpX11_27 : FP RX11 27 11 13 (.array .byte) false := ⟨RX11, TX11, 36, tyX11, rfl, in_X11, by decide, tin6 40 rfl rfl, by decide +kernel, tyX11_ok, nmX11, rfl, rfl⟩
theorem fpX11_30 : FP RX11 30 11 16 (.array .int) true := ⟨RX11, TX11, 36, tyX11, rfl, in_X11, by decide, tin6 43 rfl rfl, by decide +kernel, tyX11_ok, nmX11, rfl, rfl⟩
theorem fpX11_33 : FP RX11 33 11 17 (.array .int) true := ⟨RX11, TX11, 36, tyX11, rfl, in_X11, by decide, tin6 44 rfl rfl, by decide +kernel, tyX11_ok, nmX11, rfl, rfl⟩
theorem fpX11_36 : FP RX11 36 11 19 (.array .int) true := ⟨RX11, TX11, 36, tyX11, rfl, in_X11, by decide, tin6 46 rfl rfl, by decide +kernel, tyX11_ok, nmX11, rfl, rfl⟩
theorem fpX11_39 : FP RX11 39 11 20 (.array .int) true := ⟨RX11, TX11, 36, tyX11, rfl, in_X11, by decide, tin6 47 rfl rfl, by decide +kernel, tyX11_ok, nmX11, rfl, rfl⟩
theorem fpX11_42 : FP RX11 42 11 23 (.array .int) true := ⟨RX11, TX11, 36, tyX11, rfl, in_X11, by decide, tin6 50 rfl rfl, by decide +kernel, tyX11_ok, nmX11, rfl, rfl⟩
theorem fpX11_45 : FP RX11 45 11 24 (.array .int) true := ⟨RX11, TX11, 36, tyX11, rfl, in_X11, by decide, tin6 51 rfl rfl, by decide +kernel, tyX11_ok, nmX11, rfl, rfl⟩
theorem fpX11_48 : FP RX11 48 11 25 (.array .int) true := ⟨RX11, TX11, 36, tyX11, rfl, in_X11, by decide, tin6 52 rfl rfl, by decide +kernel, tyX11_ok, nmX11, rfl, rfl⟩
theorem fpX11_51 : FP RX11 51 11 27 (.array .boolean) true := ⟨RX11, TX11, 36, tyX11, rfl, in_X11, by decide, tin6 54 rfl rfl, by decide +kernel, tyX11_ok, nmX11, rfl, rfl⟩
theorem fpX11_55 : FP RX11 55 11 28 (.array .int) true := ⟨RX11, TX11, 36, tyX11, rfl, in_X11, by decide, tin6 55 rfl rfl, by decide +kernel, tyX11_ok, nmX11, rfl, rfl⟩
theorem fpX11_58 : FP RX11 58 11 29 (.array .int) true := ⟨RX11, TX11, 36, tyX11, rfl, in_X11, by decide, tin6 56 rfl rfl, by decide +kernel, tyX11_ok, nmX11, rfl, rfl⟩
theorem fpX11_61 : FP RX11 61 11 30 (.array .int) true := ⟨RX11, TX11, 36, tyX11, rfl, in_X11, by decide, tin6 57 rfl rfl, by decide +kernel, tyX11_ok, nmX11, rfl, rfl⟩
theorem fpX11_64 : FP RX11 64 11 32 (.array .int) true := ⟨RX11, TX11, 36, tyX11, rfl, in_X11, by decide, tin6 59 rfl rfl, by decide +kernel, tyX11_ok, nmX11, rfl, rfl⟩
theorem fpX11_67 : FP RX11 67 11 34 (.array .int) true := ⟨RX11, TX11, 36, tyX11, rfl, in_X11, by decide, tin6 61 rfl rfl, by decide +kernel, tyX11_ok, nmX11, rfl, rfl⟩
theorem fpX11_70 : FP RX11 70 11 35 (.array .boolean) true := ⟨RX11, TX11, 36, tyX11, rfl, in_X11, by decide, tin6 62 rfl rfl, by decide +kernel, tyX11_ok, nmX11, rfl, rfl⟩
theorem fdX11_77 : FD RX11 77 11 5 .int := ⟨RX11, TX11, 36, rfl, in_X11, by decide, tin6 32 rfl rfl, by decide +kernel⟩
theorem fpX11_77 : FP RX11 77 11 5 .int false := ⟨RX11, TX11, 36, tyX11, rfl, in_X11, by decide, tin6 32 rfl rfl, by decide +kernel, tyX11_ok, nmX11, rfl, rfl⟩
theorem fdX11_17 : FD RX11 17 11 3 (.array .long) := ⟨RX11, TX11, 36, rfl, in_X11, by decide, tin6 30 rfl rfl, by decide +kernel⟩
theorem fdX11_81 : FD RX11 81 11 4 .int := ⟨RX11, TX11, 36, rfl, in_X11, by decide, tin6 31 rfl rfl, by decide +kernel⟩
theorem fpX11_81 : FP RX11 81 11 4 .int false := ⟨RX11, TX11, 36, tyX11, rfl, in_X11, by decide, tin6 31 rfl rfl, by decide +kernel, tyX11_ok, nmX11, rfl, rfl⟩
theorem miX11_84 : MI RX11 84 yX11_in cX11_in 3 (some .boolean) 3 := ⟨(tin6 148 rfl rfl), w_1438, w_98, by decide +kernel⟩
theorem miX11_88 : MI RX11 88 yX11_isThere cX11_isThere 2 (some .boolean) 2 := ⟨(tin6 196 rfl rfl), w_1486, w_98, by decide +kernel⟩
theorem miX11_92 : MI RX11 92 yX11_holds cX11_holds 3 (some .boolean) 3 := ⟨(tin6 205 rfl rfl), w_1495, w_98, by decide +kernel⟩
theorem miX11_96 : MI RX11 96 yX11_pagesOf cX11_pagesOf 4 (some .int) 2 := ⟨(tin6 202 rfl rfl), w_1492, w_98, by decide +kernel⟩
theorem miX11_100 : MI RX11 100 yJ6_bitCount_0f7a4 cJ6_bitCount_0f7a4 1 (some .int) 1 := ⟨(tin6 208 rfl rfl), w_398, w_100, by decide +kernel⟩
theorem miX11_106 : MI RX11 106 yX11_isSpace cX11_isSpace 2 (some .boolean) 2 := ⟨(tin6 190 rfl rfl), w_1480, w_98, by decide +kernel⟩
theorem miX11_109 : MI RX11 109 yX11_holdersOf cX11_holdersOf 4 (some .int) 2 := ⟨(tin7 49 rfl rfl), w_1579, w_98, by decide +kernel⟩
theorem miX11_112 : MI RX11 112 yX11_forgetCopy cX11_forgetCopy 4 none 3 := ⟨(tin7 120 rfl rfl), w_1650, w_98, by decide +kernel⟩
theorem miX11_116 : MI RX11 116 yX11_lengthOf cX11_lengthOf 4 (some .int) 2 := ⟨(tin7 26 rfl rfl), w_1556, w_98, by decide +kernel⟩
theorem miX11_119 : MI RX11 119 yX11_objectAt cX11_objectAt 5 (some .int) 3 := ⟨(tin7 79 rfl rfl), w_1609, w_98, by decide +kernel⟩
theorem fdX11_123 : FD RX11 123 11 2 .int := ⟨RX11, TX11, 36, rfl, in_X11, by decide, tin6 29 rfl rfl, by decide +kernel⟩
theorem fdX11_13 : FD RX11 13 11 1 (.array .byte) := ⟨RX11, TX11, 36, rfl, in_X11, by decide, tin6 28 rfl rfl, by decide +kernel⟩
theorem fpX11_123 : FP RX11 123 11 2 .int false := ⟨RX11, TX11, 36, tyX11, rfl, in_X11, by decide, tin6 29 rfl rfl, by decide +kernel, tyX11_ok, nmX11, rfl, rfl⟩
theorem fpX11_126 : FP RX11 126 11 6 (.array .byte) false := ⟨RX11, TX11, 36, tyX11, rfl, in_X11, by decide, tin6 33 rfl rfl, by decide +kernel, tyX11_ok, nmX11, rfl, rfl⟩
theorem fpX11_129 : FP RX11 129 11 7 .int false := ⟨RX11, TX11, 36, tyX11, rfl, in_X11, by decide, tin6 34 rfl rfl, by decide +kernel, tyX11_ok, nmX11, rfl, rfl⟩
theorem fpX11_132 : FP RX11 132 11 8 .int false := ⟨RX11, TX11, 36, tyX11, rfl, in_X11, by decide, tin6 35 rfl rfl, by decide +kernel, tyX11_ok, nmX11, rfl, rfl⟩
theorem fpX11_135 : FP RX11 135 11 9 .int false := ⟨RX11, TX11, 36, tyX11, rfl, in_X11, by decide, tin6 36 rfl rfl, by decide +kernel, tyX11_ok, nmX11, rfl, rfl⟩
theorem fpX11_138 : FP RX11 138 11 10 .int false := ⟨RX11, TX11, 36, tyX11, rfl, in_X11, by decide, tin6 37 rfl rfl, by decide +kernel, tyX11_ok, nmX11, rfl, rfl⟩
theorem miX11_141 : MI RX11 141 yX11_begin cX11_begin 4 none 3 := ⟨(tin6 159 rfl rfl), w_1450, w_98, by decide +kernel⟩
theorem mvX11_begin : MIV yX11_begin 11 := ⟨(tin6 161 rfl rfl), (tinP 47 rfl rfl), TX11, 36, rfl⟩
theorem fdX11_135 : FD RX11 135 11 9 .int := ⟨RX11, TX11, 36, rfl, in_X11, by decide, tin6 36 rfl rfl, by decide +kernel⟩
theorem fdX11_129 : FD RX11 129 11 7 .int := ⟨RX11, TX11, 36, rfl, in_X11, by decide, tin6 34 rfl rfl, by decide +kernel⟩
theorem fdX11_132 : FD RX11 132 11 8 .int := ⟨RX11, TX11, 36, rfl, in_X11, by decide, tin6 35 rfl rfl, by decide +kernel⟩
theorem fdX11_126 : FD RX11 126 11 6 (.array .byte) := ⟨RX11, TX11, 36, rfl, in_X11, by decide, tin6 33 rfl rfl, by decide +kernel⟩
theorem fdX11_138 : FD RX11 138 11 10 .int := ⟨RX11, TX11, 36, rfl, in_X11, by decide, tin6 37 rfl rfl, by decide +kernel⟩
theorem miX11_145 : MI RX11 145 yX11_fine cX11_fine 1 (some .boolean) 0 := ⟨(tin6 167 rfl rfl), w_1458, w_98, by decide +kernel⟩
theorem mvX11_fine : MIV yX11_fine 11 := ⟨(tin6 169 rfl rfl), (tinP 49 rfl rfl), TX11, 36, rfl⟩
theorem miX11_149 : MI RX11 149 yX11_here cX11_here 1 (some .int) 0 := ⟨(tin6 171 rfl rfl), w_1462, w_98, by decide +kernel⟩
theorem mvX11_here : MIV yX11_here 11 := ⟨(tin6 173 rfl rfl), (tinP 50 rfl rfl), TX11, 36, rfl⟩
theorem miX11_153 : MI RX11 153 yX11_passes cX11_passes 2 (some .boolean) 1 := ⟨(tin7 3 rfl rfl), w_1534, w_98, by decide +kernel⟩
theorem mvX11_passes : MIV yX11_passes 11 := ⟨(tin7 5 rfl rfl), (tinP 60 rfl rfl), TX11, 36, rfl⟩
theorem miX11_157 : MI RX11 157 yX11_fault cX11_fault 2 none 1 := ⟨(tin6 175 rfl rfl), w_1466, w_98, by decide +kernel⟩
theorem mvX11_fault : MIV yX11_fault 11 := ⟨(tin6 177 rfl rfl), (tinP 51 rfl rfl), TX11, 36, rfl⟩
theorem miX11_161 : MI RX11 161 yX11_oneOf cX11_oneOf 3 (some .int) 2 := ⟨(tin6 163 rfl rfl), w_1454, w_98, by decide +kernel⟩
theorem mvX11_oneOf : MIV yX11_oneOf 11 := ⟨(tin6 165 rfl rfl), (tinP 48 rfl rfl), TX11, 36, rfl⟩
theorem miX11_165 : MI RX11 165 yX11_freeObject cX11_freeObject 2 (some .int) 1 := ⟨(tin6 193 rfl rfl), w_1483, w_98, by decide +kernel⟩
theorem fdX11_33 : FD RX11 33 11 17 (.array .int) := ⟨RX11, TX11, 36, rfl, in_X11, by decide, tin6 44 rfl rfl, by decide +kernel⟩
theorem fdX11_252 : FD RX11 252 11 18 .int := ⟨RX11, TX11, 36, rfl, in_X11, by decide, tin6 45 rfl rfl, by decide +kernel⟩
theorem miX11_255 : MI RX11 255 yX11_lay cX11_lay 4 none 3 := ⟨(tin6 213 rfl rfl), w_1503, w_98, by decide +kernel⟩
theorem fpX11_252 : FP RX11 252 11 18 .int false := ⟨RX11, TX11, 36, tyX11, rfl, in_X11, by decide, tin6 45 rfl rfl, by decide +kernel, tyX11_ok, nmX11, rfl, rfl⟩
theorem fdX11_21 : FD RX11 21 11 11 (.array .int) := ⟨RX11, TX11, 36, rfl, in_X11, by decide, tin6 38 rfl rfl, by decide +kernel⟩
theorem miX11_172 : MI RX11 172 yX11_valueOf cX11_valueOf 2 (some .int) 0 := ⟨(tin6 179 rfl rfl), w_1470, w_98, by decide +kernel⟩
theorem mvX11_valueOf : MIV yX11_valueOf 11 := ⟨(tin6 181 rfl rfl), (tinP 52 rfl rfl), TX11, 36, rfl⟩
theorem miX11_175 : MI RX11 175 yX11_wasRight cX11_wasRight 1 (some .boolean) 0 := ⟨(tin6 183 rfl rfl), w_1474, w_98, by decide +kernel⟩
theorem mvX11_wasRight : MIV yX11_wasRight 11 := ⟨(tin6 185 rfl rfl), (tinP 53 rfl rfl), TX11, 36, rfl⟩
theorem miX11_178 : MI RX11 178 yX11_freeSpace cX11_freeSpace 2 (some .int) 1 := ⟨(tin6 187 rfl rfl), w_1477, w_98, by decide +kernel⟩
theorem miX11_181 : MI RX11 181 yX11_framesOf cX11_framesOf 3 (some .int) 1 := ⟨(tin6 199 rfl rfl), w_1489, w_98, by decide +kernel⟩
theorem miX11_184 : MI RX11 184 yX11_remember cX11_remember 3 none 1 := ⟨(tin6 209 rfl rfl), w_1500, w_98, by decide +kernel⟩
theorem mvX11_remember : MIV yX11_remember 11 := ⟨(tin6 211 rfl rfl), (tinP 54 rfl rfl), TX11, 36, rfl⟩
theorem miX11_188 : MI RX11 188 yX11_comes cX11_comes 5 (some .int) 4 := ⟨(tin6 216 rfl rfl), w_1506, w_98, by decide +kernel⟩
theorem miX11_169 : MI RX11 169 yX11_beginText cX11_beginText 2 none 1 := ⟨(tin6 155 rfl rfl), w_1446, w_98, by decide +kernel⟩
theorem mvX11_beginText : MIV yX11_beginText 11 := ⟨(tin6 157 rfl rfl), (tinP 46 rfl rfl), TX11, 36, rfl⟩
theorem miX11_192 : MI RX11 192 yX11_sum cX11_sum 5 (some .int) 1 := ⟨(tin6 231 rfl rfl), w_1522, w_98, by decide +kernel⟩
theorem mvX11_sum : MIV yX11_sum 11 := ⟨(tin6 233 rfl rfl), (tinP 57 rfl rfl), TX11, 36, rfl⟩
theorem miX11_195 : MI RX11 195 yX11_product cX11_product 5 (some .int) 1 := ⟨(tin6 235 rfl rfl), w_1526, w_98, by decide +kernel⟩
theorem mvX11_product : MIV yX11_product 11 := ⟨(tin6 237 rfl rfl), (tinP 58 rfl rfl), TX11, 36, rfl⟩
theorem miX11_198 : MI RX11 198 yX11_thing cX11_thing 4 (some .int) 1 := ⟨(tin6 239 rfl rfl), w_1530, w_98, by decide +kernel⟩
theorem mvX11_thing : MIV yX11_thing 11 := ⟨(tin7 1 rfl rfl), (tinP 59 rfl rfl), TX11, 36, rfl⟩
theorem miX11_208 : MI RX11 208 yX11_number cX11_number 4 (some .int) 1 := ⟨(tin7 11 rfl rfl), w_1542, w_98, by decide +kernel⟩
theorem mvX11_number : MIV yX11_number 11 := ⟨(tin7 13 rfl rfl), (tinP 62 rfl rfl), TX11, 36, rfl⟩
theorem miX11_211 : MI RX11 211 yX11_letterOf cX11_letterOf 1 (some .int) 1 := ⟨(tin7 15 rfl rfl), w_1545, w_98, by decide +kernel⟩
theorem fdX11_214 : FD RX11 214 11 15 .boolean := ⟨RX11, TX11, 36, rfl, in_X11, by decide, tin6 42 rfl rfl, by decide +kernel⟩
theorem fdX11_30 : FD RX11 30 11 16 (.array .int) := ⟨RX11, TX11, 36, rfl, in_X11, by decide, tin6 43 rfl rfl, by decide +kernel⟩
theorem miX11_201 : MI RX11 201 yX11_held cX11_held 3 (some .int) 1 := ⟨(tin6 227 rfl rfl), w_1518, w_98, by decide +kernel⟩
theorem mvX11_held : MIV yX11_held 11 := ⟨(tin6 229 rfl rfl), (tinP 56 rfl rfl), TX11, 36, rfl⟩
theorem miX11_204 : MI RX11 204 yX11_need cX11_need 2 none 1 := ⟨(tin7 7 rfl rfl), w_1538, w_98, by decide +kernel⟩
theorem mvX11_need : MIV yX11_need 11 := ⟨(tin7 9 rfl rfl), (tinP 61 rfl rfl), TX11, 36, rfl⟩
theorem fpX11_214 : FP RX11 214 11 15 .boolean false := ⟨RX11, TX11, 36, tyX11, rfl, in_X11, by decide, tin6 42 rfl rfl, by decide +kernel, tyX11_ok, nmX11, rfl, rfl⟩
theorem fpX11_221 : FP RX11 221 11 14 .int false := ⟨RX11, TX11, 36, tyX11, rfl, in_X11, by decide, tin6 41 rfl rfl, by decide +kernel, tyX11_ok, nmX11, rfl, rfl⟩
theorem fdX11_24 : FD RX11 24 11 12 (.array .byte) := ⟨RX11, TX11, 36, rfl, in_X11, by decide, tin6 39 rfl rfl, by decide +kernel⟩
theorem miX11_218 : MI RX11 218 yX11_readRule cX11_readRule 1 (some .boolean) 0 := ⟨(tin6 223 rfl rfl), w_1514, w_98, by decide +kernel⟩
theorem mvX11_readRule : MIV yX11_readRule 11 := ⟨(tin6 225 rfl rfl), (tinP 55 rfl rfl), TX11, 36, rfl⟩
theorem fdX11_221 : FD RX11 221 11 14 .int := ⟨RX11, TX11, 36, rfl, in_X11, by decide, tin6 41 rfl rfl, by decide +kernel⟩
theorem miX11_224 : MI RX11 224 yX11_objectsOf cX11_objectsOf 3 (some .int) 1 := ⟨(tin7 33 rfl rfl), w_1563, w_98, by decide +kernel⟩
theorem miX11_227 : MI RX11 227 yX11_lost cX11_lost 1 (some .int) 0 := ⟨(tin7 22 rfl rfl), w_1553, w_98, by decide +kernel⟩
theorem mvX11_lost : MIV yX11_lost 11 := ⟨(tin7 24 rfl rfl), (tinP 63 rfl rfl), TX11, 36, rfl⟩
theorem miX11_230 : MI RX11 230 yX11_ruleOf cX11_ruleOf 5 (some .int) 3 := ⟨(tin7 29 rfl rfl), w_1560, w_98, by decide +kernel⟩
theorem mvX11_ruleOf : MIV yX11_ruleOf 11 := ⟨(tin7 31 rfl rfl), (tinP 64 rfl rfl), TX11, 36, rfl⟩
theorem miX11_242 : MI RX11 242 yX11_isObject cX11_isObject 2 (some .boolean) 1 := ⟨(tin7 42 rfl rfl), w_1573, w_98, by decide +kernel⟩
theorem mvX11_isObject : MIV yX11_isObject 11 := ⟨(tin7 44 rfl rfl), (tinP 65 rfl rfl), TX11, 36, rfl⟩
theorem miX11_246 : MI RX11 246 yX11_told24 cX11_told24 1 (some .int) 1 := ⟨(tin7 46 rfl rfl), w_1576, w_98, by decide +kernel⟩
theorem miX11_249 : MI RX11 249 yX11_isPage cX11_isPage 1 (some .boolean) 1 := ⟨(tin7 56 rfl rfl), w_1586, w_98, by decide +kernel⟩
theorem miX11_259 : MI RX11 259 yX11_placeOf cX11_placeOf 5 (some .int) 3 := ⟨(tin7 73 rfl rfl), w_1603, w_98, by decide +kernel⟩
theorem miX11_262 : MI RX11 262 yX11_lastOf cX11_lastOf 2 (some .int) 2 := ⟨(tin7 76 rfl rfl), w_1606, w_98, by decide +kernel⟩
theorem miX11_265 : MI RX11 265 yX11_isFetched cX11_isFetched 3 (some .boolean) 3 := ⟨(tin7 82 rfl rfl), w_1612, w_98, by decide +kernel⟩
theorem miX11_268 : MI RX11 268 yX11_fetchOf cX11_fetchOf 5 (some .int) 3 := ⟨(tin7 88 rfl rfl), w_1618, w_98, by decide +kernel⟩
theorem miX11_271 : MI RX11 271 yX11_refusesFetch cX11_refusesFetch 4 (some .int) 3 := ⟨(tin7 70 rfl rfl), w_1600, w_98, by decide +kernel⟩
theorem miX11_280 : MI RX11 280 yX11_goFetch cX11_goFetch 3 none 3 := ⟨(tin7 91 rfl rfl), w_1621, w_98, by decide +kernel⟩
theorem miX11_283 : MI RX11 283 yX11_tell cX11_tell 3 none 1 := ⟨(tin7 94 rfl rfl), w_1625, w_98, by decide +kernel⟩
theorem mvX11_tell : MIV yX11_tell 11 := ⟨(tin7 96 rfl rfl), (tinP 66 rfl rfl), TX11, 36, rfl⟩
theorem miX11_274 : MI RX11 274 yX11_refusesRead cX11_refusesRead 4 (some .int) 3 := ⟨(tin7 67 rfl rfl), w_1597, w_98, by decide +kernel⟩
theorem miX11_277 : MI RX11 277 yX11_goAwait cX11_goAwait 3 none 3 := ⟨(tin7 85 rfl rfl), w_1615, w_98, by decide +kernel⟩
theorem miX11_287 : MI RX11 287 yX11_isShared cX11_isShared 2 (some .boolean) 2 := ⟨(tin7 105 rfl rfl), w_1635, w_98, by decide +kernel⟩
theorem fdX11_323 : FD RX11 323 11 22 .int := ⟨RX11, TX11, 36, rfl, in_X11, by decide, tin6 49 rfl rfl, by decide +kernel⟩
theorem fpX11_323 : FP RX11 323 11 22 .int false := ⟨RX11, TX11, 36, tyX11, rfl, in_X11, by decide, tin6 49 rfl rfl, by decide +kernel, tyX11_ok, nmX11, rfl, rfl⟩
theorem miX11_306 : MI RX11 306 yX11_goFree cX11_goFree 4 (some .int) 1 := ⟨(tin7 123 rfl rfl), w_1653, w_98, by decide +kernel⟩
theorem miX11_335 : MI RX11 335 yX11_isCopy cX11_isCopy 3 (some .boolean) 2 := ⟨(tin7 129 rfl rfl), w_1659, w_98, by decide +kernel⟩
theorem miX11_329 : MI RX11 329 yX11_goBypass cX11_goBypass 4 none 3 := ⟨(tin7 116 rfl rfl), w_1647, w_98, by decide +kernel⟩
theorem mvX11_goBypass : MIV yX11_goBypass 11 := ⟨(tin7 118 rfl rfl), (tinP 69 rfl rfl), TX11, 36, rfl⟩
theorem miX11_332 : MI RX11 332 yX11_goCollapse cX11_goCollapse 4 none 3 := ⟨(tin7 126 rfl rfl), w_1656, w_98, by decide +kernel⟩
theorem fdX11_326 : FD RX11 326 11 21 .int := ⟨RX11, TX11, 36, rfl, in_X11, by decide, tin6 48 rfl rfl, by decide +kernel⟩
theorem fpX11_326 : FP RX11 326 11 21 .int false := ⟨RX11, TX11, 36, tyX11, rfl, in_X11, by decide, tin6 48 rfl rfl, by decide +kernel, tyX11_ok, nmX11, rfl, rfl⟩
theorem miX11_290 : MI RX11 290 yX11_goTidy cX11_goTidy 6 none 2 := ⟨(tin7 112 rfl rfl), w_1643, w_98, by decide +kernel⟩
theorem mvX11_goTidy : MIV yX11_goTidy 11 := ⟨(tin7 114 rfl rfl), (tinP 68 rfl rfl), TX11, 36, rfl⟩
theorem miX11_296 : MI RX11 296 yX11_goWrite cX11_goWrite 8 none 4 := ⟨(tin7 108 rfl rfl), w_1639, w_98, by decide +kernel⟩
theorem mvX11_goWrite : MIV yX11_goWrite 11 := ⟨(tin7 110 rfl rfl), (tinP 67 rfl rfl), TX11, 36, rfl⟩
theorem miX11_293 : MI RX11 293 yX11_refusesWrite cX11_refusesWrite 8 (some .int) 3 := ⟨(tin7 102 rfl rfl), w_1632, w_98, by decide +kernel⟩
theorem miX11_300 : MI RX11 300 yX11_refusesFork cX11_refusesFork 2 (some .int) 2 := ⟨(tin7 136 rfl rfl), w_1666, w_98, by decide +kernel⟩
theorem miX11_303 : MI RX11 303 yX11_goFork cX11_goFork 5 (some .int) 2 := ⟨(tin7 139 rfl rfl), w_1669, w_98, by decide +kernel⟩
theorem miX11_309 : MI RX11 309 yX11_goEnd cX11_goEnd 2 (some .int) 2 := ⟨(tin7 146 rfl rfl), w_1676, w_98, by decide +kernel⟩
theorem miX11_312 : MI RX11 312 yX11_has cX11_has 2 (some .boolean) 2 := ⟨(tin7 157 rfl rfl), w_1687, w_98, by decide +kernel⟩
theorem miX11_316 : MI RX11 316 yX11_refusesArrival cX11_refusesArrival 4 (some .int) 3 := ⟨(tin7 153 rfl rfl), w_1684, w_98, by decide +kernel⟩
theorem mvX11_refusesArrival : MIV yX11_refusesArrival 11 := ⟨(tin7 155 rfl rfl), (tinP 70 rfl rfl), TX11, 36, rfl⟩
theorem miX11_320 : MI RX11 320 yX11_goArrive cX11_goArrive 4 (some .int) 3 := ⟨(tin7 160 rfl rfl), w_1691, w_98, by decide +kernel⟩
theorem mvX11_goArrive : MIV yX11_goArrive 11 := ⟨(tin7 162 rfl rfl), (tinP 71 rfl rfl), TX11, 36, rfl⟩
theorem fdX11_42 : FD RX11 42 11 23 (.array .int) := ⟨RX11, TX11, 36, rfl, in_X11, by decide, tin6 50 rfl rfl, by decide +kernel⟩
theorem miX11_344 : MI RX11 344 yX11_twoDigits cX11_twoDigits 2 (some .int) 0 := ⟨(tin7 176 rfl rfl), w_1707, w_98, by decide +kernel⟩
theorem mvX11_twoDigits : MIV yX11_twoDigits 11 := ⟨(tin7 178 rfl rfl), (tinP 73 rfl rfl), TX11, 36, rfl⟩
theorem miX11_338 : MI RX11 338 yX11_readAct cX11_readAct 3 none 1 := ⟨(tin7 172 rfl rfl), w_1703, w_98, by decide +kernel⟩
theorem mvX11_readAct : MIV yX11_readAct 11 := ⟨(tin7 174 rfl rfl), (tinP 72 rfl rfl), TX11, 36, rfl⟩
theorem miX11_341 : MI RX11 341 yX11_act cX11_act 5 (some .boolean) 1 := ⟨(tin7 180 rfl rfl), w_1711, w_98, by decide +kernel⟩
theorem mvX11_act : MIV yX11_act 11 := ⟨(tin7 182 rfl rfl), (tinP 74 rfl rfl), TX11, 36, rfl⟩
theorem fdX11_36 : FD RX11 36 11 19 (.array .int) := ⟨RX11, TX11, 36, rfl, in_X11, by decide, tin6 46 rfl rfl, by decide +kernel⟩
theorem miX11_347 : MI RX11 347 yX11_isInChain cX11_isInChain 4 (some .boolean) 3 := ⟨(tin7 204 rfl rfl), w_1734, w_98, by decide +kernel⟩
theorem miX11_350 : MI RX11 350 yX11_inChains cX11_inChains 4 (some .int) 1 := ⟨(tin7 200 rfl rfl), w_1731, w_98, by decide +kernel⟩
theorem mvX11_inChains : MIV yX11_inChains 11 := ⟨(tin7 202 rfl rfl), (tinP 75 rfl rfl), TX11, 36, rfl⟩
theorem miX11_356 : MI RX11 356 yX11_frameOf cX11_frameOf 4 (some .int) 3 := ⟨(tin7 215 rfl rfl), w_1745, w_98, by decide +kernel⟩
theorem miX11_353 : MI RX11 353 yX11_areTwo cX11_areTwo 3 (some .boolean) 2 := ⟨(tin7 211 rfl rfl), w_1742, w_98, by decide +kernel⟩
theorem mvX11_areTwo : MIV yX11_areTwo 11 := ⟨(tin7 213 rfl rfl), (tinP 76 rfl rfl), TX11, 36, rfl⟩
theorem miX11_359 : MI RX11 359 yX11_tellBits cX11_tellBits 2 (some .int) 1 := ⟨(tin7 218 rfl rfl), w_1749, w_98, by decide +kernel⟩
theorem mvX11_tellBits : MIV yX11_tellBits 11 := ⟨(tin7 220 rfl rfl), (tinP 77 rfl rfl), TX11, 36, rfl⟩
theorem miX11_362 : MI RX11 362 yX11_havers cX11_havers 5 (some .int) 2 := ⟨(tin7 234 rfl rfl), w_1765, w_98, by decide +kernel⟩
theorem mvX11_havers : MIV yX11_havers 11 := ⟨(tin7 236 rfl rfl), (tinP 78 rfl rfl), TX11, 36, rfl⟩
theorem fdX11_39 : FD RX11 39 11 20 (.array .int) := ⟨RX11, TX11, 36, rfl, in_X11, by decide, tin6 47 rfl rfl, by decide +kernel⟩
theorem miX11_365 : MI RX11 365 yX11_tryWrite cX11_tryWrite 6 (some .boolean) 4 := ⟨(tin8 18 rfl rfl), w_1789, w_98, by decide +kernel⟩
theorem mvX11_tryWrite : MIV yX11_tryWrite 11 := ⟨(tin8 20 rfl rfl), (tinP 79 rfl rfl), TX11, 36, rfl⟩
theorem miX11_369 : MI RX11 369 yX11_spacesOf cX11_spacesOf 3 (some .int) 1 := ⟨(tin8 22 rfl rfl), w_1792, w_98, by decide +kernel⟩
theorem miX11_372 : MI RX11 372 yX11_common_ cX11_common_ 4 (some .long) 2 := ⟨(tin8 34 rfl rfl), w_1804, w_98, by decide +kernel⟩
theorem miX11_378 : MI RX11 378 yX11_highOf cX11_highOf 1 (some .int) 1 := ⟨(tin8 41 rfl rfl), w_1811, w_98, by decide +kernel⟩
theorem fdX11_381 : FD RX11 381 11 26 .int := ⟨RX11, TX11, 36, rfl, in_X11, by decide, tin6 53 rfl rfl, by decide +kernel⟩
theorem fdX11_45 : FD RX11 45 11 24 (.array .int) := ⟨RX11, TX11, 36, rfl, in_X11, by decide, tin6 51 rfl rfl, by decide +kernel⟩
theorem fdX11_48 : FD RX11 48 11 25 (.array .int) := ⟨RX11, TX11, 36, rfl, in_X11, by decide, tin6 52 rfl rfl, by decide +kernel⟩
theorem fpX11_381 : FP RX11 381 11 26 .int false := ⟨RX11, TX11, 36, tyX11, rfl, in_X11, by decide, tin6 53 rfl rfl, by decide +kernel, tyX11_ok, nmX11, rfl, rfl⟩
theorem miX11_384 : MI RX11 384 yX11_isSo cX11_isSo 5 (some .boolean) 4 := ⟨(tin8 60 rfl rfl), w_1831, w_98, by decide +kernel⟩
theorem mvX11_isSo : MIV yX11_isSo 11 := ⟨(tin8 62 rfl rfl), (tinP 82 rfl rfl), TX11, 36, rfl⟩
theorem fdX11_51 : FD RX11 51 11 27 (.array .boolean) := ⟨RX11, TX11, 36, rfl, in_X11, by decide, tin6 54 rfl rfl, by decide +kernel⟩
theorem miX11_388 : MI RX11 388 yX11_isFitting cX11_isFitting 4 (some .boolean) 2 := ⟨(tin8 56 rfl rfl), w_1827, w_98, by decide +kernel⟩
theorem mvX11_isFitting : MIV yX11_isFitting 11 := ⟨(tin8 58 rfl rfl), (tinP 81 rfl rfl), TX11, 36, rfl⟩
theorem miX11_391 : MI RX11 391 yX11_layFits cX11_layFits 4 (some .int) 0 := ⟨(tin8 52 rfl rfl), w_1823, w_98, by decide +kernel⟩
theorem mvX11_layFits : MIV yX11_layFits 11 := ⟨(tin8 54 rfl rfl), (tinP 80 rfl rfl), TX11, 36, rfl⟩
theorem fdX11_395 : FD RX11 395 11 31 .int := ⟨RX11, TX11, 36, rfl, in_X11, by decide, tin6 58 rfl rfl, by decide +kernel⟩
theorem fdX11_55 : FD RX11 55 11 28 (.array .int) := ⟨RX11, TX11, 36, rfl, in_X11, by decide, tin6 55 rfl rfl, by decide +kernel⟩
theorem fdX11_58 : FD RX11 58 11 29 (.array .int) := ⟨RX11, TX11, 36, rfl, in_X11, by decide, tin6 56 rfl rfl, by decide +kernel⟩
theorem fdX11_61 : FD RX11 61 11 30 (.array .int) := ⟨RX11, TX11, 36, rfl, in_X11, by decide, tin6 57 rfl rfl, by decide +kernel⟩
theorem fpX11_395 : FP RX11 395 11 31 .int false := ⟨RX11, TX11, 36, tyX11, rfl, in_X11, by decide, tin6 58 rfl rfl, by decide +kernel, tyX11_ok, nmX11, rfl, rfl⟩
theorem miX11_398 : MI RX11 398 yX11_tidiesBy cX11_tidiesBy 3 (some .boolean) 3 := ⟨(tin8 85 rfl rfl), w_1855, w_98, by decide +kernel⟩
theorem miX11_401 : MI RX11 401 yX11_isLaw cX11_isLaw 3 (some .boolean) 1 := ⟨(tin8 81 rfl rfl), w_1852, w_98, by decide +kernel⟩
theorem mvX11_isLaw : MIV yX11_isLaw 11 := ⟨(tin8 83 rfl rfl), (tinP 83 rfl rfl), TX11, 36, rfl⟩
theorem fdX11_64 : FD RX11 64 11 32 (.array .int) := ⟨RX11, TX11, 36, rfl, in_X11, by decide, tin6 59 rfl rfl, by decide +kernel⟩
theorem miX11_404 : MI RX11 404 yX11_worthBy cX11_worthBy 5 (some .int) 1 := ⟨(tin8 96 rfl rfl), w_1867, w_98, by decide +kernel⟩
theorem mvX11_worthBy : MIV yX11_worthBy 11 := ⟨(tin8 98 rfl rfl), (tinP 84 rfl rfl), TX11, 36, rfl⟩
theorem miX11_407 : MI RX11 407 yX11_gets cX11_gets 3 (some .int) 3 := ⟨(tin8 107 rfl rfl), w_1877, w_98, by decide +kernel⟩
theorem miX11_410 : MI RX11 410 yX11_isBest cX11_isBest 4 (some .boolean) 3 := ⟨(tin8 104 rfl rfl), w_1874, w_98, by decide +kernel⟩
theorem miX11_413 : MI RX11 413 yX11_layWritten cX11_layWritten 3 none 0 := ⟨(tin8 114 rfl rfl), w_1885, w_98, by decide +kernel⟩
theorem mvX11_layWritten : MIV yX11_layWritten 11 := ⟨(tin8 116 rfl rfl), (tinP 85 rfl rfl), TX11, 36, rfl⟩
theorem fdX11_27 : FD RX11 27 11 13 (.array .byte) := ⟨RX11, TX11, 36, rfl, in_X11, by decide, tin6 40 rfl rfl, by decide +kernel⟩
theorem fdX11_416 : FD RX11 416 11 33 .int := ⟨RX11, TX11, 36, rfl, in_X11, by decide, tin6 60 rfl rfl, by decide +kernel⟩
theorem fpX11_416 : FP RX11 416 11 33 .int false := ⟨RX11, TX11, 36, tyX11, rfl, in_X11, by decide, tin6 60 rfl rfl, by decide +kernel, tyX11_ok, nmX11, rfl, rfl⟩
theorem miX11_420 : MI RX11 420 yX11_draw cX11_draw 2 (some .int) 1 := ⟨(tin8 122 rfl rfl), w_1893, w_98, by decide +kernel⟩
theorem mvX11_draw : MIV yX11_draw 11 := ⟨(tin8 124 rfl rfl), (tinP 86 rfl rfl), TX11, 36, rfl⟩
theorem fdX11_70 : FD RX11 70 11 35 (.array .boolean) := ⟨RX11, TX11, 36, rfl, in_X11, by decide, tin6 62 rfl rfl, by decide +kernel⟩
theorem fdX11_67 : FD RX11 67 11 34 (.array .int) := ⟨RX11, TX11, 36, rfl, in_X11, by decide, tin6 61 rfl rfl, by decide +kernel⟩
theorem miX11_423 : MI RX11 423 yX11_sumOf cX11_sumOf 6 (some .int) 3 := ⟨(tin8 139 rfl rfl), w_1910, w_98, by decide +kernel⟩
theorem mvX11_sumOf : MIV yX11_sumOf 11 := ⟨(tin8 141 rfl rfl), (tinP 87 rfl rfl), TX11, 36, rfl⟩
