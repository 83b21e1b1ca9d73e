theorem mF_X1_9 : Cond.fieldLink RX1 9 "WordRows$Note" "width" "I" ∈ TBg := mem_TBg 144 (by decide +kernel) (by decide +kernel)
theorem mF_X1_15 : Cond.fieldLink RX1 15 "WordRows$Note" "length" "I" ∈ TBg := mem_TBg 146 (by decide +kernel) (by decide +kernel)
theorem mF_X1_18 : Cond.fieldLink RX1 18 "WordRows$Note" "isRest" "Z" ∈ TBg := mem_TBg 148 (by decide +kernel) (by decide +kernel)
theorem mF_X1_22 : Cond.fieldLink RX1 22 "WordRows$Note" "chordWidth" "I" ∈ TBg := mem_TBg 150 (by decide +kernel) (by decide +kernel)
theorem mF_X1_25 : Cond.fieldLink RX1 25 "WordRows$Note" "melismaFirst" "I" ∈ TBg := mem_TBg 152 (by decide +kernel) (by decide +kernel)
theorem mF_X1_28 : Cond.fieldLink RX1 28 "WordRows$Note" "melismaLast" "I" ∈ TBg := mem_TBg 154 (by decide +kernel) (by decide +kernel)
theorem mF_X1_31 : Cond.fieldLink RX1 31 "WordRows$Note" "refrainFirst" "I" ∈ TBg := mem_TBg 156 (by decide +kernel) (by decide +kernel)
theorem mF_X1_34 : Cond.fieldLink RX1 34 "WordRows$Note" "x" "I" ∈ TBg := mem_TBg 158 (by decide +kernel) (by decide +kernel)
theorem mF_X1_37 : Cond.fieldLink RX1 37 "WordRows$Note" "pushed" "I" ∈ TBg := mem_TBg 160 (by decide +kernel) (by decide +kernel)
theorem mM_X3_38 : Cond.methodLink RX3 38 yX3_isOutside ∈ TBg := mem_TBg 253 (by decide +kernel) (by decide +kernel)
theorem mC_X3_isOutside : Cond.code yX3_isOutside cX3_isOutside 3 (some .boolean) ∈ TBg := mem_TBg 255 (by decide +kernel) (by decide +kernel)
theorem mN_X3 : Cond.initialized RX3 ∈ TBg := mem_TBg 69 (by decide +kernel) (by decide +kernel)
theorem mT_X3_isOutside : Cond.static yX3_isOutside ∈ TBg := mem_TBg 254 (by decide +kernel) (by decide +kernel)
theorem mK_X3_42 : Cond.constant RX3 42 (-1000002) ∈ TBg := mem_TBg 256 (by decide +kernel) (by decide +kernel)
theorem mF_X3_43 : Cond.fieldLink RX3 43 "WordRows" "noteCount" "I" ∈ TBg := mem_TBg 225 (by decide +kernel) (by decide +kernel)
theorem mF_X3_11 : Cond.fieldLink RX3 11 "WordRows" "notes" "[LWordRows$Note;" ∈ TBg := mem_TBg 221 (by decide +kernel) (by decide +kernel)
theorem nM_X3_47 : Cond.methodLinkNest RX3 47 yX1_become "WordRows" ∈ nestW := mem_nest 190 (by decide +kernel) rfl
theorem mC_X1_become : Cond.code yX1_become cX1_become 4 none ∈ TBg := mem_TBg 261 (by decide +kernel) (by decide +kernel)
theorem mN_X1 : Cond.initialized RX1 ∈ TBg := mem_TBg 71 (by decide +kernel) (by decide +kernel)
theorem mI_X1_become : Cond.instanceMethod yX1_become ∈ TBg := mem_TBg 260 (by decide +kernel) (by decide +kernel)
theorem mS_X1_become : Cond.selects RX1 yX1_become yX1_become ∈ TBg := mem_TBg 0 (by decide +kernel) (by decide +kernel)
theorem mF_X3_51 : Cond.fieldLink RX3 51 "WordRows" "placed" "Z" ∈ TBg := mem_TBg 229 (by decide +kernel) (by decide +kernel)
theorem mK_X3_46 : Cond.constant RX3 46 (-1000004) ∈ TBg := mem_TBg 257 (by decide +kernel) (by decide +kernel)
theorem nF_X3_85 : Cond.fieldLinkNest RX3 85 "WordRows$Note" "melismaFirst" "I" "WordRows" ∈ nestW := mem_nest 85 (by decide +kernel) rfl
theorem nF_X3_230 : Cond.fieldLinkNest RX3 230 "WordRows$Note" "isRest" "Z" "WordRows" ∈ nestW := mem_nest 81 (by decide +kernel) rfl
theorem mM_X3_233 : Cond.methodLink RX3 233 yX3_isBehindMelismaFirst ∈ TBg := mem_TBg 278 (by decide +kernel) (by decide +kernel)
theorem mC_X3_isBehindMelismaFirst : Cond.code yX3_isBehindMelismaFirst cX3_isBehindMelismaFirst 2 (some .boolean) ∈ TBg := mem_TBg 281 (by decide +kernel) (by decide +kernel)
theorem mI_X3_isBehindMelismaFirst : Cond.instanceMethod yX3_isBehindMelismaFirst ∈ TBg := mem_TBg 280 (by decide +kernel) (by decide +kernel)
theorem mS_X3_isBehindMelismaFirst : Cond.selects RX3 yX3_isBehindMelismaFirst yX3_isBehindMelismaFirst ∈ TBg := mem_TBg 3 (by decide +kernel) (by decide +kernel)
theorem nF_X3_100 : Cond.fieldLinkNest RX3 100 "WordRows$Note" "refrainFirst" "I" "WordRows" ∈ nestW := mem_nest 89 (by decide +kernel) rfl
theorem mF_X2_9 : Cond.fieldLink RX2 9 "WordRows$Verse" "counts" "[I" ∈ TBg := mem_TBg 186 (by decide +kernel) (by decide +kernel)
theorem mF_X2_15 : Cond.fieldLink RX2 15 "WordRows$Verse" "widths" "[I" ∈ TBg := mem_TBg 188 (by decide +kernel) (by decide +kernel)
theorem mF_X2_18 : Cond.fieldLink RX2 18 "WordRows$Verse" "vowels" "[I" ∈ TBg := mem_TBg 189 (by decide +kernel) (by decide +kernel)
theorem mF_X2_21 : Cond.fieldLink RX2 21 "WordRows$Verse" "goings" "[Z" ∈ TBg := mem_TBg 190 (by decide +kernel) (by decide +kernel)
theorem mF_X2_32 : Cond.fieldLink RX2 32 "WordRows$Verse" "syllableCount" "I" ∈ TBg := mem_TBg 193 (by decide +kernel) (by decide +kernel)
theorem mM_X3_55 : Cond.methodLink RX3 55 yX3_isNote ∈ TBg := mem_TBg 266 (by decide +kernel) (by decide +kernel)
theorem mC_X3_isNote : Cond.code yX3_isNote cX3_isNote 2 (some .boolean) ∈ TBg := mem_TBg 269 (by decide +kernel) (by decide +kernel)
theorem mI_X3_isNote : Cond.instanceMethod yX3_isNote ∈ TBg := mem_TBg 268 (by decide +kernel) (by decide +kernel)
theorem mS_X3_isNote : Cond.selects RX3 yX3_isNote yX3_isNote ∈ TBg := mem_TBg 1 (by decide +kernel) (by decide +kernel)
theorem mK_X3_62 : Cond.constant RX3 62 (-1000001) ∈ TBg := mem_TBg 273 (by decide +kernel) (by decide +kernel)
theorem mM_X3_59 : Cond.methodLink RX3 59 yX3_isVerse ∈ TBg := mem_TBg 270 (by decide +kernel) (by decide +kernel)
theorem mC_X3_isVerse : Cond.code yX3_isVerse cX3_isVerse 1 (some .boolean) ∈ TBg := mem_TBg 272 (by decide +kernel) (by decide +kernel)
theorem mT_X3_isVerse : Cond.static yX3_isVerse ∈ TBg := mem_TBg 271 (by decide +kernel) (by decide +kernel)
theorem mM_X3_63 : Cond.methodLink RX3 63 yX3_maySing ∈ TBg := mem_TBg 274 (by decide +kernel) (by decide +kernel)
theorem mC_X3_maySing : Cond.code yX3_maySing cX3_maySing 4 (some .boolean) ∈ TBg := mem_TBg 277 (by decide +kernel) (by decide +kernel)
theorem mI_X3_maySing : Cond.instanceMethod yX3_maySing ∈ TBg := mem_TBg 276 (by decide +kernel) (by decide +kernel)
theorem mS_X3_maySing : Cond.selects RX3 yX3_maySing yX3_maySing ∈ TBg := mem_TBg 2 (by decide +kernel) (by decide +kernel)
theorem mF_X3_17 : Cond.fieldLink RX3 17 "WordRows" "verses" "[LWordRows$Verse;" ∈ TBg := mem_TBg 222 (by decide +kernel) (by decide +kernel)
theorem nF_X3_68 : Cond.fieldLinkNest RX3 68 "WordRows$Verse" "counts" "[I" "WordRows" ∈ nestW := mem_nest 119 (by decide +kernel) rfl
theorem nM_X3_71 : Cond.methodLinkNest RX3 71 yX2_addSyllable "WordRows" ∈ nestW := mem_nest 215 (by decide +kernel) rfl
theorem mC_X2_addSyllable : Cond.code yX2_addSyllable cX2_addSyllable 6 (some .int) ∈ TBg := mem_TBg 286 (by decide +kernel) (by decide +kernel)
theorem mN_X2 : Cond.initialized RX2 ∈ TBg := mem_TBg 72 (by decide +kernel) (by decide +kernel)
theorem mI_X2_addSyllable : Cond.instanceMethod yX2_addSyllable ∈ TBg := mem_TBg 285 (by decide +kernel) (by decide +kernel)
theorem mS_X2_addSyllable : Cond.selects RX2 yX2_addSyllable yX2_addSyllable ∈ TBg := mem_TBg 4 (by decide +kernel) (by decide +kernel)
theorem mK_X3_67 : Cond.constant RX3 67 (-1000003) ∈ TBg := mem_TBg 282 (by decide +kernel) (by decide +kernel)
theorem nM_X3_75 : Cond.methodLinkNest RX3 75 yX2_removeSyllables "WordRows" ∈ nestW := mem_nest 223 (by decide +kernel) rfl
theorem mC_X2_removeSyllables : Cond.code yX2_removeSyllables cX2_removeSyllables 3 (some .int) ∈ TBg := mem_TBg 294 (by decide +kernel) (by decide +kernel)
theorem mI_X2_removeSyllables : Cond.instanceMethod yX2_removeSyllables ∈ TBg := mem_TBg 293 (by decide +kernel) (by decide +kernel)
theorem mS_X2_removeSyllables : Cond.selects RX2 yX2_removeSyllables yX2_removeSyllables ∈ TBg := mem_TBg 5 (by decide +kernel) (by decide +kernel)
theorem nF_X3_79 : Cond.fieldLinkNest RX3 79 "WordRows$Note" "chordWidth" "I" "WordRows" ∈ nestW := mem_nest 83 (by decide +kernel) rfl
theorem nM_X3_173 : Cond.methodLinkNest RX3 173 yX2_hasBox "WordRows" ∈ nestW := mem_nest 243 (by decide +kernel) rfl
theorem mC_X2_hasBox : Cond.code yX2_hasBox cX2_hasBox 2 (some .boolean) ∈ TBg := mem_TBg 314 (by decide +kernel) (by decide +kernel)
theorem mI_X2_hasBox : Cond.instanceMethod yX2_hasBox ∈ TBg := mem_TBg 313 (by decide +kernel) (by decide +kernel)
theorem mS_X2_hasBox : Cond.selects RX2 yX2_hasBox yX2_hasBox ∈ TBg := mem_TBg 8 (by decide +kernel) (by decide +kernel)
theorem mM_X3_236 : Cond.methodLink RX3 236 yX3_hasBoxFrom ∈ TBg := mem_TBg 307 (by decide +kernel) (by decide +kernel)
theorem mC_X3_hasBoxFrom : Cond.code yX3_hasBoxFrom cX3_hasBoxFrom 4 (some .boolean) ∈ TBg := mem_TBg 310 (by decide +kernel) (by decide +kernel)
theorem mI_X3_hasBoxFrom : Cond.instanceMethod yX3_hasBoxFrom ∈ TBg := mem_TBg 309 (by decide +kernel) (by decide +kernel)
theorem mS_X3_hasBoxFrom : Cond.selects RX3 yX3_hasBoxFrom yX3_hasBoxFrom ∈ TBg := mem_TBg 7 (by decide +kernel) (by decide +kernel)
theorem mM_X3_82 : Cond.methodLink RX3 82 yX3_mayBeMelisma ∈ TBg := mem_TBg 303 (by decide +kernel) (by decide +kernel)
theorem mC_X3_mayBeMelisma : Cond.code yX3_mayBeMelisma cX3_mayBeMelisma 4 (some .boolean) ∈ TBg := mem_TBg 306 (by decide +kernel) (by decide +kernel)
theorem mI_X3_mayBeMelisma : Cond.instanceMethod yX3_mayBeMelisma ∈ TBg := mem_TBg 305 (by decide +kernel) (by decide +kernel)
theorem mS_X3_mayBeMelisma : Cond.selects RX3 yX3_mayBeMelisma yX3_mayBeMelisma ∈ TBg := mem_TBg 6 (by decide +kernel) (by decide +kernel)
theorem mF_X3_91 : Cond.fieldLink RX3 91 "WordRows" "melismaCount" "I" ∈ TBg := mem_TBg 226 (by decide +kernel) (by decide +kernel)
theorem nF_X3_88 : Cond.fieldLinkNest RX3 88 "WordRows$Note" "melismaLast" "I" "WordRows" ∈ nestW := mem_nest 87 (by decide +kernel) rfl
theorem mM_X3_94 : Cond.methodLink RX3 94 yX3_mayBeRefrain ∈ TBg := mem_TBg 319 (by decide +kernel) (by decide +kernel)
theorem mC_X3_mayBeRefrain : Cond.code yX3_mayBeRefrain cX3_mayBeRefrain 4 (some .boolean) ∈ TBg := mem_TBg 322 (by decide +kernel) (by decide +kernel)
theorem mI_X3_mayBeRefrain : Cond.instanceMethod yX3_mayBeRefrain ∈ TBg := mem_TBg 321 (by decide +kernel) (by decide +kernel)
theorem mS_X3_mayBeRefrain : Cond.selects RX3 yX3_mayBeRefrain yX3_mayBeRefrain ∈ TBg := mem_TBg 9 (by decide +kernel) (by decide +kernel)
theorem mF_X3_97 : Cond.fieldLink RX3 97 "WordRows" "refrainCount" "I" ∈ TBg := mem_TBg 227 (by decide +kernel) (by decide +kernel)
theorem nF_X3_103 : Cond.fieldLinkNest RX3 103 "WordRows$Verse" "way" "I" "WordRows" ∈ nestW := mem_nest 128 (by decide +kernel) rfl
theorem nF_X3_106 : Cond.fieldLinkNest RX3 106 "WordRows$Verse" "isTranslation" "Z" "WordRows" ∈ nestW := mem_nest 130 (by decide +kernel) rfl
theorem mM_X3_109 : Cond.methodLink RX3 109 yX3_asNumber ∈ TBg := mem_TBg 331 (by decide +kernel) (by decide +kernel)
theorem mC_X3_asNumber : Cond.code yX3_asNumber cX3_asNumber 1 (some .int) ∈ TBg := mem_TBg 333 (by decide +kernel) (by decide +kernel)
theorem mT_X3_asNumber : Cond.static yX3_asNumber ∈ TBg := mem_TBg 332 (by decide +kernel) (by decide +kernel)
theorem mF_X3_32 : Cond.fieldLink RX3 32 "WordRows" "widthLimit" "I" ∈ TBg := mem_TBg 228 (by decide +kernel) (by decide +kernel)
theorem mM_X2_39 : Cond.methodLink RX2 39 yX2_isTied ∈ TBg := mem_TBg 358 (by decide +kernel) (by decide +kernel)
theorem mC_X2_isTied : Cond.code yX2_isTied cX2_isTied 2 (some .boolean) ∈ TBg := mem_TBg 361 (by decide +kernel) (by decide +kernel)
theorem mI_X2_isTied : Cond.instanceMethod yX2_isTied ∈ TBg := mem_TBg 360 (by decide +kernel) (by decide +kernel)
theorem mS_X2_isTied : Cond.selects RX2 yX2_isTied yX2_isTied ∈ TBg := mem_TBg 14 (by decide +kernel) (by decide +kernel)
theorem mF_X2_28 : Cond.fieldLink RX2 28 "WordRows$Verse" "way" "I" ∈ TBg := mem_TBg 195 (by decide +kernel) (by decide +kernel)
theorem mM_X2_43 : Cond.methodLink RX2 43 yX2_boxWidth ∈ TBg := mem_TBg 354 (by decide +kernel) (by decide +kernel)
theorem mC_X2_boxWidth : Cond.code yX2_boxWidth cX2_boxWidth 3 (some .int) ∈ TBg := mem_TBg 357 (by decide +kernel) (by decide +kernel)
theorem mI_X2_boxWidth : Cond.instanceMethod yX2_boxWidth ∈ TBg := mem_TBg 356 (by decide +kernel) (by decide +kernel)
theorem mS_X2_boxWidth : Cond.selects RX2 yX2_boxWidth yX2_boxWidth ∈ TBg := mem_TBg 13 (by decide +kernel) (by decide +kernel)
theorem nF_X3_239 : Cond.fieldLinkNest RX3 239 "WordRows$Verse" "freeFrom" "I" "WordRows" ∈ nestW := mem_nest 132 (by decide +kernel) rfl
theorem nM_X3_257 : Cond.methodLinkNest RX3 257 yX2_offset "WordRows" ∈ nestW := mem_nest 282 (by decide +kernel) rfl
theorem mC_X2_offset : Cond.code yX2_offset cX2_offset 2 (some .int) ∈ TBg := mem_TBg 353 (by decide +kernel) (by decide +kernel)
theorem mI_X2_offset : Cond.instanceMethod yX2_offset ∈ TBg := mem_TBg 352 (by decide +kernel) (by decide +kernel)
theorem mS_X2_offset : Cond.selects RX2 yX2_offset yX2_offset ∈ TBg := mem_TBg 12 (by decide +kernel) (by decide +kernel)
theorem mM_X3_117 : Cond.methodLink RX3 117 Lib.Math.max.name ∈ TBg := mem_TBg 362 (by decide +kernel) (by decide +kernel)
theorem mT_Math_max : Cond.static Lib.Math.max.name ∈ TBg := mem_TBg 363 (by decide +kernel) (by decide +kernel)
theorem mN_Math : Cond.initialized "java/lang/Math" ∈ TBg := mem_TBg 74 (by decide +kernel) (by decide +kernel)
theorem mC_Math_max : Cond.code Lib.Math.max.name Lib.Math.max.code 2 (some .int) ∈ TBg := mem_TBg 364 (by decide +kernel) (by decide +kernel)
theorem mF_X2_25 : Cond.fieldLink RX2 25 "WordRows$Verse" "begins" "[I" ∈ TBg := mem_TBg 191 (by decide +kernel) (by decide +kernel)
theorem mF_X2_47 : Cond.fieldLink RX2 47 "WordRows$Verse" "freeFrom" "I" ∈ TBg := mem_TBg 199 (by decide +kernel) (by decide +kernel)
theorem mM_X2_50 : Cond.methodLink RX2 50 yX2_offset ∈ TBg := mem_TBg 373 (by decide +kernel) (by decide +kernel)
theorem mM_X2_53 : Cond.methodLink RX2 53 Lib.Math.max.name ∈ TBg := mem_TBg 374 (by decide +kernel) (by decide +kernel)
theorem mM_X2_59 : Cond.methodLink RX2 59 yX2_boxEnd ∈ TBg := mem_TBg 375 (by decide +kernel) (by decide +kernel)
theorem mC_X2_boxEnd : Cond.code yX2_boxEnd cX2_boxEnd 2 (some .int) ∈ TBg := mem_TBg 378 (by decide +kernel) (by decide +kernel)
theorem mI_X2_boxEnd : Cond.instanceMethod yX2_boxEnd ∈ TBg := mem_TBg 377 (by decide +kernel) (by decide +kernel)
theorem mS_X2_boxEnd : Cond.selects RX2 yX2_boxEnd yX2_boxEnd ∈ TBg := mem_TBg 17 (by decide +kernel) (by decide +kernel)
theorem mM_X2_62 : Cond.methodLink RX2 62 yX2_isGoingOn ∈ TBg := mem_TBg 379 (by decide +kernel) (by decide +kernel)
theorem mC_X2_isGoingOn : Cond.code yX2_isGoingOn cX2_isGoingOn 3 (some .boolean) ∈ TBg := mem_TBg 382 (by decide +kernel) (by decide +kernel)
theorem mI_X2_isGoingOn : Cond.instanceMethod yX2_isGoingOn ∈ TBg := mem_TBg 381 (by decide +kernel) (by decide +kernel)
theorem mS_X2_isGoingOn : Cond.selects RX2 yX2_isGoingOn yX2_isGoingOn ∈ TBg := mem_TBg 18 (by decide +kernel) (by decide +kernel)
theorem nF_X3_123 : Cond.fieldLinkNest RX3 123 "WordRows$Note" "x" "I" "WordRows" ∈ nestW := mem_nest 91 (by decide +kernel) rfl
theorem nM_X3_260 : Cond.methodLinkNest RX3 260 yX2_placeBox "WordRows" ∈ nestW := mem_nest 301 (by decide +kernel) rfl
theorem mC_X2_placeBox : Cond.code yX2_placeBox cX2_placeBox 4 (some .int) ∈ TBg := mem_TBg 372 (by decide +kernel) (by decide +kernel)
theorem mI_X2_placeBox : Cond.instanceMethod yX2_placeBox ∈ TBg := mem_TBg 371 (by decide +kernel) (by decide +kernel)
theorem mS_X2_placeBox : Cond.selects RX2 yX2_placeBox yX2_placeBox ∈ TBg := mem_TBg 16 (by decide +kernel) (by decide +kernel)
theorem nM_X3_254 : Cond.methodLinkNest RX3 254 yX1_end "WordRows" ∈ nestW := mem_nest 315 (by decide +kernel) rfl
theorem mC_X1_end : Cond.code yX1_end cX1_end 1 (some .int) ∈ TBg := mem_TBg 386 (by decide +kernel) (by decide +kernel)
theorem mI_X1_end : Cond.instanceMethod yX1_end ∈ TBg := mem_TBg 385 (by decide +kernel) (by decide +kernel)
theorem mS_X1_end : Cond.selects RX1 yX1_end yX1_end ∈ TBg := mem_TBg 19 (by decide +kernel) (by decide +kernel)
theorem mM_X3_242 : Cond.methodLink RX3 242 yX3_leastForBoxes ∈ TBg := mem_TBg 346 (by decide +kernel) (by decide +kernel)
theorem mC_X3_leastForBoxes : Cond.code yX3_leastForBoxes cX3_leastForBoxes 5 (some .int) ∈ TBg := mem_TBg 349 (by decide +kernel) (by decide +kernel)
theorem mI_X3_leastForBoxes : Cond.instanceMethod yX3_leastForBoxes ∈ TBg := mem_TBg 348 (by decide +kernel) (by decide +kernel)
theorem mS_X3_leastForBoxes : Cond.selects RX3 yX3_leastForBoxes yX3_leastForBoxes ∈ TBg := mem_TBg 11 (by decide +kernel) (by decide +kernel)
theorem nF_X3_126 : Cond.fieldLinkNest RX3 126 "WordRows$Note" "pushed" "I" "WordRows" ∈ nestW := mem_nest 93 (by decide +kernel) rfl
theorem nF_X3_245 : Cond.fieldLinkNest RX3 245 "WordRows$Note" "width" "I" "WordRows" ∈ nestW := mem_nest 77 (by decide +kernel) rfl
theorem nF_X3_248 : Cond.fieldLinkNest RX3 248 "WordRows$Note" "length" "I" "WordRows" ∈ nestW := mem_nest 79 (by decide +kernel) rfl
theorem mM_X3_251 : Cond.methodLink RX3 251 yX3_placeBoxes ∈ TBg := mem_TBg 365 (by decide +kernel) (by decide +kernel)
theorem mC_X3_placeBoxes : Cond.code yX3_placeBoxes cX3_placeBoxes 4 (some .int) ∈ TBg := mem_TBg 368 (by decide +kernel) (by decide +kernel)
theorem mI_X3_placeBoxes : Cond.instanceMethod yX3_placeBoxes ∈ TBg := mem_TBg 367 (by decide +kernel) (by decide +kernel)
theorem mS_X3_placeBoxes : Cond.selects RX3 yX3_placeBoxes yX3_placeBoxes ∈ TBg := mem_TBg 15 (by decide +kernel) (by decide +kernel)
theorem mM_X3_113 : Cond.methodLink RX3 113 yX3_placeNotes ∈ TBg := mem_TBg 342 (by decide +kernel) (by decide +kernel)
theorem mC_X3_placeNotes : Cond.code yX3_placeNotes cX3_placeNotes 6 (some .int) ∈ TBg := mem_TBg 345 (by decide +kernel) (by decide +kernel)
theorem mI_X3_placeNotes : Cond.instanceMethod yX3_placeNotes ∈ TBg := mem_TBg 344 (by decide +kernel) (by decide +kernel)
theorem mS_X3_placeNotes : Cond.selects RX3 yX3_placeNotes yX3_placeNotes ∈ TBg := mem_TBg 10 (by decide +kernel) (by decide +kernel)
theorem mM_X3_129 : Cond.methodLink RX3 129 yX3_isBox ∈ TBg := mem_TBg 395 (by decide +kernel) (by decide +kernel)
theorem mC_X3_isBox : Cond.code yX3_isBox cX3_isBox 3 (some .boolean) ∈ TBg := mem_TBg 398 (by decide +kernel) (by decide +kernel)
theorem mI_X3_isBox : Cond.instanceMethod yX3_isBox ∈ TBg := mem_TBg 397 (by decide +kernel) (by decide +kernel)
theorem mS_X3_isBox : Cond.selects RX3 yX3_isBox yX3_isBox ∈ TBg := mem_TBg 20 (by decide +kernel) (by decide +kernel)
theorem nF_X3_132 : Cond.fieldLinkNest RX3 132 "WordRows$Verse" "begins" "[I" "WordRows" ∈ nestW := mem_nest 124 (by decide +kernel) rfl
theorem nM_X3_135 : Cond.methodLinkNest RX3 135 yX2_boxWidth "WordRows" ∈ nestW := mem_nest 331 (by decide +kernel) rfl
theorem nM_X3_138 : Cond.methodLinkNest RX3 138 yX2_isTied "WordRows" ∈ nestW := mem_nest 332 (by decide +kernel) rfl
theorem nM_X3_141 : Cond.methodLinkNest RX3 141 yX2_boxEnd "WordRows" ∈ nestW := mem_nest 333 (by decide +kernel) rfl
theorem mM_X2_65 : Cond.methodLink RX2 65 yX2_hasBox ∈ TBg := mem_TBg 414 (by decide +kernel) (by decide +kernel)
theorem mM_X2_68 : Cond.methodLink RX2 68 yX2_nextBox ∈ TBg := mem_TBg 410 (by decide +kernel) (by decide +kernel)
theorem mC_X2_nextBox : Cond.code yX2_nextBox cX2_nextBox 3 (some .int) ∈ TBg := mem_TBg 413 (by decide +kernel) (by decide +kernel)
theorem mI_X2_nextBox : Cond.instanceMethod yX2_nextBox ∈ TBg := mem_TBg 412 (by decide +kernel) (by decide +kernel)
theorem mS_X2_nextBox : Cond.selects RX2 yX2_nextBox yX2_nextBox ∈ TBg := mem_TBg 22 (by decide +kernel) (by decide +kernel)
theorem nM_X3_144 : Cond.methodLinkNest RX3 144 yX2_hyphenRoom "WordRows" ∈ nestW := mem_nest 338 (by decide +kernel) rfl
theorem mC_X2_hyphenRoom : Cond.code yX2_hyphenRoom cX2_hyphenRoom 3 (some .int) ∈ TBg := mem_TBg 409 (by decide +kernel) (by decide +kernel)
theorem mI_X2_hyphenRoom : Cond.instanceMethod yX2_hyphenRoom ∈ TBg := mem_TBg 408 (by decide +kernel) (by decide +kernel)
theorem mS_X2_hyphenRoom : Cond.selects RX2 yX2_hyphenRoom yX2_hyphenRoom ∈ TBg := mem_TBg 21 (by decide +kernel) (by decide +kernel)
theorem mM_X3_147 : Cond.methodLink RX3 147 yX3_hyphensIn ∈ TBg := mem_TBg 415 (by decide +kernel) (by decide +kernel)
theorem mC_X3_hyphensIn : Cond.code yX3_hyphensIn cX3_hyphensIn 1 (some .int) ∈ TBg := mem_TBg 417 (by decide +kernel) (by decide +kernel)
theorem mT_X3_hyphensIn : Cond.static yX3_hyphensIn ∈ TBg := mem_TBg 416 (by decide +kernel) (by decide +kernel)
theorem nM_X3_263 : Cond.methodLinkNest RX3 263 yX2_nextBox "WordRows" ∈ nestW := mem_nest 360 (by decide +kernel) rfl
theorem mM_X3_266 : Cond.methodLink RX3 266 Lib.Math.min.name ∈ TBg := mem_TBg 429 (by decide +kernel) (by decide +kernel)
theorem mT_Math_min : Cond.static Lib.Math.min.name ∈ TBg := mem_TBg 430 (by decide +kernel) (by decide +kernel)
theorem mC_Math_min : Cond.code Lib.Math.min.name Lib.Math.min.code 2 (some .int) ∈ TBg := mem_TBg 431 (by decide +kernel) (by decide +kernel)
theorem mK_X3_160 : Cond.constant RX3 160 (-1000009) ∈ TBg := mem_TBg 423 (by decide +kernel) (by decide +kernel)
theorem nM_X3_157 : Cond.methodLinkNest RX3 157 yX2_isGoingOn "WordRows" ∈ nestW := mem_nest 354 (by decide +kernel) rfl
theorem mM_X3_161 : Cond.methodLink RX3 161 yX3_lineEnd ∈ TBg := mem_TBg 424 (by decide +kernel) (by decide +kernel)
theorem mC_X3_lineEnd : Cond.code yX3_lineEnd cX3_lineEnd 5 (some .int) ∈ TBg := mem_TBg 427 (by decide +kernel) (by decide +kernel)
theorem mI_X3_lineEnd : Cond.instanceMethod yX3_lineEnd ∈ TBg := mem_TBg 426 (by decide +kernel) (by decide +kernel)
theorem mS_X3_lineEnd : Cond.selects RX3 yX3_lineEnd yX3_lineEnd ∈ TBg := mem_TBg 23 (by decide +kernel) (by decide +kernel)
theorem nM_X3_269 : Cond.methodLinkNest RX3 269 yX2_lastBox "WordRows" ∈ nestW := mem_nest 372 (by decide +kernel) rfl
theorem mC_X2_lastBox : Cond.code yX2_lastBox cX2_lastBox 2 (some .int) ∈ TBg := mem_TBg 443 (by decide +kernel) (by decide +kernel)
theorem mI_X2_lastBox : Cond.instanceMethod yX2_lastBox ∈ TBg := mem_TBg 442 (by decide +kernel) (by decide +kernel)
theorem mS_X2_lastBox : Cond.selects RX2 yX2_lastBox yX2_lastBox ∈ TBg := mem_TBg 25 (by decide +kernel) (by decide +kernel)
theorem mM_X3_272 : Cond.methodLink RX3 272 yX3_isFault ∈ TBg := mem_TBg 444 (by decide +kernel) (by decide +kernel)
theorem mC_X3_isFault : Cond.code yX3_isFault cX3_isFault 5 (some .boolean) ∈ TBg := mem_TBg 447 (by decide +kernel) (by decide +kernel)
theorem mI_X3_isFault : Cond.instanceMethod yX3_isFault ∈ TBg := mem_TBg 446 (by decide +kernel) (by decide +kernel)
theorem mS_X3_isFault : Cond.selects RX3 yX3_isFault yX3_isFault ∈ TBg := mem_TBg 26 (by decide +kernel) (by decide +kernel)
theorem mF_X3_28 : Cond.fieldLink RX3 28 "WordRows" "faultPlaces" "[I" ∈ TBg := mem_TBg 224 (by decide +kernel) (by decide +kernel)
theorem mM_X3_170 : Cond.methodLink RX3 170 yX3_listFaults ∈ TBg := mem_TBg 436 (by decide +kernel) (by decide +kernel)
theorem mC_X3_listFaults : Cond.code yX3_listFaults cX3_listFaults 5 (some .int) ∈ TBg := mem_TBg 439 (by decide +kernel) (by decide +kernel)
theorem mI_X3_listFaults : Cond.instanceMethod yX3_listFaults ∈ TBg := mem_TBg 438 (by decide +kernel) (by decide +kernel)
theorem mS_X3_listFaults : Cond.selects RX3 yX3_listFaults yX3_listFaults ∈ TBg := mem_TBg 24 (by decide +kernel) (by decide +kernel)
theorem nM_X3_179 : Cond.methodLinkNest RX3 179 yX2_hasBoxes "WordRows" ∈ nestW := mem_nest 396 (by decide +kernel) rfl
theorem mC_X2_hasBoxes : Cond.code yX2_hasBoxes cX2_hasBoxes 1 (some .boolean) ∈ TBg := mem_TBg 467 (by decide +kernel) (by decide +kernel)
theorem mI_X2_hasBoxes : Cond.instanceMethod yX2_hasBoxes ∈ TBg := mem_TBg 466 (by decide +kernel) (by decide +kernel)
theorem mS_X2_hasBoxes : Cond.selects RX2 yX2_hasBoxes yX2_hasBoxes ∈ TBg := mem_TBg 29 (by decide +kernel) (by decide +kernel)
theorem nM_X3_279 : Cond.methodLinkNest RX3 279 yX2_hasSameSyllables "WordRows" ∈ nestW := mem_nest 400 (by decide +kernel) rfl
theorem mC_X2_hasSameSyllables : Cond.code yX2_hasSameSyllables cX2_hasSameSyllables 5 (some .boolean) ∈ TBg := mem_TBg 471 (by decide +kernel) (by decide +kernel)
theorem mI_X2_hasSameSyllables : Cond.instanceMethod yX2_hasSameSyllables ∈ TBg := mem_TBg 470 (by decide +kernel) (by decide +kernel)
theorem mS_X2_hasSameSyllables : Cond.selects RX2 yX2_hasSameSyllables yX2_hasSameSyllables ∈ TBg := mem_TBg 30 (by decide +kernel) (by decide +kernel)
theorem mM_X3_275 : Cond.methodLink RX3 275 yX3_areAlike ∈ TBg := mem_TBg 460 (by decide +kernel) (by decide +kernel)
theorem mC_X3_areAlike : Cond.code yX3_areAlike cX3_areAlike 4 (some .boolean) ∈ TBg := mem_TBg 463 (by decide +kernel) (by decide +kernel)
theorem mI_X3_areAlike : Cond.instanceMethod yX3_areAlike ∈ TBg := mem_TBg 462 (by decide +kernel) (by decide +kernel)
theorem mS_X3_areAlike : Cond.selects RX3 yX3_areAlike yX3_areAlike ∈ TBg := mem_TBg 28 (by decide +kernel) (by decide +kernel)
theorem mM_X3_176 : Cond.methodLink RX3 176 yX3_sharedVerse ∈ TBg := mem_TBg 456 (by decide +kernel) (by decide +kernel)
theorem mC_X3_sharedVerse : Cond.code yX3_sharedVerse cX3_sharedVerse 3 (some .int) ∈ TBg := mem_TBg 459 (by decide +kernel) (by decide +kernel)
theorem mI_X3_sharedVerse : Cond.instanceMethod yX3_sharedVerse ∈ TBg := mem_TBg 458 (by decide +kernel) (by decide +kernel)
theorem mS_X3_sharedVerse : Cond.selects RX3 yX3_sharedVerse yX3_sharedVerse ∈ TBg := mem_TBg 27 (by decide +kernel) (by decide +kernel)
theorem mM_X0_46 : Cond.methodLink RX0 46 yX0_signAt ∈ TBg := mem_TBg 487 (by decide +kernel) (by decide +kernel)
theorem mC_X0_signAt : Cond.code yX0_signAt cX0_signAt 3 (some .int) ∈ TBg := mem_TBg 489 (by decide +kernel) (by decide +kernel)
theorem mN_X0 : Cond.initialized RX0 ∈ TBg := mem_TBg 70 (by decide +kernel) (by decide +kernel)
theorem mT_X0_signAt : Cond.static yX0_signAt ∈ TBg := mem_TBg 488 (by decide +kernel) (by decide +kernel)
theorem mM_X0_50 : Cond.methodLink RX0 50 yX0_areSigns ∈ TBg := mem_TBg 490 (by decide +kernel) (by decide +kernel)
theorem mC_X0_areSigns : Cond.code yX0_areSigns cX0_areSigns 7 (some .boolean) ∈ TBg := mem_TBg 492 (by decide +kernel) (by decide +kernel)
theorem mT_X0_areSigns : Cond.static yX0_areSigns ∈ TBg := mem_TBg 491 (by decide +kernel) (by decide +kernel)
theorem mF_X0_9 : Cond.fieldLink RX0 9 "WordRows$Cutter" "patternSigns" "[I" ∈ TBg := mem_TBg 100 (by decide +kernel) (by decide +kernel)
theorem mF_X0_37 : Cond.fieldLink RX0 37 "WordRows$Cutter" "patternCount" "I" ∈ TBg := mem_TBg 103 (by decide +kernel) (by decide +kernel)
theorem mF_X0_15 : Cond.fieldLink RX0 15 "WordRows$Cutter" "patternLengths" "[I" ∈ TBg := mem_TBg 101 (by decide +kernel) (by decide +kernel)
theorem mF_X0_18 : Cond.fieldLink RX0 18 "WordRows$Cutter" "patternValues" "[I" ∈ TBg := mem_TBg 102 (by decide +kernel) (by decide +kernel)
theorem nM_X3_183 : Cond.methodLinkNest RX3 183 yX0_signCount "WordRows" ∈ nestW := mem_nest 416 (by decide +kernel) rfl
theorem mC_X0_signCount : Cond.code yX0_signCount cX0_signCount 4 (some .int) ∈ TBg := mem_TBg 486 (by decide +kernel) (by decide +kernel)
theorem mT_X0_signCount : Cond.static yX0_signCount ∈ TBg := mem_TBg 485 (by decide +kernel) (by decide +kernel)
theorem nM_X3_187 : Cond.methodLinkNest RX3 187 yX0_areValuesFor "WordRows" ∈ nestW := mem_nest 425 (by decide +kernel) rfl
theorem mC_X0_areValuesFor : Cond.code yX0_areValuesFor cX0_areValuesFor 4 (some .boolean) ∈ TBg := mem_TBg 495 (by decide +kernel) (by decide +kernel)
theorem mT_X0_areValuesFor : Cond.static yX0_areValuesFor ∈ TBg := mem_TBg 494 (by decide +kernel) (by decide +kernel)
theorem mF_X3_24 : Cond.fieldLink RX3 24 "WordRows" "cutter" "LWordRows$Cutter;" ∈ TBg := mem_TBg 223 (by decide +kernel) (by decide +kernel)
theorem nF_X3_190 : Cond.fieldLinkNest RX3 190 "WordRows$Cutter" "patternCount" "I" "WordRows" ∈ nestW := mem_nest 36 (by decide +kernel) rfl
theorem nM_X3_193 : Cond.methodLinkNest RX3 193 yX0_addPattern "WordRows" ∈ nestW := mem_nest 428 (by decide +kernel) rfl
theorem mC_X0_addPattern : Cond.code yX0_addPattern cX0_addPattern 4 (some .int) ∈ TBg := mem_TBg 499 (by decide +kernel) (by decide +kernel)
theorem mI_X0_addPattern : Cond.instanceMethod yX0_addPattern ∈ TBg := mem_TBg 498 (by decide +kernel) (by decide +kernel)
theorem mS_X0_addPattern : Cond.selects RX0 yX0_addPattern yX0_addPattern ∈ TBg := mem_TBg 31 (by decide +kernel) (by decide +kernel)
theorem mF_X0_40 : Cond.fieldLink RX0 40 "WordRows$Cutter" "letterCount" "I" ∈ TBg := mem_TBg 106 (by decide +kernel) (by decide +kernel)
theorem mF_X0_21 : Cond.fieldLink RX0 21 "WordRows$Cutter" "framed" "[I" ∈ TBg := mem_TBg 105 (by decide +kernel) (by decide +kernel)
theorem nF_X3_197 : Cond.fieldLinkNest RX3 197 "WordRows$Cutter" "letterCount" "I" "WordRows" ∈ nestW := mem_nest 39 (by decide +kernel) rfl
theorem nM_X3_200 : Cond.methodLinkNest RX3 200 yX0_addLetter "WordRows" ∈ nestW := mem_nest 436 (by decide +kernel) rfl
theorem mC_X0_addLetter : Cond.code yX0_addLetter cX0_addLetter 2 (some .int) ∈ TBg := mem_TBg 507 (by decide +kernel) (by decide +kernel)
theorem mI_X0_addLetter : Cond.instanceMethod yX0_addLetter ∈ TBg := mem_TBg 506 (by decide +kernel) (by decide +kernel)
theorem mS_X0_addLetter : Cond.selects RX0 yX0_addLetter yX0_addLetter ∈ TBg := mem_TBg 32 (by decide +kernel) (by decide +kernel)
theorem mF_X0_27 : Cond.fieldLink RX0 27 "WordRows$Cutter" "leastAhead" "I" ∈ TBg := mem_TBg 109 (by decide +kernel) (by decide +kernel)
theorem mF_X0_31 : Cond.fieldLink RX0 31 "WordRows$Cutter" "leastBehind" "I" ∈ TBg := mem_TBg 110 (by decide +kernel) (by decide +kernel)
theorem nM_X3_206 : Cond.methodLinkNest RX3 206 yX0_changeBehind "WordRows" ∈ nestW := mem_nest 448 (by decide +kernel) rfl
theorem mC_X0_changeBehind : Cond.code yX0_changeBehind cX0_changeBehind 3 (some .int) ∈ TBg := mem_TBg 519 (by decide +kernel) (by decide +kernel)
theorem mI_X0_changeBehind : Cond.instanceMethod yX0_changeBehind ∈ TBg := mem_TBg 518 (by decide +kernel) (by decide +kernel)
theorem mS_X0_changeBehind : Cond.selects RX0 yX0_changeBehind yX0_changeBehind ∈ TBg := mem_TBg 34 (by decide +kernel) (by decide +kernel)
theorem nM_X3_203 : Cond.methodLinkNest RX3 203 yX0_changeAhead "WordRows" ∈ nestW := mem_nest 444 (by decide +kernel) rfl
theorem mC_X0_changeAhead : Cond.code yX0_changeAhead cX0_changeAhead 3 (some .int) ∈ TBg := mem_TBg 515 (by decide +kernel) (by decide +kernel)
theorem mI_X0_changeAhead : Cond.instanceMethod yX0_changeAhead ∈ TBg := mem_TBg 514 (by decide +kernel) (by decide +kernel)
theorem mS_X0_changeAhead : Cond.selects RX0 yX0_changeAhead yX0_changeAhead ∈ TBg := mem_TBg 33 (by decide +kernel) (by decide +kernel)
theorem mF_X0_24 : Cond.fieldLink RX0 24 "WordRows$Cutter" "greatest" "[I" ∈ TBg := mem_TBg 108 (by decide +kernel) (by decide +kernel)
theorem mM_X0_65 : Cond.methodLink RX0 65 Lib.Math.max.name ∈ TBg := mem_TBg 540 (by decide +kernel) (by decide +kernel)
theorem mM_X0_57 : Cond.methodLink RX0 57 yX0_standsAt ∈ TBg := mem_TBg 532 (by decide +kernel) (by decide +kernel)
theorem mC_X0_standsAt : Cond.code yX0_standsAt cX0_standsAt 4 (some .boolean) ∈ TBg := mem_TBg 535 (by decide +kernel) (by decide +kernel)
theorem mI_X0_standsAt : Cond.instanceMethod yX0_standsAt ∈ TBg := mem_TBg 534 (by decide +kernel) (by decide +kernel)
theorem mS_X0_standsAt : Cond.selects RX0 yX0_standsAt yX0_standsAt ∈ TBg := mem_TBg 37 (by decide +kernel) (by decide +kernel)
theorem mM_X0_61 : Cond.methodLink RX0 61 yX0_raiseValues ∈ TBg := mem_TBg 536 (by decide +kernel) (by decide +kernel)
theorem mC_X0_raiseValues : Cond.code yX0_raiseValues cX0_raiseValues 5 none ∈ TBg := mem_TBg 539 (by decide +kernel) (by decide +kernel)
theorem mI_X0_raiseValues : Cond.instanceMethod yX0_raiseValues ∈ TBg := mem_TBg 538 (by decide +kernel) (by decide +kernel)
theorem mS_X0_raiseValues : Cond.selects RX0 yX0_raiseValues yX0_raiseValues ∈ TBg := mem_TBg 38 (by decide +kernel) (by decide +kernel)
theorem mM_X0_54 : Cond.methodLink RX0 54 yX0_weighPlaces ∈ TBg := mem_TBg 528 (by decide +kernel) (by decide +kernel)
theorem mC_X0_weighPlaces : Cond.code yX0_weighPlaces cX0_weighPlaces 3 none ∈ TBg := mem_TBg 531 (by decide +kernel) (by decide +kernel)
theorem mI_X0_weighPlaces : Cond.instanceMethod yX0_weighPlaces ∈ TBg := mem_TBg 530 (by decide +kernel) (by decide +kernel)
theorem mS_X0_weighPlaces : Cond.selects RX0 yX0_weighPlaces yX0_weighPlaces ∈ TBg := mem_TBg 36 (by decide +kernel) (by decide +kernel)
theorem mF_X0_43 : Cond.fieldLink RX0 43 "WordRows$Cutter" "cutCount" "I" ∈ TBg := mem_TBg 113 (by decide +kernel) (by decide +kernel)
theorem mF_X0_34 : Cond.fieldLink RX0 34 "WordRows$Cutter" "cutPlaces" "[I" ∈ TBg := mem_TBg 111 (by decide +kernel) (by decide +kernel)
theorem nM_X3_209 : Cond.methodLinkNest RX3 209 yX0_findCuts "WordRows" ∈ nestW := mem_nest 456 (by decide +kernel) rfl
theorem mC_X0_findCuts : Cond.code yX0_findCuts cX0_findCuts 2 (some .int) ∈ TBg := mem_TBg 527 (by decide +kernel) (by decide +kernel)
theorem mI_X0_findCuts : Cond.instanceMethod yX0_findCuts ∈ TBg := mem_TBg 526 (by decide +kernel) (by decide +kernel)
theorem mS_X0_findCuts : Cond.selects RX0 yX0_findCuts yX0_findCuts ∈ TBg := mem_TBg 35 (by decide +kernel) (by decide +kernel)
theorem nF_X3_283 : Cond.fieldLinkNest RX3 283 "WordRows$Verse" "syllableCount" "I" "WordRows" ∈ nestW := mem_nest 126 (by decide +kernel) rfl
theorem mM_X3_220 : Cond.methodLink RX3 220 yX3_syllablesInAll ∈ TBg := mem_TBg 545 (by decide +kernel) (by decide +kernel)
theorem mC_X3_syllablesInAll : Cond.code yX3_syllablesInAll cX3_syllablesInAll 3 (some .int) ∈ TBg := mem_TBg 548 (by decide +kernel) (by decide +kernel)
theorem mI_X3_syllablesInAll : Cond.instanceMethod yX3_syllablesInAll ∈ TBg := mem_TBg 547 (by decide +kernel) (by decide +kernel)
theorem mS_X3_syllablesInAll : Cond.selects RX3 yX3_syllablesInAll yX3_syllablesInAll ∈ TBg := mem_TBg 39 (by decide +kernel) (by decide +kernel)
theorem mM_X3_223 : Cond.methodLink RX3 223 yX3_chordsInAll ∈ TBg := mem_TBg 549 (by decide +kernel) (by decide +kernel)
theorem mC_X3_chordsInAll : Cond.code yX3_chordsInAll cX3_chordsInAll 3 (some .int) ∈ TBg := mem_TBg 552 (by decide +kernel) (by decide +kernel)
theorem mI_X3_chordsInAll : Cond.instanceMethod yX3_chordsInAll ∈ TBg := mem_TBg 551 (by decide +kernel) (by decide +kernel)
theorem mS_X3_chordsInAll : Cond.selects RX3 yX3_chordsInAll yX3_chordsInAll ∈ TBg := mem_TBg 40 (by decide +kernel) (by decide +kernel)
theorem mF_X2_35 : Cond.fieldLink RX2 35 "WordRows$Verse" "isTranslation" "Z" ∈ TBg := mem_TBg 197 (by decide +kernel) (by decide +kernel)
theorem nM_X3_229 : Cond.methodLinkNest RX3 229 yX0_empty "WordRows" ∈ nestW := mem_nest 493 (by decide +kernel) rfl
theorem mC_X0_empty : Cond.code yX0_empty cX0_empty 1 none ∈ TBg := mem_TBg 564 (by decide +kernel) (by decide +kernel)
theorem mI_X0_empty : Cond.instanceMethod yX0_empty ∈ TBg := mem_TBg 563 (by decide +kernel) (by decide +kernel)
theorem mS_X0_empty : Cond.selects RX0 yX0_empty yX0_empty ∈ TBg := mem_TBg 42 (by decide +kernel) (by decide +kernel)
theorem nM_X3_226 : Cond.methodLinkNest RX3 226 yX2_empty "WordRows" ∈ nestW := mem_nest 489 (by decide +kernel) rfl
theorem mC_X2_empty : Cond.code yX2_empty cX2_empty 2 none ∈ TBg := mem_TBg 560 (by decide +kernel) (by decide +kernel)
theorem mI_X2_empty : Cond.instanceMethod yX2_empty ∈ TBg := mem_TBg 559 (by decide +kernel) (by decide +kernel)
theorem mS_X2_empty : Cond.selects RX2 yX2_empty yX2_empty ∈ TBg := mem_TBg 41 (by decide +kernel) (by decide +kernel)
theorem mF_X4_1 : Cond.fieldLink RX4 1 "WordRowsModel" "thrown" "I" ∈ TBg := mem_TBg 696 (by decide +kernel) (by decide +kernel)
theorem mF_X4_7 : Cond.fieldLink RX4 7 "WordRowsModel" "notes" "I" ∈ TBg := mem_TBg 697 (by decide +kernel) (by decide +kernel)
theorem mF_X4_10 : Cond.fieldLink RX4 10 "WordRowsModel" "melismas" "I" ∈ TBg := mem_TBg 705 (by decide +kernel) (by decide +kernel)
theorem mF_X4_13 : Cond.fieldLink RX4 13 "WordRowsModel" "refrains" "I" ∈ TBg := mem_TBg 706 (by decide +kernel) (by decide +kernel)
theorem mF_X4_16 : Cond.fieldLink RX4 16 "WordRowsModel" "most" "I" ∈ TBg := mem_TBg 713 (by decide +kernel) (by decide +kernel)
theorem mF_X4_19 : Cond.fieldLink RX4 19 "WordRowsModel" "isPlaced" "Z" ∈ TBg := mem_TBg 714 (by decide +kernel) (by decide +kernel)
theorem mF_X4_23 : Cond.fieldLink RX4 23 "WordRowsModel" "patterns" "I" ∈ TBg := mem_TBg 718 (by decide +kernel) (by decide +kernel)
theorem mF_X4_26 : Cond.fieldLink RX4 26 "WordRowsModel" "letters" "I" ∈ TBg := mem_TBg 722 (by decide +kernel) (by decide +kernel)
theorem mF_X4_29 : Cond.fieldLink RX4 29 "WordRowsModel" "side0" "I" ∈ TBg := mem_TBg 724 (by decide +kernel) (by decide +kernel)
theorem mF_X4_32 : Cond.fieldLink RX4 32 "WordRowsModel" "side1" "I" ∈ TBg := mem_TBg 725 (by decide +kernel) (by decide +kernel)
theorem mF_X4_35 : Cond.fieldLink RX4 35 "WordRowsModel" "cutMany" "I" ∈ TBg := mem_TBg 726 (by decide +kernel) (by decide +kernel)
theorem mF_X4_38 : Cond.fieldLink RX4 38 "WordRowsModel" "way" "[I" ∈ TBg := mem_TBg 711 (by decide +kernel) (by decide +kernel)
theorem mF_X4_42 : Cond.fieldLink RX4 42 "WordRowsModel" "isTranslation" "[Z" ∈ TBg := mem_TBg 712 (by decide +kernel) (by decide +kernel)
theorem mM_X4_109 : Cond.methodLink RX4 109 yX4_lies ∈ TBg := mem_TBg 797 (by decide +kernel) (by decide +kernel)
theorem mC_X4_lies : Cond.code yX4_lies cX4_lies 3 (some .boolean) ∈ TBg := mem_TBg 799 (by decide +kernel) (by decide +kernel)
theorem mN_X4 : Cond.initialized RX4 ∈ TBg := mem_TBg 73 (by decide +kernel) (by decide +kernel)
theorem mT_X4_lies : Cond.static yX4_lies ∈ TBg := mem_TBg 798 (by decide +kernel) (by decide +kernel)
theorem mK_X4_113 : Cond.constant RX4 113 (-1000002) ∈ TBg := mem_TBg 800 (by decide +kernel) (by decide +kernel)
theorem mF_X4_52 : Cond.fieldLink RX4 52 "WordRowsModel" "width" "[I" ∈ TBg := mem_TBg 698 (by decide +kernel) (by decide +kernel)
theorem mF_X4_55 : Cond.fieldLink RX4 55 "WordRowsModel" "length" "[I" ∈ TBg := mem_TBg 699 (by decide +kernel) (by decide +kernel)
theorem mF_X4_58 : Cond.fieldLink RX4 58 "WordRowsModel" "isRest" "[Z" ∈ TBg := mem_TBg 700 (by decide +kernel) (by decide +kernel)
theorem mF_X4_61 : Cond.fieldLink RX4 61 "WordRowsModel" "chord" "[I" ∈ TBg := mem_TBg 701 (by decide +kernel) (by decide +kernel)
theorem mF_X4_64 : Cond.fieldLink RX4 64 "WordRowsModel" "melismaOf" "[I" ∈ TBg := mem_TBg 702 (by decide +kernel) (by decide +kernel)
theorem mK_X4_115 : Cond.constant RX4 115 (-1000009) ∈ TBg := mem_TBg 802 (by decide +kernel) (by decide +kernel)
theorem mF_X4_70 : Cond.fieldLink RX4 70 "WordRowsModel" "refrainOf" "[I" ∈ TBg := mem_TBg 704 (by decide +kernel) (by decide +kernel)
theorem mF_X4_73 : Cond.fieldLink RX4 73 "WordRowsModel" "many" "[I" ∈ TBg := mem_TBg 707 (by decide +kernel) (by decide +kernel)
theorem mK_X4_114 : Cond.constant RX4 114 (-1000004) ∈ TBg := mem_TBg 801 (by decide +kernel) (by decide +kernel)
theorem mM_X4_116 : Cond.methodLink RX4 116 yX4_isNote ∈ TBg := mem_TBg 807 (by decide +kernel) (by decide +kernel)
theorem mC_X4_isNote : Cond.code yX4_isNote cX4_isNote 2 (some .boolean) ∈ TBg := mem_TBg 810 (by decide +kernel) (by decide +kernel)
theorem mI_X4_isNote : Cond.instanceMethod yX4_isNote ∈ TBg := mem_TBg 809 (by decide +kernel) (by decide +kernel)
theorem mS_X4_isNote : Cond.selects RX4 yX4_isNote yX4_isNote ∈ TBg := mem_TBg 45 (by decide +kernel) (by decide +kernel)
theorem mK_X4_123 : Cond.constant RX4 123 (-1000001) ∈ TBg := mem_TBg 814 (by decide +kernel) (by decide +kernel)
theorem mM_X4_120 : Cond.methodLink RX4 120 yX4_isVerse ∈ TBg := mem_TBg 811 (by decide +kernel) (by decide +kernel)
theorem mC_X4_isVerse : Cond.code yX4_isVerse cX4_isVerse 1 (some .boolean) ∈ TBg := mem_TBg 813 (by decide +kernel) (by decide +kernel)
theorem mT_X4_isVerse : Cond.static yX4_isVerse ∈ TBg := mem_TBg 812 (by decide +kernel) (by decide +kernel)
theorem mK_X4_127 : Cond.constant RX4 127 (-1000003) ∈ TBg := mem_TBg 819 (by decide +kernel) (by decide +kernel)
theorem mM_X4_124 : Cond.methodLink RX4 124 yX4_isBehindFirst ∈ TBg := mem_TBg 815 (by decide +kernel) (by decide +kernel)
theorem mC_X4_isBehindFirst : Cond.code yX4_isBehindFirst cX4_isBehindFirst 2 (some .boolean) ∈ TBg := mem_TBg 818 (by decide +kernel) (by decide +kernel)
theorem mI_X4_isBehindFirst : Cond.instanceMethod yX4_isBehindFirst ∈ TBg := mem_TBg 817 (by decide +kernel) (by decide +kernel)
theorem mS_X4_isBehindFirst : Cond.selects RX4 yX4_isBehindFirst yX4_isBehindFirst ∈ TBg := mem_TBg 46 (by decide +kernel) (by decide +kernel)
theorem mF_X4_76 : Cond.fieldLink RX4 76 "WordRowsModel" "wide" "[I" ∈ TBg := mem_TBg 708 (by decide +kernel) (by decide +kernel)
theorem mF_X4_79 : Cond.fieldLink RX4 79 "WordRowsModel" "vowel" "[I" ∈ TBg := mem_TBg 709 (by decide +kernel) (by decide +kernel)
theorem mF_X4_82 : Cond.fieldLink RX4 82 "WordRowsModel" "goes" "[Z" ∈ TBg := mem_TBg 710 (by decide +kernel) (by decide +kernel)
theorem mF_X4_67 : Cond.fieldLink RX4 67 "WordRowsModel" "melismaSize" "[I" ∈ TBg := mem_TBg 703 (by decide +kernel) (by decide +kernel)
theorem mM_X4_128 : Cond.methodLink RX4 128 yX4_syllablesOf ∈ TBg := mem_TBg 832 (by decide +kernel) (by decide +kernel)
theorem mC_X4_syllablesOf : Cond.code yX4_syllablesOf cX4_syllablesOf 5 (some .int) ∈ TBg := mem_TBg 835 (by decide +kernel) (by decide +kernel)
theorem mI_X4_syllablesOf : Cond.instanceMethod yX4_syllablesOf ∈ TBg := mem_TBg 834 (by decide +kernel) (by decide +kernel)
theorem mS_X4_syllablesOf : Cond.selects RX4 yX4_syllablesOf yX4_syllablesOf ∈ TBg := mem_TBg 47 (by decide +kernel) (by decide +kernel)
theorem mM_X4_132 : Cond.methodLink RX4 132 yX4_wideOf ∈ TBg := mem_TBg 872 (by decide +kernel) (by decide +kernel)
theorem mC_X4_wideOf : Cond.code yX4_wideOf cX4_wideOf 4 (some .int) ∈ TBg := mem_TBg 875 (by decide +kernel) (by decide +kernel)
theorem mI_X4_wideOf : Cond.instanceMethod yX4_wideOf ∈ TBg := mem_TBg 874 (by decide +kernel) (by decide +kernel)
theorem mS_X4_wideOf : Cond.selects RX4 yX4_wideOf yX4_wideOf ∈ TBg := mem_TBg 52 (by decide +kernel) (by decide +kernel)
theorem mM_X4_135 : Cond.methodLink RX4 135 yX4_isBox ∈ TBg := mem_TBg 864 (by decide +kernel) (by decide +kernel)
theorem mC_X4_isBox : Cond.code yX4_isBox cX4_isBox 3 (some .boolean) ∈ TBg := mem_TBg 867 (by decide +kernel) (by decide +kernel)
theorem mI_X4_isBox : Cond.instanceMethod yX4_isBox ∈ TBg := mem_TBg 866 (by decide +kernel) (by decide +kernel)
theorem mS_X4_isBox : Cond.selects RX4 yX4_isBox yX4_isBox ∈ TBg := mem_TBg 50 (by decide +kernel) (by decide +kernel)
theorem mF_X4_88 : Cond.fieldLink RX4 88 "WordRowsModel" "begins" "[I" ∈ TBg := mem_TBg 716 (by decide +kernel) (by decide +kernel)
theorem mM_X4_139 : Cond.methodLink RX4 139 yX4_other ∈ TBg := mem_TBg 883 (by decide +kernel) (by decide +kernel)
theorem mC_X4_other : Cond.code yX4_other cX4_other 5 (some .int) ∈ TBg := mem_TBg 886 (by decide +kernel) (by decide +kernel)
theorem mI_X4_other : Cond.instanceMethod yX4_other ∈ TBg := mem_TBg 885 (by decide +kernel) (by decide +kernel)
theorem mS_X4_other : Cond.selects RX4 yX4_other yX4_other ∈ TBg := mem_TBg 54 (by decide +kernel) (by decide +kernel)
theorem mM_X4_143 : Cond.methodLink RX4 143 yX4_endOf ∈ TBg := mem_TBg 887 (by decide +kernel) (by decide +kernel)
theorem mC_X4_endOf : Cond.code yX4_endOf cX4_endOf 3 (some .int) ∈ TBg := mem_TBg 890 (by decide +kernel) (by decide +kernel)
theorem mI_X4_endOf : Cond.instanceMethod yX4_endOf ∈ TBg := mem_TBg 889 (by decide +kernel) (by decide +kernel)
theorem mS_X4_endOf : Cond.selects RX4 yX4_endOf yX4_endOf ∈ TBg := mem_TBg 55 (by decide +kernel) (by decide +kernel)
theorem mM_X4_146 : Cond.methodLink RX4 146 yX4_goesOn ∈ TBg := mem_TBg 891 (by decide +kernel) (by decide +kernel)
theorem mC_X4_goesOn : Cond.code yX4_goesOn cX4_goesOn 3 (some .boolean) ∈ TBg := mem_TBg 894 (by decide +kernel) (by decide +kernel)
theorem mI_X4_goesOn : Cond.instanceMethod yX4_goesOn ∈ TBg := mem_TBg 893 (by decide +kernel) (by decide +kernel)
theorem mS_X4_goesOn : Cond.selects RX4 yX4_goesOn yX4_goesOn ∈ TBg := mem_TBg 56 (by decide +kernel) (by decide +kernel)
theorem mF_X4_85 : Cond.fieldLink RX4 85 "WordRowsModel" "place" "[I" ∈ TBg := mem_TBg 715 (by decide +kernel) (by decide +kernel)
theorem mM_X4_149 : Cond.methodLink RX4 149 yX4_alone ∈ TBg := mem_TBg 860 (by decide +kernel) (by decide +kernel)
theorem mC_X4_alone : Cond.code yX4_alone cX4_alone 2 (some .int) ∈ TBg := mem_TBg 863 (by decide +kernel) (by decide +kernel)
theorem mI_X4_alone : Cond.instanceMethod yX4_alone ∈ TBg := mem_TBg 862 (by decide +kernel) (by decide +kernel)
theorem mS_X4_alone : Cond.selects RX4 yX4_alone yX4_alone ∈ TBg := mem_TBg 49 (by decide +kernel) (by decide +kernel)
theorem mM_X4_162 : Cond.methodLink RX4 162 yX4_chordBefore ∈ TBg := mem_TBg 895 (by decide +kernel) (by decide +kernel)
theorem mC_X4_chordBefore : Cond.code yX4_chordBefore cX4_chordBefore 3 (some .int) ∈ TBg := mem_TBg 898 (by decide +kernel) (by decide +kernel)
theorem mI_X4_chordBefore : Cond.instanceMethod yX4_chordBefore ∈ TBg := mem_TBg 897 (by decide +kernel) (by decide +kernel)
theorem mS_X4_chordBefore : Cond.selects RX4 yX4_chordBefore yX4_chordBefore ∈ TBg := mem_TBg 57 (by decide +kernel) (by decide +kernel)
theorem mM_X4_153 : Cond.methodLink RX4 153 yX4_offset ∈ TBg := mem_TBg 868 (by decide +kernel) (by decide +kernel)
theorem mC_X4_offset : Cond.code yX4_offset cX4_offset 3 (some .int) ∈ TBg := mem_TBg 871 (by decide +kernel) (by decide +kernel)
theorem mI_X4_offset : Cond.instanceMethod yX4_offset ∈ TBg := mem_TBg 870 (by decide +kernel) (by decide +kernel)
theorem mS_X4_offset : Cond.selects RX4 yX4_offset yX4_offset ∈ TBg := mem_TBg 51 (by decide +kernel) (by decide +kernel)
theorem mM_X4_156 : Cond.methodLink RX4 156 yX4_greater ∈ TBg := mem_TBg 876 (by decide +kernel) (by decide +kernel)
theorem mC_X4_greater : Cond.code yX4_greater cX4_greater 2 (some .int) ∈ TBg := mem_TBg 878 (by decide +kernel) (by decide +kernel)
theorem mT_X4_greater : Cond.static yX4_greater ∈ TBg := mem_TBg 877 (by decide +kernel) (by decide +kernel)
theorem mM_X4_159 : Cond.methodLink RX4 159 yX4_free ∈ TBg := mem_TBg 879 (by decide +kernel) (by decide +kernel)
theorem mC_X4_free : Cond.code yX4_free cX4_free 4 (some .int) ∈ TBg := mem_TBg 882 (by decide +kernel) (by decide +kernel)
theorem mI_X4_free : Cond.instanceMethod yX4_free ∈ TBg := mem_TBg 881 (by decide +kernel) (by decide +kernel)
theorem mS_X4_free : Cond.selects RX4 yX4_free yX4_free ∈ TBg := mem_TBg 53 (by decide +kernel) (by decide +kernel)
theorem mM_X4_165 : Cond.methodLink RX4 165 yX4_placeNote ∈ TBg := mem_TBg 856 (by decide +kernel) (by decide +kernel)
theorem mC_X4_placeNote : Cond.code yX4_placeNote cX4_placeNote 6 none ∈ TBg := mem_TBg 859 (by decide +kernel) (by decide +kernel)
theorem mI_X4_placeNote : Cond.instanceMethod yX4_placeNote ∈ TBg := mem_TBg 858 (by decide +kernel) (by decide +kernel)
theorem mS_X4_placeNote : Cond.selects RX4 yX4_placeNote yX4_placeNote ∈ TBg := mem_TBg 48 (by decide +kernel) (by decide +kernel)
theorem mM_X4_169 : Cond.methodLink RX4 169 yX4_noBox ∈ TBg := mem_TBg 907 (by decide +kernel) (by decide +kernel)
theorem mC_X4_noBox : Cond.code yX4_noBox cX4_noBox 3 (some .boolean) ∈ TBg := mem_TBg 910 (by decide +kernel) (by decide +kernel)
theorem mI_X4_noBox : Cond.instanceMethod yX4_noBox ∈ TBg := mem_TBg 909 (by decide +kernel) (by decide +kernel)
theorem mS_X4_noBox : Cond.selects RX4 yX4_noBox yX4_noBox ∈ TBg := mem_TBg 58 (by decide +kernel) (by decide +kernel)
theorem mF_X4_172 : Cond.fieldLink RX4 172 "WordRowsModel" "room" "I" ∈ TBg := mem_TBg 717 (by decide +kernel) (by decide +kernel)
theorem mM_X4_175 : Cond.methodLink RX4 175 yX4_hyphenMany ∈ TBg := mem_TBg 915 (by decide +kernel) (by decide +kernel)
theorem mC_X4_hyphenMany : Cond.code yX4_hyphenMany cX4_hyphenMany 4 (some .int) ∈ TBg := mem_TBg 918 (by decide +kernel) (by decide +kernel)
theorem mI_X4_hyphenMany : Cond.instanceMethod yX4_hyphenMany ∈ TBg := mem_TBg 917 (by decide +kernel) (by decide +kernel)
theorem mS_X4_hyphenMany : Cond.selects RX4 yX4_hyphenMany yX4_hyphenMany ∈ TBg := mem_TBg 59 (by decide +kernel) (by decide +kernel)
theorem mKL_X4_178 : Cond.constantLong RX4 178 (1000) ∈ TBg := mem_TBg 931 (by decide +kernel) (by decide +kernel)
theorem mM_X4_180 : Cond.methodLink RX4 180 yX4_hasBoxes ∈ TBg := mem_TBg 940 (by decide +kernel) (by decide +kernel)
theorem mC_X4_hasBoxes : Cond.code yX4_hasBoxes cX4_hasBoxes 4 (some .boolean) ∈ TBg := mem_TBg 943 (by decide +kernel) (by decide +kernel)
theorem mI_X4_hasBoxes : Cond.instanceMethod yX4_hasBoxes ∈ TBg := mem_TBg 942 (by decide +kernel) (by decide +kernel)
theorem mS_X4_hasBoxes : Cond.selects RX4 yX4_hasBoxes yX4_hasBoxes ∈ TBg := mem_TBg 61 (by decide +kernel) (by decide +kernel)
theorem mM_X4_183 : Cond.methodLink RX4 183 yX4_faultAt ∈ TBg := mem_TBg 936 (by decide +kernel) (by decide +kernel)
theorem mC_X4_faultAt : Cond.code yX4_faultAt cX4_faultAt 4 (some .int) ∈ TBg := mem_TBg 939 (by decide +kernel) (by decide +kernel)
theorem mI_X4_faultAt : Cond.instanceMethod yX4_faultAt ∈ TBg := mem_TBg 938 (by decide +kernel) (by decide +kernel)
theorem mS_X4_faultAt : Cond.selects RX4 yX4_faultAt yX4_faultAt ∈ TBg := mem_TBg 60 (by decide +kernel) (by decide +kernel)
theorem mM_X4_186 : Cond.methodLink RX4 186 yX4_faults ∈ TBg := mem_TBg 948 (by decide +kernel) (by decide +kernel)
theorem mC_X4_faults : Cond.code yX4_faults cX4_faults 4 (some .int) ∈ TBg := mem_TBg 935 (by decide +kernel) (by decide +kernel)
theorem mI_X4_faults : Cond.instanceMethod yX4_faults ∈ TBg := mem_TBg 933 (by decide +kernel) (by decide +kernel)
theorem mS_X4_faults : Cond.selects RX4 yX4_faults yX4_faults ∈ TBg := mem_TBg 934 (by decide +kernel) (by decide +kernel)
theorem mM_X4_190 : Cond.methodLink RX4 190 yX4_areAlikeAt ∈ TBg := mem_TBg 961 (by decide +kernel) (by decide +kernel)
theorem mC_X4_areAlikeAt : Cond.code yX4_areAlikeAt cX4_areAlikeAt 8 (some .boolean) ∈ TBg := mem_TBg 964 (by decide +kernel) (by decide +kernel)
theorem mI_X4_areAlikeAt : Cond.instanceMethod yX4_areAlikeAt ∈ TBg := mem_TBg 963 (by decide +kernel) (by decide +kernel)
theorem mS_X4_areAlikeAt : Cond.selects RX4 yX4_areAlikeAt yX4_areAlikeAt ∈ TBg := mem_TBg 64 (by decide +kernel) (by decide +kernel)
theorem mM_X4_193 : Cond.methodLink RX4 193 yX4_areAlike ∈ TBg := mem_TBg 957 (by decide +kernel) (by decide +kernel)
theorem mC_X4_areAlike : Cond.code yX4_areAlike cX4_areAlike 5 (some .boolean) ∈ TBg := mem_TBg 960 (by decide +kernel) (by decide +kernel)
theorem mI_X4_areAlike : Cond.instanceMethod yX4_areAlike ∈ TBg := mem_TBg 959 (by decide +kernel) (by decide +kernel)
theorem mS_X4_areAlike : Cond.selects RX4 yX4_areAlike yX4_areAlike ∈ TBg := mem_TBg 63 (by decide +kernel) (by decide +kernel)
theorem mM_X4_196 : Cond.methodLink RX4 196 yX4_sharedWith ∈ TBg := mem_TBg 953 (by decide +kernel) (by decide +kernel)
theorem mC_X4_sharedWith : Cond.code yX4_sharedWith cX4_sharedWith 3 (some .int) ∈ TBg := mem_TBg 956 (by decide +kernel) (by decide +kernel)
theorem mI_X4_sharedWith : Cond.instanceMethod yX4_sharedWith ∈ TBg := mem_TBg 955 (by decide +kernel) (by decide +kernel)
theorem mS_X4_sharedWith : Cond.selects RX4 yX4_sharedWith yX4_sharedWith ∈ TBg := mem_TBg 62 (by decide +kernel) (by decide +kernel)
theorem mKL_X4_199 : Cond.constantLong RX4 199 (31) ∈ TBg := mem_TBg 977 (by decide +kernel) (by decide +kernel)
theorem mF_X4_91 : Cond.fieldLink RX4 91 "WordRowsModel" "signMany" "[I" ∈ TBg := mem_TBg 719 (by decide +kernel) (by decide +kernel)
theorem mF_X4_97 : Cond.fieldLink RX4 97 "WordRowsModel" "weight" "[I" ∈ TBg := mem_TBg 721 (by decide +kernel) (by decide +kernel)
theorem mF_X4_94 : Cond.fieldLink RX4 94 "WordRowsModel" "sign" "[I" ∈ TBg := mem_TBg 720 (by decide +kernel) (by decide +kernel)
theorem mF_X4_100 : Cond.fieldLink RX4 100 "WordRowsModel" "letter" "[I" ∈ TBg := mem_TBg 723 (by decide +kernel) (by decide +kernel)
theorem mM_X4_201 : Cond.methodLink RX4 201 yX4_signAt ∈ TBg := mem_TBg 998 (by decide +kernel) (by decide +kernel)
theorem mC_X4_signAt : Cond.code yX4_signAt cX4_signAt 2 (some .int) ∈ TBg := mem_TBg 1001 (by decide +kernel) (by decide +kernel)
theorem mI_X4_signAt : Cond.instanceMethod yX4_signAt ∈ TBg := mem_TBg 1000 (by decide +kernel) (by decide +kernel)
theorem mS_X4_signAt : Cond.selects RX4 yX4_signAt yX4_signAt ∈ TBg := mem_TBg 67 (by decide +kernel) (by decide +kernel)
theorem mM_X4_204 : Cond.methodLink RX4 204 yX4_stands ∈ TBg := mem_TBg 994 (by decide +kernel) (by decide +kernel)
theorem mC_X4_stands : Cond.code yX4_stands cX4_stands 5 (some .boolean) ∈ TBg := mem_TBg 997 (by decide +kernel) (by decide +kernel)
theorem mI_X4_stands : Cond.instanceMethod yX4_stands ∈ TBg := mem_TBg 996 (by decide +kernel) (by decide +kernel)
theorem mS_X4_stands : Cond.selects RX4 yX4_stands yX4_stands ∈ TBg := mem_TBg 66 (by decide +kernel) (by decide +kernel)
theorem mM_X4_207 : Cond.methodLink RX4 207 yX4_greatest ∈ TBg := mem_TBg 990 (by decide +kernel) (by decide +kernel)
theorem mC_X4_greatest : Cond.code yX4_greatest cX4_greatest 6 (some .int) ∈ TBg := mem_TBg 993 (by decide +kernel) (by decide +kernel)
theorem mI_X4_greatest : Cond.instanceMethod yX4_greatest ∈ TBg := mem_TBg 992 (by decide +kernel) (by decide +kernel)
theorem mS_X4_greatest : Cond.selects RX4 yX4_greatest yX4_greatest ∈ TBg := mem_TBg 65 (by decide +kernel) (by decide +kernel)
theorem mF_X4_103 : Cond.fieldLink RX4 103 "WordRowsModel" "cutAt" "[I" ∈ TBg := mem_TBg 727 (by decide +kernel) (by decide +kernel)
theorem mM_X4_106 : Cond.methodLink RX4 106 yX4_fresh ∈ TBg := mem_TBg 692 (by decide +kernel) (by decide +kernel)
theorem mC_X4_fresh : Cond.code yX4_fresh cX4_fresh 2 none ∈ TBg := mem_TBg 695 (by decide +kernel) (by decide +kernel)
theorem mI_X4_fresh : Cond.instanceMethod yX4_fresh ∈ TBg := mem_TBg 694 (by decide +kernel) (by decide +kernel)
theorem mS_X4_fresh : Cond.selects RX4 yX4_fresh yX4_fresh ∈ TBg := mem_TBg 44 (by decide +kernel) (by decide +kernel)
theorem mA_int : Cond.arrayClass .int ∈ TBg := mem_TBg 138 (by decide +kernel) (by decide +kernel)
theorem mA_bool : Cond.arrayClass .boolean ∈ TBg := mem_TBg 220 (by decide +kernel) (by decide +kernel)
theorem mA_long : Cond.arrayClass .long ∈ TBg := mem_TBg 1015 (by decide +kernel) (by decide +kernel)
theorem mO_X0 : Cond.methodLink RX0 3 Lib.objectInit ∈ TBg := mem_TBg 99 (by decide +kernel) (by decide +kernel)
theorem mI_obj : Cond.instanceMethod Lib.objectInit ∈ TBg := mem_TBg 88 (by decide +kernel) (by decide +kernel)
theorem mC_obj : Cond.code Lib.objectInit ⟨#[0xb1]⟩ 1 none ∈ TBg := mem_TBg 89 (by decide +kernel) (by decide +kernel)
theorem mO_X1 : Cond.methodLink RX1 3 Lib.objectInit ∈ TBg := mem_TBg 143 (by decide +kernel) (by decide +kernel)
theorem mO_X2 : Cond.methodLink RX2 3 Lib.objectInit ∈ TBg := mem_TBg 185 (by decide +kernel) (by decide +kernel)
theorem mC_X0_init : Cond.code yX0_init cX0_init 1 none ∈ TBg := mem_TBg 98 (by decide +kernel) (by decide +kernel)
theorem mI_X0_init : Cond.instanceMethod yX0_init ∈ TBg := mem_TBg 97 (by decide +kernel) (by decide +kernel)
theorem mB_X0 : Cond.instantiable RX0 11 ∈ TBg := mem_TBg 95 (by decide +kernel) (by decide +kernel)
theorem mC_X1_init : Cond.code yX1_init cX1_init 1 none ∈ TBg := mem_TBg 142 (by decide +kernel) (by decide +kernel)
theorem mI_X1_init : Cond.instanceMethod yX1_init ∈ TBg := mem_TBg 141 (by decide +kernel) (by decide +kernel)
theorem mB_X1 : Cond.instantiable RX1 9 ∈ TBg := mem_TBg 139 (by decide +kernel) (by decide +kernel)
theorem mC_X2_init : Cond.code yX2_init cX2_init 1 none ∈ TBg := mem_TBg 184 (by decide +kernel) (by decide +kernel)
theorem mI_X2_init : Cond.instanceMethod yX2_init ∈ TBg := mem_TBg 183 (by decide +kernel) (by decide +kernel)
theorem mB_X2 : Cond.instantiable RX2 9 ∈ TBg := mem_TBg 181 (by decide +kernel) (by decide +kernel)
theorem mC_X3_init : Cond.code yX3_init cX3_init 2 none ∈ TBg := mem_TBg 86 (by decide +kernel) (by decide +kernel)
theorem mI_X3_init : Cond.instanceMethod yX3_init ∈ TBg := mem_TBg 85 (by decide +kernel) (by decide +kernel)
theorem mB_X3 : Cond.instantiable RX3 9 ∈ TBg := mem_TBg 83 (by decide +kernel) (by decide +kernel)
theorem mC_X4_init : Cond.code yX4_init cX4_init 1 none ∈ TBg := mem_TBg 690 (by decide +kernel) (by decide +kernel)
theorem mI_X4_init : Cond.instanceMethod yX4_init ∈ TBg := mem_TBg 689 (by decide +kernel) (by decide +kernel)
theorem mB_X4 : Cond.instantiable RX4 32 ∈ TBg := mem_TBg 687 (by decide +kernel) (by decide +kernel)
theorem mO_X3 : Cond.methodLink RX3 1 Lib.objectInit ∈ TBg := mem_TBg 87 (by decide +kernel) (by decide +kernel)
theorem mL_X3_9 : Cond.classLink RX3 9 RX1 ∈ TBg := mem_TBg 90 (by decide +kernel) (by decide +kernel)
theorem mL_X3_15 : Cond.classLink RX3 15 RX2 ∈ TBg := mem_TBg 92 (by decide +kernel) (by decide +kernel)
theorem mL_X3_21 : Cond.classLink RX3 21 RX0 ∈ TBg := mem_TBg 94 (by decide +kernel) (by decide +kernel)
theorem nM_X3_23 : Cond.methodLinkNest RX3 23 yX0_init "WordRows" ∈ nestW := mem_nest 28 (by decide +kernel) rfl
theorem nM_X3_36 : Cond.methodLinkNest RX3 36 yX1_init "WordRows" ∈ nestW := mem_nest 72 (by decide +kernel) rfl
theorem nM_X3_37 : Cond.methodLinkNest RX3 37 yX2_init "WordRows" ∈ nestW := mem_nest 114 (by decide +kernel) rfl
theorem nA_Note : Cond.arrayOver (.object "WordRows$Note") ∈ nestW := mem_nest 23 (by decide +kernel) rfl
theorem nA_Verse : Cond.arrayOver (.object "WordRows$Verse") ∈ nestW := mem_nest 25 (by decide +kernel) rfl
theorem mO_X4 : Cond.methodLink RX4 46 Lib.objectInit ∈ TBg := mem_TBg 691 (by decide +kernel) (by decide +kernel)
theorem nF_X3_212 : Cond.fieldLinkNest RX3 212 "WordRows$Cutter" "cutCount" "I" "WordRows" ∈ nestW := mem_nest 46 (by decide +kernel) rfl
theorem nF_X3_217 : Cond.fieldLinkNest RX3 217 "WordRows$Cutter" "cutPlaces" "[I" "WordRows" ∈ nestW := mem_nest 44 (by decide +kernel) rfl
theorem mL_X3_150 : Cond.classLink RX3 150 "java/lang/ArrayIndexOutOfBoundsException" ∈ TBg := mem_TBg 647 (by decide +kernel) (by decide +kernel)
theorem mN_ArrayIndexOutOfBoundsException : Cond.initialized "java/lang/ArrayIndexOutOfBoundsException" ∈ TBg := mem_TBg 79 (by decide +kernel) (by decide +kernel)
theorem mL_X3_165 : Cond.classLink RX3 165 "java/lang/ArithmeticException" ∈ TBg := mem_TBg 671 (by decide +kernel) (by decide +kernel)
theorem mN_ArithmeticException : Cond.initialized "java/lang/ArithmeticException" ∈ TBg := mem_TBg 81 (by decide +kernel) (by decide +kernel)
theorem ok_X0_addLetter : yX0_addLetter.cls ≠ "java/lang/invoke/MethodHandle" ∧ yX0_addLetter.cls ≠ "java/lang/invoke/VarHandle" ∧ (parseMethodDescriptor yX0_addLetter.desc).map (fun d => d.parameters.length) = some 1 := by decide +kernel
theorem ok_X0_addPattern : yX0_addPattern.cls ≠ "java/lang/invoke/MethodHandle" ∧ yX0_addPattern.cls ≠ "java/lang/invoke/VarHandle" ∧ (parseMethodDescriptor yX0_addPattern.desc).map (fun d => d.parameters.length) = some 3 := by decide +kernel
theorem ok_X0_areSigns : yX0_areSigns.cls ≠ "java/lang/invoke/MethodHandle" ∧ yX0_areSigns.cls ≠ "java/lang/invoke/VarHandle" ∧ (parseMethodDescriptor yX0_areSigns.desc).map (fun d => d.parameters.length) = some 2 := by decide +kernel
theorem ok_X0_areValuesFor : yX0_areValuesFor.cls ≠ "java/lang/invoke/MethodHandle" ∧ yX0_areValuesFor.cls ≠ "java/lang/invoke/VarHandle" ∧ (parseMethodDescriptor yX0_areValuesFor.desc).map (fun d => d.parameters.length) = some 2 := by decide +kernel
theorem ok_X0_changeAhead : yX0_changeAhead.cls ≠ "java/lang/invoke/MethodHandle" ∧ yX0_changeAhead.cls ≠ "java/lang/invoke/VarHandle" ∧ (parseMethodDescriptor yX0_changeAhead.desc).map (fun d => d.parameters.length) = some 1 := by decide +kernel
theorem ok_X0_changeBehind : yX0_changeBehind.cls ≠ "java/lang/invoke/MethodHandle" ∧ yX0_changeBehind.cls ≠ "java/lang/invoke/VarHandle" ∧ (parseMethodDescriptor yX0_changeBehind.desc).map (fun d => d.parameters.length) = some 1 := by decide +kernel
theorem ok_X0_empty : yX0_empty.cls ≠ "java/lang/invoke/MethodHandle" ∧ yX0_empty.cls ≠ "java/lang/invoke/VarHandle" ∧ (parseMethodDescriptor yX0_empty.desc).map (fun d => d.parameters.length) = some 0 := by decide +kernel
theorem ok_X0_findCuts : yX0_findCuts.cls ≠ "java/lang/invoke/MethodHandle" ∧ yX0_findCuts.cls ≠ "java/lang/invoke/VarHandle" ∧ (parseMethodDescriptor yX0_findCuts.desc).map (fun d => d.parameters.length) = some 0 := by decide +kernel
theorem ok_X0_init : yX0_init.cls ≠ "java/lang/invoke/MethodHandle" ∧ yX0_init.cls ≠ "java/lang/invoke/VarHandle" ∧ (parseMethodDescriptor yX0_init.desc).map (fun d => d.parameters.length) = some 0 := by decide +kernel
theorem ok_X0_raiseValues : yX0_raiseValues.cls ≠ "java/lang/invoke/MethodHandle" ∧ yX0_raiseValues.cls ≠ "java/lang/invoke/VarHandle" ∧ (parseMethodDescriptor yX0_raiseValues.desc).map (fun d => d.parameters.length) = some 2 := by decide +kernel
theorem ok_X0_signAt : yX0_signAt.cls ≠ "java/lang/invoke/MethodHandle" ∧ yX0_signAt.cls ≠ "java/lang/invoke/VarHandle" ∧ (parseMethodDescriptor yX0_signAt.desc).map (fun d => d.parameters.length) = some 2 := by decide +kernel
theorem ok_X0_signCount : yX0_signCount.cls ≠ "java/lang/invoke/MethodHandle" ∧ yX0_signCount.cls ≠ "java/lang/invoke/VarHandle" ∧ (parseMethodDescriptor yX0_signCount.desc).map (fun d => d.parameters.length) = some 1 := by decide +kernel
theorem ok_X0_standsAt : yX0_standsAt.cls ≠ "java/lang/invoke/MethodHandle" ∧ yX0_standsAt.cls ≠ "java/lang/invoke/VarHandle" ∧ (parseMethodDescriptor yX0_standsAt.desc).map (fun d => d.parameters.length) = some 2 := by decide +kernel
theorem ok_X0_weighPlaces : yX0_weighPlaces.cls ≠ "java/lang/invoke/MethodHandle" ∧ yX0_weighPlaces.cls ≠ "java/lang/invoke/VarHandle" ∧ (parseMethodDescriptor yX0_weighPlaces.desc).map (fun d => d.parameters.length) = some 0 := by decide +kernel
theorem ok_X1_become : yX1_become.cls ≠ "java/lang/invoke/MethodHandle" ∧ yX1_become.cls ≠ "java/lang/invoke/VarHandle" ∧ (parseMethodDescriptor yX1_become.desc).map (fun d => d.parameters.length) = some 3 := by decide +kernel
theorem ok_X1_end : yX1_end.cls ≠ "java/lang/invoke/MethodHandle" ∧ yX1_end.cls ≠ "java/lang/invoke/VarHandle" ∧ (parseMethodDescriptor yX1_end.desc).map (fun d => d.parameters.length) = some 0 := by decide +kernel
theorem ok_X1_init : yX1_init.cls ≠ "java/lang/invoke/MethodHandle" ∧ yX1_init.cls ≠ "java/lang/invoke/VarHandle" ∧ (parseMethodDescriptor yX1_init.desc).map (fun d => d.parameters.length) = some 0 := by decide +kernel
theorem ok_X2_addSyllable : yX2_addSyllable.cls ≠ "java/lang/invoke/MethodHandle" ∧ yX2_addSyllable.cls ≠ "java/lang/invoke/VarHandle" ∧ (parseMethodDescriptor yX2_addSyllable.desc).map (fun d => d.parameters.length) = some 4 := by decide +kernel
theorem ok_X2_boxEnd : yX2_boxEnd.cls ≠ "java/lang/invoke/MethodHandle" ∧ yX2_boxEnd.cls ≠ "java/lang/invoke/VarHandle" ∧ (parseMethodDescriptor yX2_boxEnd.desc).map (fun d => d.parameters.length) = some 1 := by decide +kernel
theorem ok_X2_boxWidth : yX2_boxWidth.cls ≠ "java/lang/invoke/MethodHandle" ∧ yX2_boxWidth.cls ≠ "java/lang/invoke/VarHandle" ∧ (parseMethodDescriptor yX2_boxWidth.desc).map (fun d => d.parameters.length) = some 1 := by decide +kernel
theorem ok_X2_empty : yX2_empty.cls ≠ "java/lang/invoke/MethodHandle" ∧ yX2_empty.cls ≠ "java/lang/invoke/VarHandle" ∧ (parseMethodDescriptor yX2_empty.desc).map (fun d => d.parameters.length) = some 0 := by decide +kernel
theorem ok_X2_hasBox : yX2_hasBox.cls ≠ "java/lang/invoke/MethodHandle" ∧ yX2_hasBox.cls ≠ "java/lang/invoke/VarHandle" ∧ (parseMethodDescriptor yX2_hasBox.desc).map (fun d => d.parameters.length) = some 1 := by decide +kernel
theorem ok_X2_hasBoxes : yX2_hasBoxes.cls ≠ "java/lang/invoke/MethodHandle" ∧ yX2_hasBoxes.cls ≠ "java/lang/invoke/VarHandle" ∧ (parseMethodDescriptor yX2_hasBoxes.desc).map (fun d => d.parameters.length) = some 0 := by decide +kernel
theorem ok_X2_hasSameSyllables : yX2_hasSameSyllables.cls ≠ "java/lang/invoke/MethodHandle" ∧ yX2_hasSameSyllables.cls ≠ "java/lang/invoke/VarHandle" ∧ (parseMethodDescriptor yX2_hasSameSyllables.desc).map (fun d => d.parameters.length) = some 2 := by decide +kernel
theorem ok_X2_hyphenRoom : yX2_hyphenRoom.cls ≠ "java/lang/invoke/MethodHandle" ∧ yX2_hyphenRoom.cls ≠ "java/lang/invoke/VarHandle" ∧ (parseMethodDescriptor yX2_hyphenRoom.desc).map (fun d => d.parameters.length) = some 1 := by decide +kernel
theorem ok_X2_init : yX2_init.cls ≠ "java/lang/invoke/MethodHandle" ∧ yX2_init.cls ≠ "java/lang/invoke/VarHandle" ∧ (parseMethodDescriptor yX2_init.desc).map (fun d => d.parameters.length) = some 0 := by decide +kernel
theorem ok_X2_isGoingOn : yX2_isGoingOn.cls ≠ "java/lang/invoke/MethodHandle" ∧ yX2_isGoingOn.cls ≠ "java/lang/invoke/VarHandle" ∧ (parseMethodDescriptor yX2_isGoingOn.desc).map (fun d => d.parameters.length) = some 1 := by decide +kernel
theorem ok_X2_isTied : yX2_isTied.cls ≠ "java/lang/invoke/MethodHandle" ∧ yX2_isTied.cls ≠ "java/lang/invoke/VarHandle" ∧ (parseMethodDescriptor yX2_isTied.desc).map (fun d => d.parameters.length) = some 1 := by decide +kernel
theorem ok_X2_lastBox : yX2_lastBox.cls ≠ "java/lang/invoke/MethodHandle" ∧ yX2_lastBox.cls ≠ "java/lang/invoke/VarHandle" ∧ (parseMethodDescriptor yX2_lastBox.desc).map (fun d => d.parameters.length) = some 0 := by decide +kernel
theorem ok_X2_nextBox : yX2_nextBox.cls ≠ "java/lang/invoke/MethodHandle" ∧ yX2_nextBox.cls ≠ "java/lang/invoke/VarHandle" ∧ (parseMethodDescriptor yX2_nextBox.desc).map (fun d => d.parameters.length) = some 1 := by decide +kernel
theorem ok_X2_offset : yX2_offset.cls ≠ "java/lang/invoke/MethodHandle" ∧ yX2_offset.cls ≠ "java/lang/invoke/VarHandle" ∧ (parseMethodDescriptor yX2_offset.desc).map (fun d => d.parameters.length) = some 1 := by decide +kernel
theorem ok_X2_placeBox : yX2_placeBox.cls ≠ "java/lang/invoke/MethodHandle" ∧ yX2_placeBox.cls ≠ "java/lang/invoke/VarHandle" ∧ (parseMethodDescriptor yX2_placeBox.desc).map (fun d => d.parameters.length) = some 2 := by decide +kernel
theorem ok_X2_removeSyllables : yX2_removeSyllables.cls ≠ "java/lang/invoke/MethodHandle" ∧ yX2_removeSyllables.cls ≠ "java/lang/invoke/VarHandle" ∧ (parseMethodDescriptor yX2_removeSyllables.desc).map (fun d => d.parameters.length) = some 1 := by decide +kernel
theorem ok_X3_areAlike : yX3_areAlike.cls ≠ "java/lang/invoke/MethodHandle" ∧ yX3_areAlike.cls ≠ "java/lang/invoke/VarHandle" ∧ (parseMethodDescriptor yX3_areAlike.desc).map (fun d => d.parameters.length) = some 2 := by decide +kernel
theorem ok_X3_asNumber : yX3_asNumber.cls ≠ "java/lang/invoke/MethodHandle" ∧ yX3_asNumber.cls ≠ "java/lang/invoke/VarHandle" ∧ (parseMethodDescriptor yX3_asNumber.desc).map (fun d => d.parameters.length) = some 1 := by decide +kernel
theorem ok_X3_chordsInAll : yX3_chordsInAll.cls ≠ "java/lang/invoke/MethodHandle" ∧ yX3_chordsInAll.cls ≠ "java/lang/invoke/VarHandle" ∧ (parseMethodDescriptor yX3_chordsInAll.desc).map (fun d => d.parameters.length) = some 0 := by decide +kernel
theorem ok_X3_hasBoxFrom : yX3_hasBoxFrom.cls ≠ "java/lang/invoke/MethodHandle" ∧ yX3_hasBoxFrom.cls ≠ "java/lang/invoke/VarHandle" ∧ (parseMethodDescriptor yX3_hasBoxFrom.desc).map (fun d => d.parameters.length) = some 2 := by decide +kernel
theorem ok_X3_hyphensIn : yX3_hyphensIn.cls ≠ "java/lang/invoke/MethodHandle" ∧ yX3_hyphensIn.cls ≠ "java/lang/invoke/VarHandle" ∧ (parseMethodDescriptor yX3_hyphensIn.desc).map (fun d => d.parameters.length) = some 1 := by decide +kernel
theorem ok_X3_init : yX3_init.cls ≠ "java/lang/invoke/MethodHandle" ∧ yX3_init.cls ≠ "java/lang/invoke/VarHandle" ∧ (parseMethodDescriptor yX3_init.desc).map (fun d => d.parameters.length) = some 0 := by decide +kernel
theorem ok_X3_isBehindMelismaFirst : yX3_isBehindMelismaFirst.cls ≠ "java/lang/invoke/MethodHandle" ∧ yX3_isBehindMelismaFirst.cls ≠ "java/lang/invoke/VarHandle" ∧ (parseMethodDescriptor yX3_isBehindMelismaFirst.desc).map (fun d => d.parameters.length) = some 1 := by decide +kernel
theorem ok_X3_isBox : yX3_isBox.cls ≠ "java/lang/invoke/MethodHandle" ∧ yX3_isBox.cls ≠ "java/lang/invoke/VarHandle" ∧ (parseMethodDescriptor yX3_isBox.desc).map (fun d => d.parameters.length) = some 2 := by decide +kernel
theorem ok_X3_isFault : yX3_isFault.cls ≠ "java/lang/invoke/MethodHandle" ∧ yX3_isFault.cls ≠ "java/lang/invoke/VarHandle" ∧ (parseMethodDescriptor yX3_isFault.desc).map (fun d => d.parameters.length) = some 3 := by decide +kernel
theorem ok_X3_isNote : yX3_isNote.cls ≠ "java/lang/invoke/MethodHandle" ∧ yX3_isNote.cls ≠ "java/lang/invoke/VarHandle" ∧ (parseMethodDescriptor yX3_isNote.desc).map (fun d => d.parameters.length) = some 1 := by decide +kernel
theorem ok_X3_isOutside : yX3_isOutside.cls ≠ "java/lang/invoke/MethodHandle" ∧ yX3_isOutside.cls ≠ "java/lang/invoke/VarHandle" ∧ (parseMethodDescriptor yX3_isOutside.desc).map (fun d => d.parameters.length) = some 3 := by decide +kernel
theorem ok_X3_isVerse : yX3_isVerse.cls ≠ "java/lang/invoke/MethodHandle" ∧ yX3_isVerse.cls ≠ "java/lang/invoke/VarHandle" ∧ (parseMethodDescriptor yX3_isVerse.desc).map (fun d => d.parameters.length) = some 1 := by decide +kernel
theorem ok_X3_leastForBoxes : yX3_leastForBoxes.cls ≠ "java/lang/invoke/MethodHandle" ∧ yX3_leastForBoxes.cls ≠ "java/lang/invoke/VarHandle" ∧ (parseMethodDescriptor yX3_leastForBoxes.desc).map (fun d => d.parameters.length) = some 1 := by decide +kernel
theorem ok_X3_lineEnd : yX3_lineEnd.cls ≠ "java/lang/invoke/MethodHandle" ∧ yX3_lineEnd.cls ≠ "java/lang/invoke/VarHandle" ∧ (parseMethodDescriptor yX3_lineEnd.desc).map (fun d => d.parameters.length) = some 2 := by decide +kernel
theorem ok_X3_listFaults : yX3_listFaults.cls ≠ "java/lang/invoke/MethodHandle" ∧ yX3_listFaults.cls ≠ "java/lang/invoke/VarHandle" ∧ (parseMethodDescriptor yX3_listFaults.desc).map (fun d => d.parameters.length) = some 0 := by decide +kernel
theorem ok_X3_mayBeMelisma : yX3_mayBeMelisma.cls ≠ "java/lang/invoke/MethodHandle" ∧ yX3_mayBeMelisma.cls ≠ "java/lang/invoke/VarHandle" ∧ (parseMethodDescriptor yX3_mayBeMelisma.desc).map (fun d => d.parameters.length) = some 2 := by decide +kernel
theorem ok_X3_mayBeRefrain : yX3_mayBeRefrain.cls ≠ "java/lang/invoke/MethodHandle" ∧ yX3_mayBeRefrain.cls ≠ "java/lang/invoke/VarHandle" ∧ (parseMethodDescriptor yX3_mayBeRefrain.desc).map (fun d => d.parameters.length) = some 2 := by decide +kernel
theorem ok_X3_maySing : yX3_maySing.cls ≠ "java/lang/invoke/MethodHandle" ∧ yX3_maySing.cls ≠ "java/lang/invoke/VarHandle" ∧ (parseMethodDescriptor yX3_maySing.desc).map (fun d => d.parameters.length) = some 2 := by decide +kernel
theorem ok_X3_placeBoxes : yX3_placeBoxes.cls ≠ "java/lang/invoke/MethodHandle" ∧ yX3_placeBoxes.cls ≠ "java/lang/invoke/VarHandle" ∧ (parseMethodDescriptor yX3_placeBoxes.desc).map (fun d => d.parameters.length) = some 1 := by decide +kernel
theorem ok_X3_placeNotes : yX3_placeNotes.cls ≠ "java/lang/invoke/MethodHandle" ∧ yX3_placeNotes.cls ≠ "java/lang/invoke/VarHandle" ∧ (parseMethodDescriptor yX3_placeNotes.desc).map (fun d => d.parameters.length) = some 0 := by decide +kernel
theorem ok_X3_sharedVerse : yX3_sharedVerse.cls ≠ "java/lang/invoke/MethodHandle" ∧ yX3_sharedVerse.cls ≠ "java/lang/invoke/VarHandle" ∧ (parseMethodDescriptor yX3_sharedVerse.desc).map (fun d => d.parameters.length) = some 1 := by decide +kernel
theorem ok_X3_syllablesInAll : yX3_syllablesInAll.cls ≠ "java/lang/invoke/MethodHandle" ∧ yX3_syllablesInAll.cls ≠ "java/lang/invoke/VarHandle" ∧ (parseMethodDescriptor yX3_syllablesInAll.desc).map (fun d => d.parameters.length) = some 0 := by decide +kernel
theorem ok_X4_alone : yX4_alone.cls ≠ "java/lang/invoke/MethodHandle" ∧ yX4_alone.cls ≠ "java/lang/invoke/VarHandle" ∧ (parseMethodDescriptor yX4_alone.desc).map (fun d => d.parameters.length) = some 1 := by decide +kernel
theorem ok_X4_areAlike : yX4_areAlike.cls ≠ "java/lang/invoke/MethodHandle" ∧ yX4_areAlike.cls ≠ "java/lang/invoke/VarHandle" ∧ (parseMethodDescriptor yX4_areAlike.desc).map (fun d => d.parameters.length) = some 2 := by decide +kernel
theorem ok_X4_areAlikeAt : yX4_areAlikeAt.cls ≠ "java/lang/invoke/MethodHandle" ∧ yX4_areAlikeAt.cls ≠ "java/lang/invoke/VarHandle" ∧ (parseMethodDescriptor yX4_areAlikeAt.desc).map (fun d => d.parameters.length) = some 3 := by decide +kernel
theorem ok_X4_chordBefore : yX4_chordBefore.cls ≠ "java/lang/invoke/MethodHandle" ∧ yX4_chordBefore.cls ≠ "java/lang/invoke/VarHandle" ∧ (parseMethodDescriptor yX4_chordBefore.desc).map (fun d => d.parameters.length) = some 1 := by decide +kernel
theorem ok_X4_endOf : yX4_endOf.cls ≠ "java/lang/invoke/MethodHandle" ∧ yX4_endOf.cls ≠ "java/lang/invoke/VarHandle" ∧ (parseMethodDescriptor yX4_endOf.desc).map (fun d => d.parameters.length) = some 2 := by decide +kernel
theorem ok_X4_faultAt : yX4_faultAt.cls ≠ "java/lang/invoke/MethodHandle" ∧ yX4_faultAt.cls ≠ "java/lang/invoke/VarHandle" ∧ (parseMethodDescriptor yX4_faultAt.desc).map (fun d => d.parameters.length) = some 2 := by decide +kernel
theorem ok_X4_faults : yX4_faults.cls ≠ "java/lang/invoke/MethodHandle" ∧ yX4_faults.cls ≠ "java/lang/invoke/VarHandle" ∧ (parseMethodDescriptor yX4_faults.desc).map (fun d => d.parameters.length) = some 0 := by decide +kernel
theorem ok_X4_free : yX4_free.cls ≠ "java/lang/invoke/MethodHandle" ∧ yX4_free.cls ≠ "java/lang/invoke/VarHandle" ∧ (parseMethodDescriptor yX4_free.desc).map (fun d => d.parameters.length) = some 2 := by decide +kernel
theorem ok_X4_fresh : yX4_fresh.cls ≠ "java/lang/invoke/MethodHandle" ∧ yX4_fresh.cls ≠ "java/lang/invoke/VarHandle" ∧ (parseMethodDescriptor yX4_fresh.desc).map (fun d => d.parameters.length) = some 0 := by decide +kernel
theorem ok_X4_goesOn : yX4_goesOn.cls ≠ "java/lang/invoke/MethodHandle" ∧ yX4_goesOn.cls ≠ "java/lang/invoke/VarHandle" ∧ (parseMethodDescriptor yX4_goesOn.desc).map (fun d => d.parameters.length) = some 2 := by decide +kernel
theorem ok_X4_greater : yX4_greater.cls ≠ "java/lang/invoke/MethodHandle" ∧ yX4_greater.cls ≠ "java/lang/invoke/VarHandle" ∧ (parseMethodDescriptor yX4_greater.desc).map (fun d => d.parameters.length) = some 2 := by decide +kernel
theorem ok_X4_greatest : yX4_greatest.cls ≠ "java/lang/invoke/MethodHandle" ∧ yX4_greatest.cls ≠ "java/lang/invoke/VarHandle" ∧ (parseMethodDescriptor yX4_greatest.desc).map (fun d => d.parameters.length) = some 1 := by decide +kernel
theorem ok_X4_hasBoxes : yX4_hasBoxes.cls ≠ "java/lang/invoke/MethodHandle" ∧ yX4_hasBoxes.cls ≠ "java/lang/invoke/VarHandle" ∧ (parseMethodDescriptor yX4_hasBoxes.desc).map (fun d => d.parameters.length) = some 1 := by decide +kernel
theorem ok_X4_hyphenMany : yX4_hyphenMany.cls ≠ "java/lang/invoke/MethodHandle" ∧ yX4_hyphenMany.cls ≠ "java/lang/invoke/VarHandle" ∧ (parseMethodDescriptor yX4_hyphenMany.desc).map (fun d => d.parameters.length) = some 2 := by decide +kernel
theorem ok_X4_init : yX4_init.cls ≠ "java/lang/invoke/MethodHandle" ∧ yX4_init.cls ≠ "java/lang/invoke/VarHandle" ∧ (parseMethodDescriptor yX4_init.desc).map (fun d => d.parameters.length) = some 0 := by decide +kernel
theorem ok_X4_isBehindFirst : yX4_isBehindFirst.cls ≠ "java/lang/invoke/MethodHandle" ∧ yX4_isBehindFirst.cls ≠ "java/lang/invoke/VarHandle" ∧ (parseMethodDescriptor yX4_isBehindFirst.desc).map (fun d => d.parameters.length) = some 1 := by decide +kernel
theorem ok_X4_isBox : yX4_isBox.cls ≠ "java/lang/invoke/MethodHandle" ∧ yX4_isBox.cls ≠ "java/lang/invoke/VarHandle" ∧ (parseMethodDescriptor yX4_isBox.desc).map (fun d => d.parameters.length) = some 2 := by decide +kernel
theorem ok_X4_isNote : yX4_isNote.cls ≠ "java/lang/invoke/MethodHandle" ∧ yX4_isNote.cls ≠ "java/lang/invoke/VarHandle" ∧ (parseMethodDescriptor yX4_isNote.desc).map (fun d => d.parameters.length) = some 1 := by decide +kernel
theorem ok_X4_isVerse : yX4_isVerse.cls ≠ "java/lang/invoke/MethodHandle" ∧ yX4_isVerse.cls ≠ "java/lang/invoke/VarHandle" ∧ (parseMethodDescriptor yX4_isVerse.desc).map (fun d => d.parameters.length) = some 1 := by decide +kernel
theorem ok_X4_lies : yX4_lies.cls ≠ "java/lang/invoke/MethodHandle" ∧ yX4_lies.cls ≠ "java/lang/invoke/VarHandle" ∧ (parseMethodDescriptor yX4_lies.desc).map (fun d => d.parameters.length) = some 3 := by decide +kernel
theorem ok_X4_noBox : yX4_noBox.cls ≠ "java/lang/invoke/MethodHandle" ∧ yX4_noBox.cls ≠ "java/lang/invoke/VarHandle" ∧ (parseMethodDescriptor yX4_noBox.desc).map (fun d => d.parameters.length) = some 2 := by decide +kernel
theorem ok_X4_offset : yX4_offset.cls ≠ "java/lang/invoke/MethodHandle" ∧ yX4_offset.cls ≠ "java/lang/invoke/VarHandle" ∧ (parseMethodDescriptor yX4_offset.desc).map (fun d => d.parameters.length) = some 2 := by decide +kernel
theorem ok_X4_other : yX4_other.cls ≠ "java/lang/invoke/MethodHandle" ∧ yX4_other.cls ≠ "java/lang/invoke/VarHandle" ∧ (parseMethodDescriptor yX4_other.desc).map (fun d => d.parameters.length) = some 3 := by decide +kernel
theorem ok_X4_placeNote : yX4_placeNote.cls ≠ "java/lang/invoke/MethodHandle" ∧ yX4_placeNote.cls ≠ "java/lang/invoke/VarHandle" ∧ (parseMethodDescriptor yX4_placeNote.desc).map (fun d => d.parameters.length) = some 1 := by decide +kernel
theorem ok_X4_sharedWith : yX4_sharedWith.cls ≠ "java/lang/invoke/MethodHandle" ∧ yX4_sharedWith.cls ≠ "java/lang/invoke/VarHandle" ∧ (parseMethodDescriptor yX4_sharedWith.desc).map (fun d => d.parameters.length) = some 1 := by decide +kernel
theorem ok_X4_signAt : yX4_signAt.cls ≠ "java/lang/invoke/MethodHandle" ∧ yX4_signAt.cls ≠ "java/lang/invoke/VarHandle" ∧ (parseMethodDescriptor yX4_signAt.desc).map (fun d => d.parameters.length) = some 1 := by decide +kernel
theorem ok_X4_stands : yX4_stands.cls ≠ "java/lang/invoke/MethodHandle" ∧ yX4_stands.cls ≠ "java/lang/invoke/VarHandle" ∧ (parseMethodDescriptor yX4_stands.desc).map (fun d => d.parameters.length) = some 2 := by decide +kernel
theorem ok_X4_syllablesOf : yX4_syllablesOf.cls ≠ "java/lang/invoke/MethodHandle" ∧ yX4_syllablesOf.cls ≠ "java/lang/invoke/VarHandle" ∧ (parseMethodDescriptor yX4_syllablesOf.desc).map (fun d => d.parameters.length) = some 2 := by decide +kernel
theorem ok_X4_wideOf : yX4_wideOf.cls ≠ "java/lang/invoke/MethodHandle" ∧ yX4_wideOf.cls ≠ "java/lang/invoke/VarHandle" ∧ (parseMethodDescriptor yX4_wideOf.desc).map (fun d => d.parameters.length) = some 2 := by decide +kernel
