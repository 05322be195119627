theorem zq_4 : (.selects zR_Fo zy_Fo_wordAt zy_Fo_wordAt : Cond) ∈ mp_tbl := List.mem_filter.mpr ⟨List.mem_of_getElem? (i := 4) (by decide +kernel), by decide +kernel⟩
theorem zq_5 : (.selects zR_Fo zy_Fo_numberAt zy_Fo_numberAt : Cond) ∈ mp_tbl := List.mem_filter.mpr ⟨List.mem_of_getElem? (i := 5) (by decide +kernel), by decide +kernel⟩
theorem zq_6 : (.selects zR_Fo zy_Fo_takeWord zy_Fo_takeWord : Cond) ∈ mp_tbl := List.mem_filter.mpr ⟨List.mem_of_getElem? (i := 6) (by decide +kernel), by decide +kernel⟩
theorem zq_25 : (.initialized zR_MP : Cond) ∈ mp_tbl := List.mem_filter.mpr ⟨List.mem_of_getElem? (i := 25) (by decide +kernel), by decide +kernel⟩
theorem zq_27 : (.initialized zR_Ch : Cond) ∈ mp_tbl := List.mem_filter.mpr ⟨List.mem_of_getElem? (i := 27) (by decide +kernel), by decide +kernel⟩
theorem zq_29 : (.initialized zR_Fo : Cond) ∈ mp_tbl := List.mem_filter.mpr ⟨List.mem_of_getElem? (i := 29) (by decide +kernel), by decide +kernel⟩
theorem zq_31 : (.initialized zR_Ja : Cond) ∈ mp_tbl := List.mem_filter.mpr ⟨List.mem_of_getElem? (i := 31) (by decide +kernel), by decide +kernel⟩
theorem zq_32 : (.initialized zR_Js : Cond) ∈ mp_tbl := List.mem_filter.mpr ⟨List.mem_of_getElem? (i := 32) (by decide +kernel), by decide +kernel⟩
theorem zq_54 : (.fieldLink zR_Ch 9 "MaterialPassports$Changes" "changedParts" "[I" : Cond) ∈ mp_tbl := List.mem_filter.mpr ⟨List.mem_of_getElem? (i := 54) (by decide +kernel), by decide +kernel⟩
theorem zq_55 : (.fieldLink zR_Ch 15 "MaterialPassports$Changes" "days" "[J" : Cond) ∈ mp_tbl := List.mem_filter.mpr ⟨List.mem_of_getElem? (i := 55) (by decide +kernel), by decide +kernel⟩
theorem zq_56 : (.fieldLink zR_Ch 19 "MaterialPassports$Changes" "kinds" "[I" : Cond) ∈ mp_tbl := List.mem_filter.mpr ⟨List.mem_of_getElem? (i := 56) (by decide +kernel), by decide +kernel⟩
theorem zq_57 : (.fieldLink zR_Pa 47 "MaterialPassports$Changes" "kinds" "[I" : Cond) ∈ mp_tbl := List.mem_filter.mpr ⟨List.mem_of_getElem? (i := 57) (by decide +kernel), by decide +kernel⟩
theorem zq_58 : (.fieldLink zR_Ch 22 "MaterialPassports$Changes" "grams" "[J" : Cond) ∈ mp_tbl := List.mem_filter.mpr ⟨List.mem_of_getElem? (i := 58) (by decide +kernel), by decide +kernel⟩
theorem zq_60 : (.fieldLink zR_Ch 25 "MaterialPassports$Changes" "count" "I" : Cond) ∈ mp_tbl := List.mem_filter.mpr ⟨List.mem_of_getElem? (i := 60) (by decide +kernel), by decide +kernel⟩
theorem zq_77 : (.fieldLink zR_Ne 49 "MaterialPassports$Parts" "owners" "[I" : Cond) ∈ mp_tbl := List.mem_filter.mpr ⟨List.mem_of_getElem? (i := 77) (by decide +kernel), by decide +kernel⟩
theorem zq_78 : (.fieldLink zR_Pa 15 "MaterialPassports$Parts" "kinds" "[I" : Cond) ∈ mp_tbl := List.mem_filter.mpr ⟨List.mem_of_getElem? (i := 78) (by decide +kernel), by decide +kernel⟩
theorem zq_84 : (.fieldLink zR_Ne 57 "MaterialPassports$Parts" "inners" "[I" : Cond) ∈ mp_tbl := List.mem_filter.mpr ⟨List.mem_of_getElem? (i := 84) (by decide +kernel), by decide +kernel⟩
theorem zq_85 : (.fieldLink zR_Pa 31 "MaterialPassports$Parts" "changes" "LMaterialPassports$Changes;" : Cond) ∈ mp_tbl := List.mem_filter.mpr ⟨List.mem_of_getElem? (i := 85) (by decide +kernel), by decide +kernel⟩
theorem zq_88 : (.fieldLink zR_Ne 35 "MaterialPassports$Parts" "count" "I" : Cond) ∈ mp_tbl := List.mem_filter.mpr ⟨List.mem_of_getElem? (i := 88) (by decide +kernel), by decide +kernel⟩
theorem zq_111 : (.fieldLink zR_Ne 9 "MaterialPassports$Nesting" "times" "[J" : Cond) ∈ mp_tbl := List.mem_filter.mpr ⟨List.mem_of_getElem? (i := 111) (by decide +kernel), by decide +kernel⟩
theorem zq_112 : (.fieldLink zR_Ne 15 "MaterialPassports$Nesting" "layer" "[J" : Cond) ∈ mp_tbl := List.mem_filter.mpr ⟨List.mem_of_getElem? (i := 112) (by decide +kernel), by decide +kernel⟩
theorem zq_113 : (.fieldLink zR_Ne 18 "MaterialPassports$Nesting" "deeper" "[J" : Cond) ∈ mp_tbl := List.mem_filter.mpr ⟨List.mem_of_getElem? (i := 113) (by decide +kernel), by decide +kernel⟩
theorem zq_127 : (.fieldLink zR_Fo 11 "MaterialPassports$Formula" "text" "[I" : Cond) ∈ mp_tbl := List.mem_filter.mpr ⟨List.mem_of_getElem? (i := 127) (by decide +kernel), by decide +kernel⟩
theorem zq_128 : (.fieldLink zR_Fo 15 "MaterialPassports$Formula" "readWords" "[I" : Cond) ∈ mp_tbl := List.mem_filter.mpr ⟨List.mem_of_getElem? (i := 128) (by decide +kernel), by decide +kernel⟩
theorem zq_129 : (.fieldLink zR_Fo 18 "MaterialPassports$Formula" "words" "[I" : Cond) ∈ mp_tbl := List.mem_filter.mpr ⟨List.mem_of_getElem? (i := 129) (by decide +kernel), by decide +kernel⟩
theorem zq_131 : (.fieldLink zR_Fo 25 "MaterialPassports$Formula" "textLength" "I" : Cond) ∈ mp_tbl := List.mem_filter.mpr ⟨List.mem_of_getElem? (i := 131) (by decide +kernel), by decide +kernel⟩
theorem zq_132 : (.fieldLink zR_Fo 29 "MaterialPassports$Formula" "readCount" "I" : Cond) ∈ mp_tbl := List.mem_filter.mpr ⟨List.mem_of_getElem? (i := 132) (by decide +kernel), by decide +kernel⟩
theorem zq_133 : (.fieldLink zR_Fo 32 "MaterialPassports$Formula" "readDepth" "I" : Cond) ∈ mp_tbl := List.mem_filter.mpr ⟨List.mem_of_getElem? (i := 133) (by decide +kernel), by decide +kernel⟩
theorem zq_134 : (.fieldLink zR_Fo 35 "MaterialPassports$Formula" "wordCount" "I" : Cond) ∈ mp_tbl := List.mem_filter.mpr ⟨List.mem_of_getElem? (i := 134) (by decide +kernel), by decide +kernel⟩
theorem zq_194 : (.static zy_MP_isKind : Cond) ∈ mp_tbl := List.mem_filter.mpr ⟨List.mem_of_getElem? (i := 194) (by decide +kernel), by decide +kernel⟩
theorem zq_195 : (.code zy_MP_isKind zb_MP_isKind 1 (some .boolean) : Cond) ∈ mp_tbl := List.mem_filter.mpr ⟨List.mem_of_getElem? (i := 195) (by decide +kernel), by decide +kernel⟩
theorem zq_221 : (.methodLink zR_Ne 29 zy_Ja_fill : Cond) ∈ mp_tbl := List.mem_filter.mpr ⟨List.mem_of_getElem? (i := 221) (by decide +kernel), by decide +kernel⟩
theorem zq_222 : (.static zy_Ja_fill : Cond) ∈ mp_tbl := List.mem_filter.mpr ⟨List.mem_of_getElem? (i := 222) (by decide +kernel), by decide +kernel⟩
theorem zq_223 : (.code zy_Ja_fill zb_Ja_fill 5 none : Cond) ∈ mp_tbl := List.mem_filter.mpr ⟨List.mem_of_getElem? (i := 223) (by decide +kernel), by decide +kernel⟩
theorem zq_237 : (.instanceMethod zy_Ch_isFull : Cond) ∈ mp_tbl := List.mem_filter.mpr ⟨List.mem_of_getElem? (i := 237) (by decide +kernel), by decide +kernel⟩
theorem zq_238 : (.selects zR_Ch zy_Ch_isFull zy_Ch_isFull : Cond) ∈ mp_tbl := List.mem_filter.mpr ⟨List.mem_of_getElem? (i := 238) (by decide +kernel), by decide +kernel⟩
theorem zq_239 : (.code zy_Ch_isFull zb_Ch_isFull 1 (some .boolean) : Cond) ∈ mp_tbl := List.mem_filter.mpr ⟨List.mem_of_getElem? (i := 239) (by decide +kernel), by decide +kernel⟩
theorem zq_248 : (.methodLink zR_Ch 29 zy_Ch_isFull : Cond) ∈ mp_tbl := List.mem_filter.mpr ⟨List.mem_of_getElem? (i := 248) (by decide +kernel), by decide +kernel⟩
theorem zq_270 : (.methodLink zR_Pa 43 zy_Ch_countingOn : Cond) ∈ mp_tbl := List.mem_filter.mpr ⟨List.mem_of_getElem? (i := 270) (by decide +kernel), by decide +kernel⟩
theorem zq_271 : (.instanceMethod zy_Ch_countingOn : Cond) ∈ mp_tbl := List.mem_filter.mpr ⟨List.mem_of_getElem? (i := 271) (by decide +kernel), by decide +kernel⟩
theorem zq_272 : (.selects zR_Ch zy_Ch_countingOn zy_Ch_countingOn : Cond) ∈ mp_tbl := List.mem_filter.mpr ⟨List.mem_of_getElem? (i := 272) (by decide +kernel), by decide +kernel⟩
theorem zq_273 : (.code zy_Ch_countingOn zb_Ch_countingOn 6 (some .int) : Cond) ∈ mp_tbl := List.mem_filter.mpr ⟨List.mem_of_getElem? (i := 273) (by decide +kernel), by decide +kernel⟩
theorem zq_330 : (.methodLink zR_Fo 38 zy_Fo_isGap : Cond) ∈ mp_tbl := List.mem_filter.mpr ⟨List.mem_of_getElem? (i := 330) (by decide +kernel), by decide +kernel⟩
theorem zq_331 : (.static zy_Fo_isGap : Cond) ∈ mp_tbl := List.mem_filter.mpr ⟨List.mem_of_getElem? (i := 331) (by decide +kernel), by decide +kernel⟩
theorem zq_332 : (.code zy_Fo_isGap zb_Fo_isGap 1 (some .boolean) : Cond) ∈ mp_tbl := List.mem_filter.mpr ⟨List.mem_of_getElem? (i := 332) (by decide +kernel), by decide +kernel⟩
theorem zq_333 : (.methodLink zR_Fo 42 zy_Fo_wordAt : Cond) ∈ mp_tbl := List.mem_filter.mpr ⟨List.mem_of_getElem? (i := 333) (by decide +kernel), by decide +kernel⟩
theorem zq_335 : (.instanceMethod zy_Fo_wordAt : Cond) ∈ mp_tbl := List.mem_filter.mpr ⟨List.mem_of_getElem? (i := 335) (by decide +kernel), by decide +kernel⟩
theorem zq_336 : (.code zy_Fo_wordAt zb_Fo_wordAt 4 (some .int) : Cond) ∈ mp_tbl := List.mem_filter.mpr ⟨List.mem_of_getElem? (i := 336) (by decide +kernel), by decide +kernel⟩
theorem zq_337 : (.methodLink zR_Fo 58 zy_Fo_isDigit : Cond) ∈ mp_tbl := List.mem_filter.mpr ⟨List.mem_of_getElem? (i := 337) (by decide +kernel), by decide +kernel⟩
theorem zq_338 : (.static zy_Fo_isDigit : Cond) ∈ mp_tbl := List.mem_filter.mpr ⟨List.mem_of_getElem? (i := 338) (by decide +kernel), by decide +kernel⟩
theorem zq_339 : (.code zy_Fo_isDigit zb_Fo_isDigit 1 (some .boolean) : Cond) ∈ mp_tbl := List.mem_filter.mpr ⟨List.mem_of_getElem? (i := 339) (by decide +kernel), by decide +kernel⟩
theorem zq_340 : (.methodLink zR_Fo 61 zy_Fo_numberAt : Cond) ∈ mp_tbl := List.mem_filter.mpr ⟨List.mem_of_getElem? (i := 340) (by decide +kernel), by decide +kernel⟩
theorem zq_342 : (.instanceMethod zy_Fo_numberAt : Cond) ∈ mp_tbl := List.mem_filter.mpr ⟨List.mem_of_getElem? (i := 342) (by decide +kernel), by decide +kernel⟩
theorem zq_343 : (.code zy_Fo_numberAt zb_Fo_numberAt 5 (some .int) : Cond) ∈ mp_tbl := List.mem_filter.mpr ⟨List.mem_of_getElem? (i := 343) (by decide +kernel), by decide +kernel⟩
theorem zq_344 : (.methodLink zR_Fo 64 zy_Fo_signOf : Cond) ∈ mp_tbl := List.mem_filter.mpr ⟨List.mem_of_getElem? (i := 344) (by decide +kernel), by decide +kernel⟩
theorem zq_345 : (.static zy_Fo_signOf : Cond) ∈ mp_tbl := List.mem_filter.mpr ⟨List.mem_of_getElem? (i := 345) (by decide +kernel), by decide +kernel⟩
theorem zq_346 : (.code zy_Fo_signOf zb_Fo_signOf 1 (some .int) : Cond) ∈ mp_tbl := List.mem_filter.mpr ⟨List.mem_of_getElem? (i := 346) (by decide +kernel), by decide +kernel⟩
theorem zq_347 : (.methodLink zR_Fo 68 zy_Fo_shareOf : Cond) ∈ mp_tbl := List.mem_filter.mpr ⟨List.mem_of_getElem? (i := 347) (by decide +kernel), by decide +kernel⟩
theorem zq_348 : (.static zy_Fo_shareOf : Cond) ∈ mp_tbl := List.mem_filter.mpr ⟨List.mem_of_getElem? (i := 348) (by decide +kernel), by decide +kernel⟩
theorem zq_349 : (.code zy_Fo_shareOf zb_Fo_shareOf 2 (some .int) : Cond) ∈ mp_tbl := List.mem_filter.mpr ⟨List.mem_of_getElem? (i := 349) (by decide +kernel), by decide +kernel⟩
theorem zq_351 : (.methodLink zR_Fo 71 zy_Fo_boundOf : Cond) ∈ mp_tbl := List.mem_filter.mpr ⟨List.mem_of_getElem? (i := 351) (by decide +kernel), by decide +kernel⟩
theorem zq_352 : (.static zy_Fo_boundOf : Cond) ∈ mp_tbl := List.mem_filter.mpr ⟨List.mem_of_getElem? (i := 352) (by decide +kernel), by decide +kernel⟩
theorem zq_353 : (.code zy_Fo_boundOf zb_Fo_boundOf 2 (some .int) : Cond) ∈ mp_tbl := List.mem_filter.mpr ⟨List.mem_of_getElem? (i := 353) (by decide +kernel), by decide +kernel⟩
theorem zq_354 : (.methodLink zR_Fo 46 zy_Fo_takeWord : Cond) ∈ mp_tbl := List.mem_filter.mpr ⟨List.mem_of_getElem? (i := 354) (by decide +kernel), by decide +kernel⟩
theorem zq_356 : (.instanceMethod zy_Fo_takeWord : Cond) ∈ mp_tbl := List.mem_filter.mpr ⟨List.mem_of_getElem? (i := 356) (by decide +kernel), by decide +kernel⟩
theorem zq_357 : (.code zy_Fo_takeWord zb_Fo_takeWord 3 (some .boolean) : Cond) ∈ mp_tbl := List.mem_filter.mpr ⟨List.mem_of_getElem? (i := 357) (by decide +kernel), by decide +kernel⟩
theorem zq_358 : (.methodLink zR_Fo 55 zy_Fo_joinsTwo : Cond) ∈ mp_tbl := List.mem_filter.mpr ⟨List.mem_of_getElem? (i := 358) (by decide +kernel), by decide +kernel⟩
theorem zq_359 : (.static zy_Fo_joinsTwo : Cond) ∈ mp_tbl := List.mem_filter.mpr ⟨List.mem_of_getElem? (i := 359) (by decide +kernel), by decide +kernel⟩
theorem zq_360 : (.code zy_Fo_joinsTwo zb_Fo_joinsTwo 1 (some .boolean) : Cond) ∈ mp_tbl := List.mem_filter.mpr ⟨List.mem_of_getElem? (i := 360) (by decide +kernel), by decide +kernel⟩
theorem zq_361 : (.methodLink zR_Fo 49 arraycopyName : Cond) ∈ mp_tbl := List.mem_filter.mpr ⟨List.mem_of_getElem? (i := 361) (by decide +kernel), by decide +kernel⟩
theorem zq_362 : (.static arraycopyName : Cond) ∈ mp_tbl := List.mem_filter.mpr ⟨List.mem_of_getElem? (i := 362) (by decide +kernel), by decide +kernel⟩
theorem zq_363 : (.native arraycopyName : Cond) ∈ mp_tbl := List.mem_filter.mpr ⟨List.mem_of_getElem? (i := 363) (by decide +kernel), by decide +kernel⟩
