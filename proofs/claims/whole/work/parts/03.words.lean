theorem zq_0 : (.selects zR_MP zy_MP_isGood zy_MP_isGood : Cond) ∈ mp_tbl := List.mem_filter.mpr ⟨List.mem_of_getElem? (i := 0) (by decide +kernel), by decide +kernel⟩
theorem zq_1 : (.selects zR_Ne zy_Ne_countWithin zy_Ne_countWithin : Cond) ∈ mp_tbl := List.mem_filter.mpr ⟨List.mem_of_getElem? (i := 1) (by decide +kernel), by decide +kernel⟩
theorem zq_2 : (.selects zR_Ne zy_Ne_goDeeper zy_Ne_goDeeper : Cond) ∈ mp_tbl := List.mem_filter.mpr ⟨List.mem_of_getElem? (i := 2) (by decide +kernel), by decide +kernel⟩
theorem zq_3 : (.selects zR_Ne zy_Ne_sumByTimes zy_Ne_sumByTimes : Cond) ∈ mp_tbl := List.mem_filter.mpr ⟨List.mem_of_getElem? (i := 3) (by decide +kernel), by decide +kernel⟩
theorem zq_4 : (.selects zR_Fo zy_Fo_wordAt zy_Fo_wordAt : Cond) ∈ mp_tbl := List.mem_filter.mpr ⟨List.mem_of_getElem? (i := 4) (by decide +kernel), by decide +kernel⟩
theorem zq_5 : (.selects zR_Fo zy_Fo_numberAt zy_Fo_numberAt : Cond) ∈ mp_tbl := List.mem_filter.mpr ⟨List.mem_of_getElem? (i := 5) (by decide +kernel), by decide +kernel⟩
theorem zq_6 : (.selects zR_Fo zy_Fo_takeWord zy_Fo_takeWord : Cond) ∈ mp_tbl := List.mem_filter.mpr ⟨List.mem_of_getElem? (i := 6) (by decide +kernel), by decide +kernel⟩
theorem zq_7 : (.selects zR_MP zy_MP_valueFor zy_MP_valueFor : Cond) ∈ mp_tbl := List.mem_filter.mpr ⟨List.mem_of_getElem? (i := 7) (by decide +kernel), by decide +kernel⟩
theorem zq_8 : (.selects zR_MP zy_MP_kindsAhead zy_MP_kindsAhead : Cond) ∈ mp_tbl := List.mem_filter.mpr ⟨List.mem_of_getElem? (i := 8) (by decide +kernel), by decide +kernel⟩
theorem zq_9 : (.selects zR_Mo zy_Mo_isGood zy_Mo_isGood : Cond) ∈ mp_tbl := List.mem_filter.mpr ⟨List.mem_of_getElem? (i := 9) (by decide +kernel), by decide +kernel⟩
theorem zq_10 : (.selects zR_Mo zy_Mo_isPart zy_Mo_isPart : Cond) ∈ mp_tbl := List.mem_filter.mpr ⟨List.mem_of_getElem? (i := 10) (by decide +kernel), by decide +kernel⟩
theorem zq_11 : (.selects zR_Mo zy_Mo_inside zy_Mo_inside : Cond) ∈ mp_tbl := List.mem_filter.mpr ⟨List.mem_of_getElem? (i := 11) (by decide +kernel), by decide +kernel⟩
theorem zq_12 : (.selects zR_Mo zy_Mo_add zy_Mo_add : Cond) ∈ mp_tbl := List.mem_filter.mpr ⟨List.mem_of_getElem? (i := 12) (by decide +kernel), by decide +kernel⟩
theorem zq_13 : (.selects zR_Mo zy_Mo_sum zy_Mo_sum : Cond) ∈ mp_tbl := List.mem_filter.mpr ⟨List.mem_of_getElem? (i := 13) (by decide +kernel), by decide +kernel⟩
theorem zq_14 : (.selects zR_Mo zy_Mo_kindOn zy_Mo_kindOn : Cond) ∈ mp_tbl := List.mem_filter.mpr ⟨List.mem_of_getElem? (i := 14) (by decide +kernel), by decide +kernel⟩
theorem zq_15 : (.selects zR_Mo zy_Mo_changeOf zy_Mo_changeOf : Cond) ∈ mp_tbl := List.mem_filter.mpr ⟨List.mem_of_getElem? (i := 15) (by decide +kernel), by decide +kernel⟩
theorem zq_16 : (.selects zR_Mo zy_Mo_gramsOn zy_Mo_gramsOn : Cond) ∈ mp_tbl := List.mem_filter.mpr ⟨List.mem_of_getElem? (i := 16) (by decide +kernel), by decide +kernel⟩
theorem zq_17 : (.selects zR_Mo zy_Mo_partOf zy_Mo_partOf : Cond) ∈ mp_tbl := List.mem_filter.mpr ⟨List.mem_of_getElem? (i := 17) (by decide +kernel), by decide +kernel⟩
theorem zq_18 : (.selects zR_Mo zy_Mo_wordAt zy_Mo_wordAt : Cond) ∈ mp_tbl := List.mem_filter.mpr ⟨List.mem_of_getElem? (i := 18) (by decide +kernel), by decide +kernel⟩
theorem zq_19 : (.selects zR_Mo zy_Mo_is zy_Mo_is : Cond) ∈ mp_tbl := List.mem_filter.mpr ⟨List.mem_of_getElem? (i := 19) (by decide +kernel), by decide +kernel⟩
theorem zq_20 : (.selects zR_Mo zy_Mo_valueOf zy_Mo_valueOf : Cond) ∈ mp_tbl := List.mem_filter.mpr ⟨List.mem_of_getElem? (i := 20) (by decide +kernel), by decide +kernel⟩
theorem zq_21 : (.selects zR_Mo zy_Mo_countOf zy_Mo_countOf : Cond) ∈ mp_tbl := List.mem_filter.mpr ⟨List.mem_of_getElem? (i := 21) (by decide +kernel), by decide +kernel⟩
theorem zq_22 : (.selects zR_Mo zy_Mo_shareOf zy_Mo_shareOf : Cond) ∈ mp_tbl := List.mem_filter.mpr ⟨List.mem_of_getElem? (i := 22) (by decide +kernel), by decide +kernel⟩
theorem zq_23 : (.selects zR_Mo zy_Mo_allOf zy_Mo_allOf : Cond) ∈ mp_tbl := List.mem_filter.mpr ⟨List.mem_of_getElem? (i := 23) (by decide +kernel), by decide +kernel⟩
theorem zq_25 : (.initialized zR_MP : Cond) ∈ mp_tbl := List.mem_filter.mpr ⟨List.mem_of_getElem? (i := 25) (by decide +kernel), by decide +kernel⟩
theorem zq_26 : (.initialized zR_Pa : Cond) ∈ mp_tbl := List.mem_filter.mpr ⟨List.mem_of_getElem? (i := 26) (by decide +kernel), by decide +kernel⟩
theorem zq_27 : (.initialized zR_Ch : Cond) ∈ mp_tbl := List.mem_filter.mpr ⟨List.mem_of_getElem? (i := 27) (by decide +kernel), by decide +kernel⟩
theorem zq_28 : (.initialized zR_Ne : Cond) ∈ mp_tbl := List.mem_filter.mpr ⟨List.mem_of_getElem? (i := 28) (by decide +kernel), by decide +kernel⟩
theorem zq_29 : (.initialized zR_Fo : Cond) ∈ mp_tbl := List.mem_filter.mpr ⟨List.mem_of_getElem? (i := 29) (by decide +kernel), by decide +kernel⟩
theorem zq_30 : (.initialized zR_Mo : Cond) ∈ mp_tbl := List.mem_filter.mpr ⟨List.mem_of_getElem? (i := 30) (by decide +kernel), by decide +kernel⟩
theorem zq_31 : (.initialized zR_Ja : Cond) ∈ mp_tbl := List.mem_filter.mpr ⟨List.mem_of_getElem? (i := 31) (by decide +kernel), by decide +kernel⟩
theorem zq_32 : (.initialized zR_Js : Cond) ∈ mp_tbl := List.mem_filter.mpr ⟨List.mem_of_getElem? (i := 32) (by decide +kernel), by decide +kernel⟩
theorem zq_33 : (.initialized zR_Jm : Cond) ∈ mp_tbl := List.mem_filter.mpr ⟨List.mem_of_getElem? (i := 33) (by decide +kernel), by decide +kernel⟩
theorem zq_34 : (.classLink zR_La 7 zR_MP : Cond) ∈ mp_tbl := List.mem_filter.mpr ⟨List.mem_of_getElem? (i := 34) (by decide +kernel), by decide +kernel⟩
theorem zq_35 : (.instantiable zR_MP 7 : Cond) ∈ mp_tbl := List.mem_filter.mpr ⟨List.mem_of_getElem? (i := 35) (by decide +kernel), by decide +kernel⟩
theorem zq_36 : (.methodLink zR_La 9 zy_MP_init : Cond) ∈ mp_tbl := List.mem_filter.mpr ⟨List.mem_of_getElem? (i := 36) (by decide +kernel), by decide +kernel⟩
theorem zq_37 : (.instanceMethod zy_MP_init : Cond) ∈ mp_tbl := List.mem_filter.mpr ⟨List.mem_of_getElem? (i := 37) (by decide +kernel), by decide +kernel⟩
theorem zq_38 : (.code zy_MP_init zb_MP_init 1 none : Cond) ∈ mp_tbl := List.mem_filter.mpr ⟨List.mem_of_getElem? (i := 38) (by decide +kernel), by decide +kernel⟩
theorem zq_39 : (.methodLink zR_MP 1 objectInit : Cond) ∈ mp_tbl := List.mem_filter.mpr ⟨List.mem_of_getElem? (i := 39) (by decide +kernel), by decide +kernel⟩
theorem zq_40 : (.instanceMethod objectInit : Cond) ∈ mp_tbl := List.mem_filter.mpr ⟨List.mem_of_getElem? (i := 40) (by decide +kernel), by decide +kernel⟩
theorem zq_41 : (.code objectInit ⟨#[0xb1]⟩ 1 none : Cond) ∈ mp_tbl := List.mem_filter.mpr ⟨List.mem_of_getElem? (i := 41) (by decide +kernel), by decide +kernel⟩
theorem zq_42 : (.classLink zR_MP 17 zR_Pa : Cond) ∈ mp_tbl := List.mem_filter.mpr ⟨List.mem_of_getElem? (i := 42) (by decide +kernel), by decide +kernel⟩
theorem zq_43 : (.instantiable zR_Pa 7 : Cond) ∈ mp_tbl := List.mem_filter.mpr ⟨List.mem_of_getElem? (i := 43) (by decide +kernel), by decide +kernel⟩
theorem zq_45 : (.instanceMethod zy_Pa_init : Cond) ∈ mp_tbl := List.mem_filter.mpr ⟨List.mem_of_getElem? (i := 45) (by decide +kernel), by decide +kernel⟩
theorem zq_46 : (.code zy_Pa_init zb_Pa_init 1 none : Cond) ∈ mp_tbl := List.mem_filter.mpr ⟨List.mem_of_getElem? (i := 46) (by decide +kernel), by decide +kernel⟩
theorem zq_47 : (.methodLink zR_Pa 3 objectInit : Cond) ∈ mp_tbl := List.mem_filter.mpr ⟨List.mem_of_getElem? (i := 47) (by decide +kernel), by decide +kernel⟩
theorem zq_48 : (.classLink zR_Pa 28 zR_Ch : Cond) ∈ mp_tbl := List.mem_filter.mpr ⟨List.mem_of_getElem? (i := 48) (by decide +kernel), by decide +kernel⟩
theorem zq_49 : (.instantiable zR_Ch 5 : Cond) ∈ mp_tbl := List.mem_filter.mpr ⟨List.mem_of_getElem? (i := 49) (by decide +kernel), by decide +kernel⟩
theorem zq_51 : (.instanceMethod zy_Ch_init : Cond) ∈ mp_tbl := List.mem_filter.mpr ⟨List.mem_of_getElem? (i := 51) (by decide +kernel), by decide +kernel⟩
theorem zq_52 : (.code zy_Ch_init zb_Ch_init 1 none : Cond) ∈ mp_tbl := List.mem_filter.mpr ⟨List.mem_of_getElem? (i := 52) (by decide +kernel), by decide +kernel⟩
theorem zq_53 : (.methodLink zR_Ch 3 objectInit : Cond) ∈ mp_tbl := List.mem_filter.mpr ⟨List.mem_of_getElem? (i := 53) (by decide +kernel), by decide +kernel⟩
theorem zq_54 : (.fieldLink zR_Ch 9 "MaterialPassports$Changes" "changedParts" "[I" : Cond) ∈ mp_tbl := List.mem_filter.mpr ⟨List.mem_of_getElem? (i := 54) (by decide +kernel), by decide +kernel⟩
theorem zq_55 : (.fieldLink zR_Ch 15 "MaterialPassports$Changes" "days" "[J" : Cond) ∈ mp_tbl := List.mem_filter.mpr ⟨List.mem_of_getElem? (i := 55) (by decide +kernel), by decide +kernel⟩
theorem zq_56 : (.fieldLink zR_Ch 19 "MaterialPassports$Changes" "kinds" "[I" : Cond) ∈ mp_tbl := List.mem_filter.mpr ⟨List.mem_of_getElem? (i := 56) (by decide +kernel), by decide +kernel⟩
theorem zq_57 : (.fieldLink zR_Pa 47 "MaterialPassports$Changes" "kinds" "[I" : Cond) ∈ mp_tbl := List.mem_filter.mpr ⟨List.mem_of_getElem? (i := 57) (by decide +kernel), by decide +kernel⟩
theorem zq_58 : (.fieldLink zR_Ch 22 "MaterialPassports$Changes" "grams" "[J" : Cond) ∈ mp_tbl := List.mem_filter.mpr ⟨List.mem_of_getElem? (i := 58) (by decide +kernel), by decide +kernel⟩
theorem zq_59 : (.fieldLink zR_Pa 48 "MaterialPassports$Changes" "grams" "[J" : Cond) ∈ mp_tbl := List.mem_filter.mpr ⟨List.mem_of_getElem? (i := 59) (by decide +kernel), by decide +kernel⟩
theorem zq_60 : (.fieldLink zR_Ch 25 "MaterialPassports$Changes" "count" "I" : Cond) ∈ mp_tbl := List.mem_filter.mpr ⟨List.mem_of_getElem? (i := 60) (by decide +kernel), by decide +kernel⟩
theorem zq_72 : (.arrayClass .int : Cond) ∈ mp_tbl := List.mem_filter.mpr ⟨List.mem_of_getElem? (i := 72) (by decide +kernel), by decide +kernel⟩
theorem zq_73 : (.arrayClass .boolean : Cond) ∈ mp_tbl := List.mem_filter.mpr ⟨List.mem_of_getElem? (i := 73) (by decide +kernel), by decide +kernel⟩
theorem zq_74 : (.arrayClass .long : Cond) ∈ mp_tbl := List.mem_filter.mpr ⟨List.mem_of_getElem? (i := 74) (by decide +kernel), by decide +kernel⟩
theorem zq_75 : (.fieldLink zR_Pa 9 "MaterialPassports$Parts" "owners" "[I" : Cond) ∈ mp_tbl := List.mem_filter.mpr ⟨List.mem_of_getElem? (i := 75) (by decide +kernel), by decide +kernel⟩
theorem zq_76 : (.fieldLink zR_MP 71 "MaterialPassports$Parts" "owners" "[I" : Cond) ∈ mp_tbl := List.mem_filter.mpr ⟨List.mem_of_getElem? (i := 76) (by decide +kernel), by decide +kernel⟩
theorem zq_77 : (.fieldLink zR_Ne 49 "MaterialPassports$Parts" "owners" "[I" : Cond) ∈ mp_tbl := List.mem_filter.mpr ⟨List.mem_of_getElem? (i := 77) (by decide +kernel), by decide +kernel⟩
theorem zq_78 : (.fieldLink zR_Pa 15 "MaterialPassports$Parts" "kinds" "[I" : Cond) ∈ mp_tbl := List.mem_filter.mpr ⟨List.mem_of_getElem? (i := 78) (by decide +kernel), by decide +kernel⟩
theorem zq_79 : (.fieldLink zR_Pa 18 "MaterialPassports$Parts" "grams" "[J" : Cond) ∈ mp_tbl := List.mem_filter.mpr ⟨List.mem_of_getElem? (i := 79) (by decide +kernel), by decide +kernel⟩
theorem zq_80 : (.fieldLink zR_Pa 22 "MaterialPassports$Parts" "lives" "[I" : Cond) ∈ mp_tbl := List.mem_filter.mpr ⟨List.mem_of_getElem? (i := 80) (by decide +kernel), by decide +kernel⟩
theorem zq_81 : (.fieldLink zR_MP 78 "MaterialPassports$Parts" "lives" "[I" : Cond) ∈ mp_tbl := List.mem_filter.mpr ⟨List.mem_of_getElem? (i := 81) (by decide +kernel), by decide +kernel⟩
theorem zq_82 : (.fieldLink zR_Pa 25 "MaterialPassports$Parts" "inners" "[I" : Cond) ∈ mp_tbl := List.mem_filter.mpr ⟨List.mem_of_getElem? (i := 82) (by decide +kernel), by decide +kernel⟩
theorem zq_83 : (.fieldLink zR_MP 68 "MaterialPassports$Parts" "inners" "[I" : Cond) ∈ mp_tbl := List.mem_filter.mpr ⟨List.mem_of_getElem? (i := 83) (by decide +kernel), by decide +kernel⟩
theorem zq_84 : (.fieldLink zR_Ne 57 "MaterialPassports$Parts" "inners" "[I" : Cond) ∈ mp_tbl := List.mem_filter.mpr ⟨List.mem_of_getElem? (i := 84) (by decide +kernel), by decide +kernel⟩
theorem zq_85 : (.fieldLink zR_Pa 31 "MaterialPassports$Parts" "changes" "LMaterialPassports$Changes;" : Cond) ∈ mp_tbl := List.mem_filter.mpr ⟨List.mem_of_getElem? (i := 85) (by decide +kernel), by decide +kernel⟩
theorem zq_86 : (.fieldLink zR_MP 81 "MaterialPassports$Parts" "changes" "LMaterialPassports$Changes;" : Cond) ∈ mp_tbl := List.mem_filter.mpr ⟨List.mem_of_getElem? (i := 86) (by decide +kernel), by decide +kernel⟩
theorem zq_87 : (.fieldLink zR_Pa 35 "MaterialPassports$Parts" "count" "I" : Cond) ∈ mp_tbl := List.mem_filter.mpr ⟨List.mem_of_getElem? (i := 87) (by decide +kernel), by decide +kernel⟩
theorem zq_88 : (.fieldLink zR_Ne 35 "MaterialPassports$Parts" "count" "I" : Cond) ∈ mp_tbl := List.mem_filter.mpr ⟨List.mem_of_getElem? (i := 88) (by decide +kernel), by decide +kernel⟩
theorem zq_89 : (.fieldLink zR_MP 110 "MaterialPassports$Parts" "count" "I" : Cond) ∈ mp_tbl := List.mem_filter.mpr ⟨List.mem_of_getElem? (i := 89) (by decide +kernel), by decide +kernel⟩
theorem zq_105 : (.classLink zR_MP 24 zR_Ne : Cond) ∈ mp_tbl := List.mem_filter.mpr ⟨List.mem_of_getElem? (i := 105) (by decide +kernel), by decide +kernel⟩
theorem zq_106 : (.instantiable zR_Ne 3 : Cond) ∈ mp_tbl := List.mem_filter.mpr ⟨List.mem_of_getElem? (i := 106) (by decide +kernel), by decide +kernel⟩
theorem zq_108 : (.instanceMethod zy_Ne_init : Cond) ∈ mp_tbl := List.mem_filter.mpr ⟨List.mem_of_getElem? (i := 108) (by decide +kernel), by decide +kernel⟩
theorem zq_109 : (.code zy_Ne_init zb_Ne_init 1 none : Cond) ∈ mp_tbl := List.mem_filter.mpr ⟨List.mem_of_getElem? (i := 109) (by decide +kernel), by decide +kernel⟩
theorem zq_110 : (.methodLink zR_Ne 3 objectInit : Cond) ∈ mp_tbl := List.mem_filter.mpr ⟨List.mem_of_getElem? (i := 110) (by decide +kernel), by decide +kernel⟩
theorem zq_111 : (.fieldLink zR_Ne 9 "MaterialPassports$Nesting" "times" "[J" : Cond) ∈ mp_tbl := List.mem_filter.mpr ⟨List.mem_of_getElem? (i := 111) (by decide +kernel), by decide +kernel⟩
theorem zq_112 : (.fieldLink zR_Ne 15 "MaterialPassports$Nesting" "layer" "[J" : Cond) ∈ mp_tbl := List.mem_filter.mpr ⟨List.mem_of_getElem? (i := 112) (by decide +kernel), by decide +kernel⟩
theorem zq_113 : (.fieldLink zR_Ne 18 "MaterialPassports$Nesting" "deeper" "[J" : Cond) ∈ mp_tbl := List.mem_filter.mpr ⟨List.mem_of_getElem? (i := 113) (by decide +kernel), by decide +kernel⟩
theorem zq_121 : (.classLink zR_MP 31 zR_Fo : Cond) ∈ mp_tbl := List.mem_filter.mpr ⟨List.mem_of_getElem? (i := 121) (by decide +kernel), by decide +kernel⟩
theorem zq_122 : (.instantiable zR_Fo 8 : Cond) ∈ mp_tbl := List.mem_filter.mpr ⟨List.mem_of_getElem? (i := 122) (by decide +kernel), by decide +kernel⟩
theorem zq_124 : (.instanceMethod zy_Fo_init : Cond) ∈ mp_tbl := List.mem_filter.mpr ⟨List.mem_of_getElem? (i := 124) (by decide +kernel), by decide +kernel⟩
theorem zq_125 : (.code zy_Fo_init zb_Fo_init 1 none : Cond) ∈ mp_tbl := List.mem_filter.mpr ⟨List.mem_of_getElem? (i := 125) (by decide +kernel), by decide +kernel⟩
theorem zq_126 : (.methodLink zR_Fo 5 objectInit : Cond) ∈ mp_tbl := List.mem_filter.mpr ⟨List.mem_of_getElem? (i := 126) (by decide +kernel), by decide +kernel⟩
theorem zq_127 : (.fieldLink zR_Fo 11 "MaterialPassports$Formula" "text" "[I" : Cond) ∈ mp_tbl := List.mem_filter.mpr ⟨List.mem_of_getElem? (i := 127) (by decide +kernel), by decide +kernel⟩
theorem zq_128 : (.fieldLink zR_Fo 15 "MaterialPassports$Formula" "readWords" "[I" : Cond) ∈ mp_tbl := List.mem_filter.mpr ⟨List.mem_of_getElem? (i := 128) (by decide +kernel), by decide +kernel⟩
theorem zq_129 : (.fieldLink zR_Fo 18 "MaterialPassports$Formula" "words" "[I" : Cond) ∈ mp_tbl := List.mem_filter.mpr ⟨List.mem_of_getElem? (i := 129) (by decide +kernel), by decide +kernel⟩
theorem zq_130 : (.fieldLink zR_Fo 21 "MaterialPassports$Formula" "stack" "[J" : Cond) ∈ mp_tbl := List.mem_filter.mpr ⟨List.mem_of_getElem? (i := 130) (by decide +kernel), by decide +kernel⟩
theorem zq_131 : (.fieldLink zR_Fo 25 "MaterialPassports$Formula" "textLength" "I" : Cond) ∈ mp_tbl := List.mem_filter.mpr ⟨List.mem_of_getElem? (i := 131) (by decide +kernel), by decide +kernel⟩
theorem zq_132 : (.fieldLink zR_Fo 29 "MaterialPassports$Formula" "readCount" "I" : Cond) ∈ mp_tbl := List.mem_filter.mpr ⟨List.mem_of_getElem? (i := 132) (by decide +kernel), by decide +kernel⟩
theorem zq_133 : (.fieldLink zR_Fo 32 "MaterialPassports$Formula" "readDepth" "I" : Cond) ∈ mp_tbl := List.mem_filter.mpr ⟨List.mem_of_getElem? (i := 133) (by decide +kernel), by decide +kernel⟩
theorem zq_134 : (.fieldLink zR_Fo 35 "MaterialPassports$Formula" "wordCount" "I" : Cond) ∈ mp_tbl := List.mem_filter.mpr ⟨List.mem_of_getElem? (i := 134) (by decide +kernel), by decide +kernel⟩
theorem zq_152 : (.fieldLink zR_MP 9 "MaterialPassports" "versions" "[I" : Cond) ∈ mp_tbl := List.mem_filter.mpr ⟨List.mem_of_getElem? (i := 152) (by decide +kernel), by decide +kernel⟩
theorem zq_153 : (.fieldLink zR_MP 13 "MaterialPassports" "rights" "[Z" : Cond) ∈ mp_tbl := List.mem_filter.mpr ⟨List.mem_of_getElem? (i := 153) (by decide +kernel), by decide +kernel⟩
theorem zq_154 : (.fieldLink zR_MP 20 "MaterialPassports" "parts" "LMaterialPassports$Parts;" : Cond) ∈ mp_tbl := List.mem_filter.mpr ⟨List.mem_of_getElem? (i := 154) (by decide +kernel), by decide +kernel⟩
theorem zq_155 : (.fieldLink zR_MP 27 "MaterialPassports" "nesting" "LMaterialPassports$Nesting;" : Cond) ∈ mp_tbl := List.mem_filter.mpr ⟨List.mem_of_getElem? (i := 155) (by decide +kernel), by decide +kernel⟩
theorem zq_156 : (.fieldLink zR_MP 34 "MaterialPassports" "formula" "LMaterialPassports$Formula;" : Cond) ∈ mp_tbl := List.mem_filter.mpr ⟨List.mem_of_getElem? (i := 156) (by decide +kernel), by decide +kernel⟩
theorem zq_157 : (.fieldLink zR_MP 38 "MaterialPassports" "sums" "[J" : Cond) ∈ mp_tbl := List.mem_filter.mpr ⟨List.mem_of_getElem? (i := 157) (by decide +kernel), by decide +kernel⟩
theorem zq_158 : (.fieldLink zR_MP 42 "MaterialPassports" "goodCount" "I" : Cond) ∈ mp_tbl := List.mem_filter.mpr ⟨List.mem_of_getElem? (i := 158) (by decide +kernel), by decide +kernel⟩
theorem zq_174 : (.methodLink zR_La 13 zy_MP_good : Cond) ∈ mp_tbl := List.mem_filter.mpr ⟨List.mem_of_getElem? (i := 174) (by decide +kernel), by decide +kernel⟩
theorem zq_175 : (.instanceMethod zy_MP_good : Cond) ∈ mp_tbl := List.mem_filter.mpr ⟨List.mem_of_getElem? (i := 175) (by decide +kernel), by decide +kernel⟩
theorem zq_176 : (.selects zR_MP zy_MP_good zy_MP_good : Cond) ∈ mp_tbl := List.mem_filter.mpr ⟨List.mem_of_getElem? (i := 176) (by decide +kernel), by decide +kernel⟩
theorem zq_177 : (.code zy_MP_good zb_MP_good 1 (some .int) : Cond) ∈ mp_tbl := List.mem_filter.mpr ⟨List.mem_of_getElem? (i := 177) (by decide +kernel), by decide +kernel⟩
theorem zq_178 : (.methodLink zR_La 20 zy_MP_part : Cond) ∈ mp_tbl := List.mem_filter.mpr ⟨List.mem_of_getElem? (i := 178) (by decide +kernel), by decide +kernel⟩
theorem zq_179 : (.instanceMethod zy_MP_part : Cond) ∈ mp_tbl := List.mem_filter.mpr ⟨List.mem_of_getElem? (i := 179) (by decide +kernel), by decide +kernel⟩
theorem zq_180 : (.selects zR_MP zy_MP_part zy_MP_part : Cond) ∈ mp_tbl := List.mem_filter.mpr ⟨List.mem_of_getElem? (i := 180) (by decide +kernel), by decide +kernel⟩
theorem zq_181 : (.code zy_MP_part zb_MP_part 6 (some .int) : Cond) ∈ mp_tbl := List.mem_filter.mpr ⟨List.mem_of_getElem? (i := 181) (by decide +kernel), by decide +kernel⟩
theorem zq_182 : (.methodLink zR_MP 46 zy_Pa_isFull : Cond) ∈ mp_tbl := List.mem_filter.mpr ⟨List.mem_of_getElem? (i := 182) (by decide +kernel), by decide +kernel⟩
theorem zq_183 : (.instanceMethod zy_Pa_isFull : Cond) ∈ mp_tbl := List.mem_filter.mpr ⟨List.mem_of_getElem? (i := 183) (by decide +kernel), by decide +kernel⟩
theorem zq_184 : (.selects zR_Pa zy_Pa_isFull zy_Pa_isFull : Cond) ∈ mp_tbl := List.mem_filter.mpr ⟨List.mem_of_getElem? (i := 184) (by decide +kernel), by decide +kernel⟩
theorem zq_185 : (.code zy_Pa_isFull zb_Pa_isFull 1 (some .boolean) : Cond) ∈ mp_tbl := List.mem_filter.mpr ⟨List.mem_of_getElem? (i := 185) (by decide +kernel), by decide +kernel⟩
theorem zq_186 : (.methodLink zR_MP 50 zy_MP_isGood : Cond) ∈ mp_tbl := List.mem_filter.mpr ⟨List.mem_of_getElem? (i := 186) (by decide +kernel), by decide +kernel⟩
theorem zq_188 : (.instanceMethod zy_MP_isGood : Cond) ∈ mp_tbl := List.mem_filter.mpr ⟨List.mem_of_getElem? (i := 188) (by decide +kernel), by decide +kernel⟩
theorem zq_189 : (.code zy_MP_isGood zb_MP_isGood 2 (some .boolean) : Cond) ∈ mp_tbl := List.mem_filter.mpr ⟨List.mem_of_getElem? (i := 189) (by decide +kernel), by decide +kernel⟩
theorem zq_190 : (.methodLink zR_MP 54 zy_MP_isMaterial : Cond) ∈ mp_tbl := List.mem_filter.mpr ⟨List.mem_of_getElem? (i := 190) (by decide +kernel), by decide +kernel⟩
theorem zq_191 : (.static zy_MP_isMaterial : Cond) ∈ mp_tbl := List.mem_filter.mpr ⟨List.mem_of_getElem? (i := 191) (by decide +kernel), by decide +kernel⟩
theorem zq_192 : (.code zy_MP_isMaterial zb_MP_isMaterial 3 (some .boolean) : Cond) ∈ mp_tbl := List.mem_filter.mpr ⟨List.mem_of_getElem? (i := 192) (by decide +kernel), by decide +kernel⟩
theorem zq_193 : (.methodLink zR_MP 101 zy_MP_isKind : Cond) ∈ mp_tbl := List.mem_filter.mpr ⟨List.mem_of_getElem? (i := 193) (by decide +kernel), by decide +kernel⟩
theorem zq_194 : (.static zy_MP_isKind : Cond) ∈ mp_tbl := List.mem_filter.mpr ⟨List.mem_of_getElem? (i := 194) (by decide +kernel), by decide +kernel⟩
theorem zq_195 : (.code zy_MP_isKind zb_MP_isKind 1 (some .boolean) : Cond) ∈ mp_tbl := List.mem_filter.mpr ⟨List.mem_of_getElem? (i := 195) (by decide +kernel), by decide +kernel⟩
theorem zq_196 : (.constantLong zR_MP 174 (1000000000) : Cond) ∈ mp_tbl := List.mem_filter.mpr ⟨List.mem_of_getElem? (i := 196) (by decide +kernel), by decide +kernel⟩
theorem zq_197 : (.methodLink zR_MP 58 zy_MP_isLife : Cond) ∈ mp_tbl := List.mem_filter.mpr ⟨List.mem_of_getElem? (i := 197) (by decide +kernel), by decide +kernel⟩
theorem zq_198 : (.static zy_MP_isLife : Cond) ∈ mp_tbl := List.mem_filter.mpr ⟨List.mem_of_getElem? (i := 198) (by decide +kernel), by decide +kernel⟩
theorem zq_199 : (.code zy_MP_isLife zb_MP_isLife 1 (some .boolean) : Cond) ∈ mp_tbl := List.mem_filter.mpr ⟨List.mem_of_getElem? (i := 199) (by decide +kernel), by decide +kernel⟩
theorem zq_200 : (.methodLink zR_MP 61 zy_Pa_add : Cond) ∈ mp_tbl := List.mem_filter.mpr ⟨List.mem_of_getElem? (i := 200) (by decide +kernel), by decide +kernel⟩
theorem zq_201 : (.instanceMethod zy_Pa_add : Cond) ∈ mp_tbl := List.mem_filter.mpr ⟨List.mem_of_getElem? (i := 201) (by decide +kernel), by decide +kernel⟩
theorem zq_202 : (.selects zR_Pa zy_Pa_add zy_Pa_add : Cond) ∈ mp_tbl := List.mem_filter.mpr ⟨List.mem_of_getElem? (i := 202) (by decide +kernel), by decide +kernel⟩
theorem zq_203 : (.code zy_Pa_add zb_Pa_add 6 (some .int) : Cond) ∈ mp_tbl := List.mem_filter.mpr ⟨List.mem_of_getElem? (i := 203) (by decide +kernel), by decide +kernel⟩
theorem zq_204 : (.methodLink zR_Pa 39 zy_Pa_isFull : Cond) ∈ mp_tbl := List.mem_filter.mpr ⟨List.mem_of_getElem? (i := 204) (by decide +kernel), by decide +kernel⟩
theorem zq_205 : (.methodLink zR_La 25 zy_MP_into : Cond) ∈ mp_tbl := List.mem_filter.mpr ⟨List.mem_of_getElem? (i := 205) (by decide +kernel), by decide +kernel⟩
theorem zq_206 : (.instanceMethod zy_MP_into : Cond) ∈ mp_tbl := List.mem_filter.mpr ⟨List.mem_of_getElem? (i := 206) (by decide +kernel), by decide +kernel⟩
theorem zq_207 : (.selects zR_MP zy_MP_into zy_MP_into : Cond) ∈ mp_tbl := List.mem_filter.mpr ⟨List.mem_of_getElem? (i := 207) (by decide +kernel), by decide +kernel⟩
theorem zq_208 : (.code zy_MP_into zb_MP_into 4 (some .boolean) : Cond) ∈ mp_tbl := List.mem_filter.mpr ⟨List.mem_of_getElem? (i := 208) (by decide +kernel), by decide +kernel⟩
theorem zq_209 : (.methodLink zR_MP 65 zy_Pa_has : Cond) ∈ mp_tbl := List.mem_filter.mpr ⟨List.mem_of_getElem? (i := 209) (by decide +kernel), by decide +kernel⟩
theorem zq_210 : (.instanceMethod zy_Pa_has : Cond) ∈ mp_tbl := List.mem_filter.mpr ⟨List.mem_of_getElem? (i := 210) (by decide +kernel), by decide +kernel⟩
theorem zq_211 : (.selects zR_Pa zy_Pa_has zy_Pa_has : Cond) ∈ mp_tbl := List.mem_filter.mpr ⟨List.mem_of_getElem? (i := 211) (by decide +kernel), by decide +kernel⟩
theorem zq_212 : (.code zy_Pa_has zb_Pa_has 2 (some .boolean) : Cond) ∈ mp_tbl := List.mem_filter.mpr ⟨List.mem_of_getElem? (i := 212) (by decide +kernel), by decide +kernel⟩
theorem zq_213 : (.methodLink zR_MP 74 zy_Ne_holds : Cond) ∈ mp_tbl := List.mem_filter.mpr ⟨List.mem_of_getElem? (i := 213) (by decide +kernel), by decide +kernel⟩
theorem zq_214 : (.instanceMethod zy_Ne_holds : Cond) ∈ mp_tbl := List.mem_filter.mpr ⟨List.mem_of_getElem? (i := 214) (by decide +kernel), by decide +kernel⟩
theorem zq_215 : (.selects zR_Ne zy_Ne_holds zy_Ne_holds : Cond) ∈ mp_tbl := List.mem_filter.mpr ⟨List.mem_of_getElem? (i := 215) (by decide +kernel), by decide +kernel⟩
theorem zq_216 : (.code zy_Ne_holds zb_Ne_holds 4 (some .boolean) : Cond) ∈ mp_tbl := List.mem_filter.mpr ⟨List.mem_of_getElem? (i := 216) (by decide +kernel), by decide +kernel⟩
theorem zq_217 : (.methodLink zR_Ne 21 zy_Ne_countWithin : Cond) ∈ mp_tbl := List.mem_filter.mpr ⟨List.mem_of_getElem? (i := 217) (by decide +kernel), by decide +kernel⟩
theorem zq_219 : (.instanceMethod zy_Ne_countWithin : Cond) ∈ mp_tbl := List.mem_filter.mpr ⟨List.mem_of_getElem? (i := 219) (by decide +kernel), by decide +kernel⟩
theorem zq_220 : (.code zy_Ne_countWithin zb_Ne_countWithin 4 none : Cond) ∈ mp_tbl := List.mem_filter.mpr ⟨List.mem_of_getElem? (i := 220) (by decide +kernel), by decide +kernel⟩
theorem zq_221 : (.methodLink zR_Ne 29 zy_Ja_fill : Cond) ∈ mp_tbl := List.mem_filter.mpr ⟨List.mem_of_getElem? (i := 221) (by decide +kernel), by decide +kernel⟩
theorem zq_222 : (.static zy_Ja_fill : Cond) ∈ mp_tbl := List.mem_filter.mpr ⟨List.mem_of_getElem? (i := 222) (by decide +kernel), by decide +kernel⟩
theorem zq_223 : (.code zy_Ja_fill zb_Ja_fill 5 none : Cond) ∈ mp_tbl := List.mem_filter.mpr ⟨List.mem_of_getElem? (i := 223) (by decide +kernel), by decide +kernel⟩
theorem zq_224 : (.methodLink zR_Ne 53 zy_Ne_goDeeper : Cond) ∈ mp_tbl := List.mem_filter.mpr ⟨List.mem_of_getElem? (i := 224) (by decide +kernel), by decide +kernel⟩
theorem zq_226 : (.instanceMethod zy_Ne_goDeeper : Cond) ∈ mp_tbl := List.mem_filter.mpr ⟨List.mem_of_getElem? (i := 226) (by decide +kernel), by decide +kernel⟩
theorem zq_227 : (.code zy_Ne_goDeeper zb_Ne_goDeeper 4 none : Cond) ∈ mp_tbl := List.mem_filter.mpr ⟨List.mem_of_getElem? (i := 227) (by decide +kernel), by decide +kernel⟩
theorem zq_228 : (.methodLink zR_La 30 zy_MP_life : Cond) ∈ mp_tbl := List.mem_filter.mpr ⟨List.mem_of_getElem? (i := 228) (by decide +kernel), by decide +kernel⟩
theorem zq_229 : (.instanceMethod zy_MP_life : Cond) ∈ mp_tbl := List.mem_filter.mpr ⟨List.mem_of_getElem? (i := 229) (by decide +kernel), by decide +kernel⟩
theorem zq_230 : (.selects zR_MP zy_MP_life zy_MP_life : Cond) ∈ mp_tbl := List.mem_filter.mpr ⟨List.mem_of_getElem? (i := 230) (by decide +kernel), by decide +kernel⟩
theorem zq_231 : (.code zy_MP_life zb_MP_life 3 (some .boolean) : Cond) ∈ mp_tbl := List.mem_filter.mpr ⟨List.mem_of_getElem? (i := 231) (by decide +kernel), by decide +kernel⟩
theorem zq_232 : (.methodLink zR_La 34 zy_MP_change : Cond) ∈ mp_tbl := List.mem_filter.mpr ⟨List.mem_of_getElem? (i := 232) (by decide +kernel), by decide +kernel⟩
theorem zq_233 : (.instanceMethod zy_MP_change : Cond) ∈ mp_tbl := List.mem_filter.mpr ⟨List.mem_of_getElem? (i := 233) (by decide +kernel), by decide +kernel⟩
theorem zq_234 : (.selects zR_MP zy_MP_change zy_MP_change : Cond) ∈ mp_tbl := List.mem_filter.mpr ⟨List.mem_of_getElem? (i := 234) (by decide +kernel), by decide +kernel⟩
theorem zq_235 : (.code zy_MP_change zb_MP_change 7 (some .boolean) : Cond) ∈ mp_tbl := List.mem_filter.mpr ⟨List.mem_of_getElem? (i := 235) (by decide +kernel), by decide +kernel⟩
theorem zq_236 : (.methodLink zR_MP 85 zy_Ch_isFull : Cond) ∈ mp_tbl := List.mem_filter.mpr ⟨List.mem_of_getElem? (i := 236) (by decide +kernel), by decide +kernel⟩
theorem zq_237 : (.instanceMethod zy_Ch_isFull : Cond) ∈ mp_tbl := List.mem_filter.mpr ⟨List.mem_of_getElem? (i := 237) (by decide +kernel), by decide +kernel⟩
theorem zq_238 : (.selects zR_Ch zy_Ch_isFull zy_Ch_isFull : Cond) ∈ mp_tbl := List.mem_filter.mpr ⟨List.mem_of_getElem? (i := 238) (by decide +kernel), by decide +kernel⟩
theorem zq_239 : (.code zy_Ch_isFull zb_Ch_isFull 1 (some .boolean) : Cond) ∈ mp_tbl := List.mem_filter.mpr ⟨List.mem_of_getElem? (i := 239) (by decide +kernel), by decide +kernel⟩
theorem zq_240 : (.methodLink zR_MP 88 zy_MP_isDay : Cond) ∈ mp_tbl := List.mem_filter.mpr ⟨List.mem_of_getElem? (i := 240) (by decide +kernel), by decide +kernel⟩
theorem zq_241 : (.static zy_MP_isDay : Cond) ∈ mp_tbl := List.mem_filter.mpr ⟨List.mem_of_getElem? (i := 241) (by decide +kernel), by decide +kernel⟩
theorem zq_242 : (.code zy_MP_isDay zb_MP_isDay 2 (some .boolean) : Cond) ∈ mp_tbl := List.mem_filter.mpr ⟨List.mem_of_getElem? (i := 242) (by decide +kernel), by decide +kernel⟩
theorem zq_243 : (.constantLong zR_MP 95 (100000) : Cond) ∈ mp_tbl := List.mem_filter.mpr ⟨List.mem_of_getElem? (i := 243) (by decide +kernel), by decide +kernel⟩
theorem zq_244 : (.methodLink zR_MP 92 zy_Ch_add : Cond) ∈ mp_tbl := List.mem_filter.mpr ⟨List.mem_of_getElem? (i := 244) (by decide +kernel), by decide +kernel⟩
theorem zq_245 : (.instanceMethod zy_Ch_add : Cond) ∈ mp_tbl := List.mem_filter.mpr ⟨List.mem_of_getElem? (i := 245) (by decide +kernel), by decide +kernel⟩
theorem zq_246 : (.selects zR_Ch zy_Ch_add zy_Ch_add : Cond) ∈ mp_tbl := List.mem_filter.mpr ⟨List.mem_of_getElem? (i := 246) (by decide +kernel), by decide +kernel⟩
theorem zq_247 : (.code zy_Ch_add zb_Ch_add 7 none : Cond) ∈ mp_tbl := List.mem_filter.mpr ⟨List.mem_of_getElem? (i := 247) (by decide +kernel), by decide +kernel⟩
theorem zq_248 : (.methodLink zR_Ch 29 zy_Ch_isFull : Cond) ∈ mp_tbl := List.mem_filter.mpr ⟨List.mem_of_getElem? (i := 248) (by decide +kernel), by decide +kernel⟩
theorem zq_249 : (.methodLink zR_La 39 zy_MP_total : Cond) ∈ mp_tbl := List.mem_filter.mpr ⟨List.mem_of_getElem? (i := 249) (by decide +kernel), by decide +kernel⟩
theorem zq_250 : (.instanceMethod zy_MP_total : Cond) ∈ mp_tbl := List.mem_filter.mpr ⟨List.mem_of_getElem? (i := 250) (by decide +kernel), by decide +kernel⟩
theorem zq_251 : (.selects zR_MP zy_MP_total zy_MP_total : Cond) ∈ mp_tbl := List.mem_filter.mpr ⟨List.mem_of_getElem? (i := 251) (by decide +kernel), by decide +kernel⟩
theorem zq_252 : (.code zy_MP_total zb_MP_total 3 (some .long) : Cond) ∈ mp_tbl := List.mem_filter.mpr ⟨List.mem_of_getElem? (i := 252) (by decide +kernel), by decide +kernel⟩
theorem zq_253 : (.methodLink zR_MP 97 zy_MP_totalOn : Cond) ∈ mp_tbl := List.mem_filter.mpr ⟨List.mem_of_getElem? (i := 253) (by decide +kernel), by decide +kernel⟩
theorem zq_254 : (.instanceMethod zy_MP_totalOn : Cond) ∈ mp_tbl := List.mem_filter.mpr ⟨List.mem_of_getElem? (i := 254) (by decide +kernel), by decide +kernel⟩
theorem zq_255 : (.selects zR_MP zy_MP_totalOn zy_MP_totalOn : Cond) ∈ mp_tbl := List.mem_filter.mpr ⟨List.mem_of_getElem? (i := 255) (by decide +kernel), by decide +kernel⟩
theorem zq_256 : (.code zy_MP_totalOn zb_MP_totalOn 5 (some .long) : Cond) ∈ mp_tbl := List.mem_filter.mpr ⟨List.mem_of_getElem? (i := 256) (by decide +kernel), by decide +kernel⟩
theorem zq_257 : (.constantLong zR_MP 104 (-1) : Cond) ∈ mp_tbl := List.mem_filter.mpr ⟨List.mem_of_getElem? (i := 257) (by decide +kernel), by decide +kernel⟩
theorem zq_258 : (.methodLink zR_MP 106 zy_Ne_sumWithin : Cond) ∈ mp_tbl := List.mem_filter.mpr ⟨List.mem_of_getElem? (i := 258) (by decide +kernel), by decide +kernel⟩
theorem zq_259 : (.instanceMethod zy_Ne_sumWithin : Cond) ∈ mp_tbl := List.mem_filter.mpr ⟨List.mem_of_getElem? (i := 259) (by decide +kernel), by decide +kernel⟩
theorem zq_260 : (.selects zR_Ne zy_Ne_sumWithin zy_Ne_sumWithin : Cond) ∈ mp_tbl := List.mem_filter.mpr ⟨List.mem_of_getElem? (i := 260) (by decide +kernel), by decide +kernel⟩
theorem zq_261 : (.code zy_Ne_sumWithin zb_Ne_sumWithin 6 none : Cond) ∈ mp_tbl := List.mem_filter.mpr ⟨List.mem_of_getElem? (i := 261) (by decide +kernel), by decide +kernel⟩
theorem zq_262 : (.methodLink zR_Ne 25 zy_Ne_sumByTimes : Cond) ∈ mp_tbl := List.mem_filter.mpr ⟨List.mem_of_getElem? (i := 262) (by decide +kernel), by decide +kernel⟩
theorem zq_264 : (.instanceMethod zy_Ne_sumByTimes : Cond) ∈ mp_tbl := List.mem_filter.mpr ⟨List.mem_of_getElem? (i := 264) (by decide +kernel), by decide +kernel⟩
theorem zq_265 : (.code zy_Ne_sumByTimes zb_Ne_sumByTimes 8 none : Cond) ∈ mp_tbl := List.mem_filter.mpr ⟨List.mem_of_getElem? (i := 265) (by decide +kernel), by decide +kernel⟩
theorem zq_266 : (.methodLink zR_Ne 41 zy_Pa_gramsOn : Cond) ∈ mp_tbl := List.mem_filter.mpr ⟨List.mem_of_getElem? (i := 266) (by decide +kernel), by decide +kernel⟩
theorem zq_267 : (.instanceMethod zy_Pa_gramsOn : Cond) ∈ mp_tbl := List.mem_filter.mpr ⟨List.mem_of_getElem? (i := 267) (by decide +kernel), by decide +kernel⟩
theorem zq_268 : (.selects zR_Pa zy_Pa_gramsOn zy_Pa_gramsOn : Cond) ∈ mp_tbl := List.mem_filter.mpr ⟨List.mem_of_getElem? (i := 268) (by decide +kernel), by decide +kernel⟩
theorem zq_269 : (.code zy_Pa_gramsOn zb_Pa_gramsOn 5 (some .long) : Cond) ∈ mp_tbl := List.mem_filter.mpr ⟨List.mem_of_getElem? (i := 269) (by decide +kernel), by decide +kernel⟩
theorem zq_270 : (.methodLink zR_Pa 43 zy_Ch_countingOn : Cond) ∈ mp_tbl := List.mem_filter.mpr ⟨List.mem_of_getElem? (i := 270) (by decide +kernel), by decide +kernel⟩
theorem zq_271 : (.instanceMethod zy_Ch_countingOn : Cond) ∈ mp_tbl := List.mem_filter.mpr ⟨List.mem_of_getElem? (i := 271) (by decide +kernel), by decide +kernel⟩
theorem zq_272 : (.selects zR_Ch zy_Ch_countingOn zy_Ch_countingOn : Cond) ∈ mp_tbl := List.mem_filter.mpr ⟨List.mem_of_getElem? (i := 272) (by decide +kernel), by decide +kernel⟩
theorem zq_273 : (.code zy_Ch_countingOn zb_Ch_countingOn 6 (some .int) : Cond) ∈ mp_tbl := List.mem_filter.mpr ⟨List.mem_of_getElem? (i := 273) (by decide +kernel), by decide +kernel⟩
theorem zq_274 : (.methodLink zR_Ne 45 zy_Pa_kindOn : Cond) ∈ mp_tbl := List.mem_filter.mpr ⟨List.mem_of_getElem? (i := 274) (by decide +kernel), by decide +kernel⟩
theorem zq_275 : (.instanceMethod zy_Pa_kindOn : Cond) ∈ mp_tbl := List.mem_filter.mpr ⟨List.mem_of_getElem? (i := 275) (by decide +kernel), by decide +kernel⟩
theorem zq_276 : (.selects zR_Pa zy_Pa_kindOn zy_Pa_kindOn : Cond) ∈ mp_tbl := List.mem_filter.mpr ⟨List.mem_of_getElem? (i := 276) (by decide +kernel), by decide +kernel⟩
theorem zq_277 : (.code zy_Pa_kindOn zb_Pa_kindOn 5 (some .int) : Cond) ∈ mp_tbl := List.mem_filter.mpr ⟨List.mem_of_getElem? (i := 277) (by decide +kernel), by decide +kernel⟩
theorem zq_278 : (.methodLink zR_La 44 zy_MP_totalOn : Cond) ∈ mp_tbl := List.mem_filter.mpr ⟨List.mem_of_getElem? (i := 278) (by decide +kernel), by decide +kernel⟩
theorem zq_279 : (.methodLink zR_La 49 zy_MP_frees : Cond) ∈ mp_tbl := List.mem_filter.mpr ⟨List.mem_of_getElem? (i := 279) (by decide +kernel), by decide +kernel⟩
theorem zq_280 : (.instanceMethod zy_MP_frees : Cond) ∈ mp_tbl := List.mem_filter.mpr ⟨List.mem_of_getElem? (i := 280) (by decide +kernel), by decide +kernel⟩
theorem zq_281 : (.selects zR_MP zy_MP_frees zy_MP_frees : Cond) ∈ mp_tbl := List.mem_filter.mpr ⟨List.mem_of_getElem? (i := 281) (by decide +kernel), by decide +kernel⟩
theorem zq_282 : (.code zy_MP_frees zb_MP_frees 6 (some .long) : Cond) ∈ mp_tbl := List.mem_filter.mpr ⟨List.mem_of_getElem? (i := 282) (by decide +kernel), by decide +kernel⟩
theorem zq_283 : (.methodLink zR_MP 113 zy_Pa_kindOn : Cond) ∈ mp_tbl := List.mem_filter.mpr ⟨List.mem_of_getElem? (i := 283) (by decide +kernel), by decide +kernel⟩
theorem zq_284 : (.methodLink zR_MP 117 zy_Pa_gramsOn : Cond) ∈ mp_tbl := List.mem_filter.mpr ⟨List.mem_of_getElem? (i := 284) (by decide +kernel), by decide +kernel⟩
theorem zq_285 : (.methodLink zR_La 53 zy_MP_version : Cond) ∈ mp_tbl := List.mem_filter.mpr ⟨List.mem_of_getElem? (i := 285) (by decide +kernel), by decide +kernel⟩
theorem zq_286 : (.instanceMethod zy_MP_version : Cond) ∈ mp_tbl := List.mem_filter.mpr ⟨List.mem_of_getElem? (i := 286) (by decide +kernel), by decide +kernel⟩
theorem zq_287 : (.selects zR_MP zy_MP_version zy_MP_version : Cond) ∈ mp_tbl := List.mem_filter.mpr ⟨List.mem_of_getElem? (i := 287) (by decide +kernel), by decide +kernel⟩
theorem zq_288 : (.code zy_MP_version zb_MP_version 2 (some .int) : Cond) ∈ mp_tbl := List.mem_filter.mpr ⟨List.mem_of_getElem? (i := 288) (by decide +kernel), by decide +kernel⟩
theorem zq_289 : (.methodLink zR_La 58 zy_MP_right : Cond) ∈ mp_tbl := List.mem_filter.mpr ⟨List.mem_of_getElem? (i := 289) (by decide +kernel), by decide +kernel⟩
theorem zq_290 : (.instanceMethod zy_MP_right : Cond) ∈ mp_tbl := List.mem_filter.mpr ⟨List.mem_of_getElem? (i := 290) (by decide +kernel), by decide +kernel⟩
theorem zq_291 : (.selects zR_MP zy_MP_right zy_MP_right : Cond) ∈ mp_tbl := List.mem_filter.mpr ⟨List.mem_of_getElem? (i := 291) (by decide +kernel), by decide +kernel⟩
theorem zq_292 : (.code zy_MP_right zb_MP_right 4 (some .boolean) : Cond) ∈ mp_tbl := List.mem_filter.mpr ⟨List.mem_of_getElem? (i := 292) (by decide +kernel), by decide +kernel⟩
theorem zq_293 : (.methodLink zR_MP 121 zy_MP_isPerson : Cond) ∈ mp_tbl := List.mem_filter.mpr ⟨List.mem_of_getElem? (i := 293) (by decide +kernel), by decide +kernel⟩
theorem zq_294 : (.static zy_MP_isPerson : Cond) ∈ mp_tbl := List.mem_filter.mpr ⟨List.mem_of_getElem? (i := 294) (by decide +kernel), by decide +kernel⟩
theorem zq_295 : (.code zy_MP_isPerson zb_MP_isPerson 1 (some .boolean) : Cond) ∈ mp_tbl := List.mem_filter.mpr ⟨List.mem_of_getElem? (i := 295) (by decide +kernel), by decide +kernel⟩
theorem zq_296 : (.methodLink zR_MP 124 zy_MP_rightIndex : Cond) ∈ mp_tbl := List.mem_filter.mpr ⟨List.mem_of_getElem? (i := 296) (by decide +kernel), by decide +kernel⟩
theorem zq_297 : (.static zy_MP_rightIndex : Cond) ∈ mp_tbl := List.mem_filter.mpr ⟨List.mem_of_getElem? (i := 297) (by decide +kernel), by decide +kernel⟩
theorem zq_298 : (.code zy_MP_rightIndex zb_MP_rightIndex 2 (some .int) : Cond) ∈ mp_tbl := List.mem_filter.mpr ⟨List.mem_of_getElem? (i := 298) (by decide +kernel), by decide +kernel⟩
theorem zq_299 : (.methodLink zR_La 63 zy_MP_seen : Cond) ∈ mp_tbl := List.mem_filter.mpr ⟨List.mem_of_getElem? (i := 299) (by decide +kernel), by decide +kernel⟩
theorem zq_300 : (.instanceMethod zy_MP_seen : Cond) ∈ mp_tbl := List.mem_filter.mpr ⟨List.mem_of_getElem? (i := 300) (by decide +kernel), by decide +kernel⟩
theorem zq_301 : (.selects zR_MP zy_MP_seen zy_MP_seen : Cond) ∈ mp_tbl := List.mem_filter.mpr ⟨List.mem_of_getElem? (i := 301) (by decide +kernel), by decide +kernel⟩
theorem zq_302 : (.code zy_MP_seen zb_MP_seen 8 (some .long) : Cond) ∈ mp_tbl := List.mem_filter.mpr ⟨List.mem_of_getElem? (i := 302) (by decide +kernel), by decide +kernel⟩
theorem zq_303 : (.methodLink zR_MP 128 zy_Pa_ownPart : Cond) ∈ mp_tbl := List.mem_filter.mpr ⟨List.mem_of_getElem? (i := 303) (by decide +kernel), by decide +kernel⟩
theorem zq_304 : (.instanceMethod zy_Pa_ownPart : Cond) ∈ mp_tbl := List.mem_filter.mpr ⟨List.mem_of_getElem? (i := 304) (by decide +kernel), by decide +kernel⟩
theorem zq_305 : (.selects zR_Pa zy_Pa_ownPart zy_Pa_ownPart : Cond) ∈ mp_tbl := List.mem_filter.mpr ⟨List.mem_of_getElem? (i := 305) (by decide +kernel), by decide +kernel⟩
theorem zq_306 : (.code zy_Pa_ownPart zb_Pa_ownPart 5 (some .int) : Cond) ∈ mp_tbl := List.mem_filter.mpr ⟨List.mem_of_getElem? (i := 306) (by decide +kernel), by decide +kernel⟩
theorem zq_307 : (.methodLink zR_MP 131 zy_Pa_ownGrams : Cond) ∈ mp_tbl := List.mem_filter.mpr ⟨List.mem_of_getElem? (i := 307) (by decide +kernel), by decide +kernel⟩
theorem zq_308 : (.instanceMethod zy_Pa_ownGrams : Cond) ∈ mp_tbl := List.mem_filter.mpr ⟨List.mem_of_getElem? (i := 308) (by decide +kernel), by decide +kernel⟩
theorem zq_309 : (.selects zR_Pa zy_Pa_ownGrams zy_Pa_ownGrams : Cond) ∈ mp_tbl := List.mem_filter.mpr ⟨List.mem_of_getElem? (i := 309) (by decide +kernel), by decide +kernel⟩
theorem zq_310 : (.code zy_Pa_ownGrams zb_Pa_ownGrams 8 (some .long) : Cond) ∈ mp_tbl := List.mem_filter.mpr ⟨List.mem_of_getElem? (i := 310) (by decide +kernel), by decide +kernel⟩
theorem zq_311 : (.methodLink zR_Pa 49 zy_Pa_kindOn : Cond) ∈ mp_tbl := List.mem_filter.mpr ⟨List.mem_of_getElem? (i := 311) (by decide +kernel), by decide +kernel⟩
theorem zq_312 : (.methodLink zR_Pa 52 zy_Pa_gramsOn : Cond) ∈ mp_tbl := List.mem_filter.mpr ⟨List.mem_of_getElem? (i := 312) (by decide +kernel), by decide +kernel⟩
theorem zq_313 : (.constantLong zR_MP 134 (-2) : Cond) ∈ mp_tbl := List.mem_filter.mpr ⟨List.mem_of_getElem? (i := 313) (by decide +kernel), by decide +kernel⟩
theorem zq_314 : (.methodLink zR_La 68 zy_MP_unit : Cond) ∈ mp_tbl := List.mem_filter.mpr ⟨List.mem_of_getElem? (i := 314) (by decide +kernel), by decide +kernel⟩
theorem zq_315 : (.instanceMethod zy_MP_unit : Cond) ∈ mp_tbl := List.mem_filter.mpr ⟨List.mem_of_getElem? (i := 315) (by decide +kernel), by decide +kernel⟩
theorem zq_316 : (.selects zR_MP zy_MP_unit zy_MP_unit : Cond) ∈ mp_tbl := List.mem_filter.mpr ⟨List.mem_of_getElem? (i := 316) (by decide +kernel), by decide +kernel⟩
theorem zq_317 : (.code zy_MP_unit zb_MP_unit 2 (some .boolean) : Cond) ∈ mp_tbl := List.mem_filter.mpr ⟨List.mem_of_getElem? (i := 317) (by decide +kernel), by decide +kernel⟩
theorem zq_318 : (.methodLink zR_MP 136 zy_Fo_addByte : Cond) ∈ mp_tbl := List.mem_filter.mpr ⟨List.mem_of_getElem? (i := 318) (by decide +kernel), by decide +kernel⟩
theorem zq_319 : (.instanceMethod zy_Fo_addByte : Cond) ∈ mp_tbl := List.mem_filter.mpr ⟨List.mem_of_getElem? (i := 319) (by decide +kernel), by decide +kernel⟩
theorem zq_320 : (.selects zR_Fo zy_Fo_addByte zy_Fo_addByte : Cond) ∈ mp_tbl := List.mem_filter.mpr ⟨List.mem_of_getElem? (i := 320) (by decide +kernel), by decide +kernel⟩
theorem zq_321 : (.code zy_Fo_addByte zb_Fo_addByte 2 (some .boolean) : Cond) ∈ mp_tbl := List.mem_filter.mpr ⟨List.mem_of_getElem? (i := 321) (by decide +kernel), by decide +kernel⟩
theorem zq_322 : (.methodLink zR_La 73 zy_MP_score : Cond) ∈ mp_tbl := List.mem_filter.mpr ⟨List.mem_of_getElem? (i := 322) (by decide +kernel), by decide +kernel⟩
theorem zq_323 : (.instanceMethod zy_MP_score : Cond) ∈ mp_tbl := List.mem_filter.mpr ⟨List.mem_of_getElem? (i := 323) (by decide +kernel), by decide +kernel⟩
theorem zq_324 : (.selects zR_MP zy_MP_score zy_MP_score : Cond) ∈ mp_tbl := List.mem_filter.mpr ⟨List.mem_of_getElem? (i := 324) (by decide +kernel), by decide +kernel⟩
theorem zq_325 : (.code zy_MP_score zb_MP_score 1 (some .int) : Cond) ∈ mp_tbl := List.mem_filter.mpr ⟨List.mem_of_getElem? (i := 325) (by decide +kernel), by decide +kernel⟩
theorem zq_326 : (.methodLink zR_MP 139 zy_Fo_readText : Cond) ∈ mp_tbl := List.mem_filter.mpr ⟨List.mem_of_getElem? (i := 326) (by decide +kernel), by decide +kernel⟩
theorem zq_327 : (.instanceMethod zy_Fo_readText : Cond) ∈ mp_tbl := List.mem_filter.mpr ⟨List.mem_of_getElem? (i := 327) (by decide +kernel), by decide +kernel⟩
theorem zq_328 : (.selects zR_Fo zy_Fo_readText zy_Fo_readText : Cond) ∈ mp_tbl := List.mem_filter.mpr ⟨List.mem_of_getElem? (i := 328) (by decide +kernel), by decide +kernel⟩
theorem zq_329 : (.code zy_Fo_readText zb_Fo_readText 4 (some .int) : Cond) ∈ mp_tbl := List.mem_filter.mpr ⟨List.mem_of_getElem? (i := 329) (by decide +kernel), by decide +kernel⟩
theorem zq_330 : (.methodLink zR_Fo 38 zy_Fo_isGap : Cond) ∈ mp_tbl := List.mem_filter.mpr ⟨List.mem_of_getElem? (i := 330) (by decide +kernel), by decide +kernel⟩
theorem zq_331 : (.static zy_Fo_isGap : Cond) ∈ mp_tbl := List.mem_filter.mpr ⟨List.mem_of_getElem? (i := 331) (by decide +kernel), by decide +kernel⟩
theorem zq_332 : (.code zy_Fo_isGap zb_Fo_isGap 1 (some .boolean) : Cond) ∈ mp_tbl := List.mem_filter.mpr ⟨List.mem_of_getElem? (i := 332) (by decide +kernel), by decide +kernel⟩
theorem zq_333 : (.methodLink zR_Fo 42 zy_Fo_wordAt : Cond) ∈ mp_tbl := List.mem_filter.mpr ⟨List.mem_of_getElem? (i := 333) (by decide +kernel), by decide +kernel⟩
theorem zq_335 : (.instanceMethod zy_Fo_wordAt : Cond) ∈ mp_tbl := List.mem_filter.mpr ⟨List.mem_of_getElem? (i := 335) (by decide +kernel), by decide +kernel⟩
theorem zq_336 : (.code zy_Fo_wordAt zb_Fo_wordAt 4 (some .int) : Cond) ∈ mp_tbl := List.mem_filter.mpr ⟨List.mem_of_getElem? (i := 336) (by decide +kernel), by decide +kernel⟩
theorem zq_337 : (.methodLink zR_Fo 58 zy_Fo_isDigit : Cond) ∈ mp_tbl := List.mem_filter.mpr ⟨List.mem_of_getElem? (i := 337) (by decide +kernel), by decide +kernel⟩
theorem zq_338 : (.static zy_Fo_isDigit : Cond) ∈ mp_tbl := List.mem_filter.mpr ⟨List.mem_of_getElem? (i := 338) (by decide +kernel), by decide +kernel⟩
theorem zq_339 : (.code zy_Fo_isDigit zb_Fo_isDigit 1 (some .boolean) : Cond) ∈ mp_tbl := List.mem_filter.mpr ⟨List.mem_of_getElem? (i := 339) (by decide +kernel), by decide +kernel⟩
theorem zq_340 : (.methodLink zR_Fo 61 zy_Fo_numberAt : Cond) ∈ mp_tbl := List.mem_filter.mpr ⟨List.mem_of_getElem? (i := 340) (by decide +kernel), by decide +kernel⟩
theorem zq_342 : (.instanceMethod zy_Fo_numberAt : Cond) ∈ mp_tbl := List.mem_filter.mpr ⟨List.mem_of_getElem? (i := 342) (by decide +kernel), by decide +kernel⟩
theorem zq_343 : (.code zy_Fo_numberAt zb_Fo_numberAt 5 (some .int) : Cond) ∈ mp_tbl := List.mem_filter.mpr ⟨List.mem_of_getElem? (i := 343) (by decide +kernel), by decide +kernel⟩
theorem zq_344 : (.methodLink zR_Fo 64 zy_Fo_signOf : Cond) ∈ mp_tbl := List.mem_filter.mpr ⟨List.mem_of_getElem? (i := 344) (by decide +kernel), by decide +kernel⟩
theorem zq_345 : (.static zy_Fo_signOf : Cond) ∈ mp_tbl := List.mem_filter.mpr ⟨List.mem_of_getElem? (i := 345) (by decide +kernel), by decide +kernel⟩
theorem zq_346 : (.code zy_Fo_signOf zb_Fo_signOf 1 (some .int) : Cond) ∈ mp_tbl := List.mem_filter.mpr ⟨List.mem_of_getElem? (i := 346) (by decide +kernel), by decide +kernel⟩
theorem zq_347 : (.methodLink zR_Fo 68 zy_Fo_shareOf : Cond) ∈ mp_tbl := List.mem_filter.mpr ⟨List.mem_of_getElem? (i := 347) (by decide +kernel), by decide +kernel⟩
theorem zq_348 : (.static zy_Fo_shareOf : Cond) ∈ mp_tbl := List.mem_filter.mpr ⟨List.mem_of_getElem? (i := 348) (by decide +kernel), by decide +kernel⟩
theorem zq_349 : (.code zy_Fo_shareOf zb_Fo_shareOf 2 (some .int) : Cond) ∈ mp_tbl := List.mem_filter.mpr ⟨List.mem_of_getElem? (i := 349) (by decide +kernel), by decide +kernel⟩
theorem zq_351 : (.methodLink zR_Fo 71 zy_Fo_boundOf : Cond) ∈ mp_tbl := List.mem_filter.mpr ⟨List.mem_of_getElem? (i := 351) (by decide +kernel), by decide +kernel⟩
theorem zq_352 : (.static zy_Fo_boundOf : Cond) ∈ mp_tbl := List.mem_filter.mpr ⟨List.mem_of_getElem? (i := 352) (by decide +kernel), by decide +kernel⟩
theorem zq_353 : (.code zy_Fo_boundOf zb_Fo_boundOf 2 (some .int) : Cond) ∈ mp_tbl := List.mem_filter.mpr ⟨List.mem_of_getElem? (i := 353) (by decide +kernel), by decide +kernel⟩
theorem zq_354 : (.methodLink zR_Fo 46 zy_Fo_takeWord : Cond) ∈ mp_tbl := List.mem_filter.mpr ⟨List.mem_of_getElem? (i := 354) (by decide +kernel), by decide +kernel⟩
theorem zq_356 : (.instanceMethod zy_Fo_takeWord : Cond) ∈ mp_tbl := List.mem_filter.mpr ⟨List.mem_of_getElem? (i := 356) (by decide +kernel), by decide +kernel⟩
theorem zq_357 : (.code zy_Fo_takeWord zb_Fo_takeWord 3 (some .boolean) : Cond) ∈ mp_tbl := List.mem_filter.mpr ⟨List.mem_of_getElem? (i := 357) (by decide +kernel), by decide +kernel⟩
theorem zq_358 : (.methodLink zR_Fo 55 zy_Fo_joinsTwo : Cond) ∈ mp_tbl := List.mem_filter.mpr ⟨List.mem_of_getElem? (i := 358) (by decide +kernel), by decide +kernel⟩
theorem zq_359 : (.static zy_Fo_joinsTwo : Cond) ∈ mp_tbl := List.mem_filter.mpr ⟨List.mem_of_getElem? (i := 359) (by decide +kernel), by decide +kernel⟩
theorem zq_360 : (.code zy_Fo_joinsTwo zb_Fo_joinsTwo 1 (some .boolean) : Cond) ∈ mp_tbl := List.mem_filter.mpr ⟨List.mem_of_getElem? (i := 360) (by decide +kernel), by decide +kernel⟩
theorem zq_361 : (.methodLink zR_Fo 49 arraycopyName : Cond) ∈ mp_tbl := List.mem_filter.mpr ⟨List.mem_of_getElem? (i := 361) (by decide +kernel), by decide +kernel⟩
theorem zq_362 : (.static arraycopyName : Cond) ∈ mp_tbl := List.mem_filter.mpr ⟨List.mem_of_getElem? (i := 362) (by decide +kernel), by decide +kernel⟩
theorem zq_363 : (.native arraycopyName : Cond) ∈ mp_tbl := List.mem_filter.mpr ⟨List.mem_of_getElem? (i := 363) (by decide +kernel), by decide +kernel⟩
theorem zq_364 : (.methodLink zR_La 77 zy_MP_scored : Cond) ∈ mp_tbl := List.mem_filter.mpr ⟨List.mem_of_getElem? (i := 364) (by decide +kernel), by decide +kernel⟩
theorem zq_365 : (.instanceMethod zy_MP_scored : Cond) ∈ mp_tbl := List.mem_filter.mpr ⟨List.mem_of_getElem? (i := 365) (by decide +kernel), by decide +kernel⟩
theorem zq_366 : (.selects zR_MP zy_MP_scored zy_MP_scored : Cond) ∈ mp_tbl := List.mem_filter.mpr ⟨List.mem_of_getElem? (i := 366) (by decide +kernel), by decide +kernel⟩
theorem zq_367 : (.code zy_MP_scored zb_MP_scored 2 (some .long) : Cond) ∈ mp_tbl := List.mem_filter.mpr ⟨List.mem_of_getElem? (i := 367) (by decide +kernel), by decide +kernel⟩
theorem zq_368 : (.methodLink zR_MP 143 zy_Fo_isTold : Cond) ∈ mp_tbl := List.mem_filter.mpr ⟨List.mem_of_getElem? (i := 368) (by decide +kernel), by decide +kernel⟩
theorem zq_369 : (.instanceMethod zy_Fo_isTold : Cond) ∈ mp_tbl := List.mem_filter.mpr ⟨List.mem_of_getElem? (i := 369) (by decide +kernel), by decide +kernel⟩
theorem zq_370 : (.selects zR_Fo zy_Fo_isTold zy_Fo_isTold : Cond) ∈ mp_tbl := List.mem_filter.mpr ⟨List.mem_of_getElem? (i := 370) (by decide +kernel), by decide +kernel⟩
theorem zq_371 : (.code zy_Fo_isTold zb_Fo_isTold 1 (some .boolean) : Cond) ∈ mp_tbl := List.mem_filter.mpr ⟨List.mem_of_getElem? (i := 371) (by decide +kernel), by decide +kernel⟩
theorem zq_372 : (.constantLong zR_MP 148 (-9223372036854775808) : Cond) ∈ mp_tbl := List.mem_filter.mpr ⟨List.mem_of_getElem? (i := 372) (by decide +kernel), by decide +kernel⟩
theorem zq_373 : (.methodLink zR_MP 150 zy_MP_valueFor : Cond) ∈ mp_tbl := List.mem_filter.mpr ⟨List.mem_of_getElem? (i := 373) (by decide +kernel), by decide +kernel⟩
theorem zq_375 : (.instanceMethod zy_MP_valueFor : Cond) ∈ mp_tbl := List.mem_filter.mpr ⟨List.mem_of_getElem? (i := 375) (by decide +kernel), by decide +kernel⟩
theorem zq_376 : (.code zy_MP_valueFor zb_MP_valueFor 2 (some .long) : Cond) ∈ mp_tbl := List.mem_filter.mpr ⟨List.mem_of_getElem? (i := 376) (by decide +kernel), by decide +kernel⟩
theorem zq_377 : (.methodLink zR_MP 167 zy_Pa_ownCount : Cond) ∈ mp_tbl := List.mem_filter.mpr ⟨List.mem_of_getElem? (i := 377) (by decide +kernel), by decide +kernel⟩
theorem zq_378 : (.instanceMethod zy_Pa_ownCount : Cond) ∈ mp_tbl := List.mem_filter.mpr ⟨List.mem_of_getElem? (i := 378) (by decide +kernel), by decide +kernel⟩
theorem zq_379 : (.selects zR_Pa zy_Pa_ownCount zy_Pa_ownCount : Cond) ∈ mp_tbl := List.mem_filter.mpr ⟨List.mem_of_getElem? (i := 379) (by decide +kernel), by decide +kernel⟩
theorem zq_380 : (.code zy_Pa_ownCount zb_Pa_ownCount 4 (some .int) : Cond) ∈ mp_tbl := List.mem_filter.mpr ⟨List.mem_of_getElem? (i := 380) (by decide +kernel), by decide +kernel⟩
theorem zq_381 : (.methodLink zR_MP 170 zy_Fo_value : Cond) ∈ mp_tbl := List.mem_filter.mpr ⟨List.mem_of_getElem? (i := 381) (by decide +kernel), by decide +kernel⟩
theorem zq_382 : (.instanceMethod zy_Fo_value : Cond) ∈ mp_tbl := List.mem_filter.mpr ⟨List.mem_of_getElem? (i := 382) (by decide +kernel), by decide +kernel⟩
theorem zq_383 : (.selects zR_Fo zy_Fo_value zy_Fo_value : Cond) ∈ mp_tbl := List.mem_filter.mpr ⟨List.mem_of_getElem? (i := 383) (by decide +kernel), by decide +kernel⟩
theorem zq_384 : (.code zy_Fo_value zb_Fo_value 6 (some .long) : Cond) ∈ mp_tbl := List.mem_filter.mpr ⟨List.mem_of_getElem? (i := 384) (by decide +kernel), by decide +kernel⟩
theorem zq_385 : (.methodLink zR_Fo 77 zy_Fo_valueOf : Cond) ∈ mp_tbl := List.mem_filter.mpr ⟨List.mem_of_getElem? (i := 385) (by decide +kernel), by decide +kernel⟩
theorem zq_386 : (.static zy_Fo_valueOf : Cond) ∈ mp_tbl := List.mem_filter.mpr ⟨List.mem_of_getElem? (i := 386) (by decide +kernel), by decide +kernel⟩
theorem zq_387 : (.code zy_Fo_valueOf zb_Fo_valueOf 3 (some .long) : Cond) ∈ mp_tbl := List.mem_filter.mpr ⟨List.mem_of_getElem? (i := 387) (by decide +kernel), by decide +kernel⟩
theorem zq_388 : (.methodLink zR_Fo 85 zy_Fo_share : Cond) ∈ mp_tbl := List.mem_filter.mpr ⟨List.mem_of_getElem? (i := 388) (by decide +kernel), by decide +kernel⟩
theorem zq_389 : (.static zy_Fo_share : Cond) ∈ mp_tbl := List.mem_filter.mpr ⟨List.mem_of_getElem? (i := 389) (by decide +kernel), by decide +kernel⟩
theorem zq_390 : (.code zy_Fo_share zb_Fo_share 5 (some .long) : Cond) ∈ mp_tbl := List.mem_filter.mpr ⟨List.mem_of_getElem? (i := 390) (by decide +kernel), by decide +kernel⟩
theorem zq_391 : (.constantLong zR_Fo 89 (1000) : Cond) ∈ mp_tbl := List.mem_filter.mpr ⟨List.mem_of_getElem? (i := 391) (by decide +kernel), by decide +kernel⟩
theorem zq_392 : (.methodLink zR_Fo 81 zy_Fo_join : Cond) ∈ mp_tbl := List.mem_filter.mpr ⟨List.mem_of_getElem? (i := 392) (by decide +kernel), by decide +kernel⟩
theorem zq_393 : (.static zy_Fo_join : Cond) ∈ mp_tbl := List.mem_filter.mpr ⟨List.mem_of_getElem? (i := 393) (by decide +kernel), by decide +kernel⟩
theorem zq_394 : (.code zy_Fo_join zb_Fo_join 5 (some .long) : Cond) ∈ mp_tbl := List.mem_filter.mpr ⟨List.mem_of_getElem? (i := 394) (by decide +kernel), by decide +kernel⟩
theorem zq_395 : (.methodLink zR_Fo 91 zy_Fo_cut : Cond) ∈ mp_tbl := List.mem_filter.mpr ⟨List.mem_of_getElem? (i := 395) (by decide +kernel), by decide +kernel⟩
theorem zq_396 : (.static zy_Fo_cut : Cond) ∈ mp_tbl := List.mem_filter.mpr ⟨List.mem_of_getElem? (i := 396) (by decide +kernel), by decide +kernel⟩
theorem zq_397 : (.code zy_Fo_cut zb_Fo_cut 2 (some .long) : Cond) ∈ mp_tbl := List.mem_filter.mpr ⟨List.mem_of_getElem? (i := 397) (by decide +kernel), by decide +kernel⟩
theorem zq_398 : (.constantLong zR_Fo 107 (-1000000000000) : Cond) ∈ mp_tbl := List.mem_filter.mpr ⟨List.mem_of_getElem? (i := 398) (by decide +kernel), by decide +kernel⟩
theorem zq_399 : (.constantLong zR_Fo 109 (1000000000000) : Cond) ∈ mp_tbl := List.mem_filter.mpr ⟨List.mem_of_getElem? (i := 399) (by decide +kernel), by decide +kernel⟩
theorem zq_400 : (.methodLink zR_Fo 99 zy_Jm_min : Cond) ∈ mp_tbl := List.mem_filter.mpr ⟨List.mem_of_getElem? (i := 400) (by decide +kernel), by decide +kernel⟩
theorem zq_401 : (.static zy_Jm_min : Cond) ∈ mp_tbl := List.mem_filter.mpr ⟨List.mem_of_getElem? (i := 401) (by decide +kernel), by decide +kernel⟩
theorem zq_402 : (.code zy_Jm_min zb_Jm_min 4 (some .long) : Cond) ∈ mp_tbl := List.mem_filter.mpr ⟨List.mem_of_getElem? (i := 402) (by decide +kernel), by decide +kernel⟩
theorem zq_403 : (.methodLink zR_Fo 104 zy_Jm_max : Cond) ∈ mp_tbl := List.mem_filter.mpr ⟨List.mem_of_getElem? (i := 403) (by decide +kernel), by decide +kernel⟩
theorem zq_404 : (.static zy_Jm_max : Cond) ∈ mp_tbl := List.mem_filter.mpr ⟨List.mem_of_getElem? (i := 404) (by decide +kernel), by decide +kernel⟩
theorem zq_405 : (.code zy_Jm_max zb_Jm_max 4 (some .long) : Cond) ∈ mp_tbl := List.mem_filter.mpr ⟨List.mem_of_getElem? (i := 405) (by decide +kernel), by decide +kernel⟩
theorem zq_406 : (.methodLink zR_Fo 95 zy_Fo_cutProduct : Cond) ∈ mp_tbl := List.mem_filter.mpr ⟨List.mem_of_getElem? (i := 406) (by decide +kernel), by decide +kernel⟩
theorem zq_407 : (.static zy_Fo_cutProduct : Cond) ∈ mp_tbl := List.mem_filter.mpr ⟨List.mem_of_getElem? (i := 407) (by decide +kernel), by decide +kernel⟩
theorem zq_408 : (.code zy_Fo_cutProduct zb_Fo_cutProduct 4 (some .long) : Cond) ∈ mp_tbl := List.mem_filter.mpr ⟨List.mem_of_getElem? (i := 408) (by decide +kernel), by decide +kernel⟩
theorem zq_409 : (.methodLink zR_Fo 111 zy_Jm_abs : Cond) ∈ mp_tbl := List.mem_filter.mpr ⟨List.mem_of_getElem? (i := 409) (by decide +kernel), by decide +kernel⟩
theorem zq_410 : (.static zy_Jm_abs : Cond) ∈ mp_tbl := List.mem_filter.mpr ⟨List.mem_of_getElem? (i := 410) (by decide +kernel), by decide +kernel⟩
theorem zq_411 : (.code zy_Jm_abs zb_Jm_abs 2 (some .long) : Cond) ∈ mp_tbl := List.mem_filter.mpr ⟨List.mem_of_getElem? (i := 411) (by decide +kernel), by decide +kernel⟩
theorem zq_412 : (.methodLink zR_La 82 zy_MP_swap : Cond) ∈ mp_tbl := List.mem_filter.mpr ⟨List.mem_of_getElem? (i := 412) (by decide +kernel), by decide +kernel⟩
theorem zq_413 : (.instanceMethod zy_MP_swap : Cond) ∈ mp_tbl := List.mem_filter.mpr ⟨List.mem_of_getElem? (i := 413) (by decide +kernel), by decide +kernel⟩
theorem zq_414 : (.selects zR_MP zy_MP_swap zy_MP_swap : Cond) ∈ mp_tbl := List.mem_filter.mpr ⟨List.mem_of_getElem? (i := 414) (by decide +kernel), by decide +kernel⟩
theorem zq_415 : (.code zy_MP_swap zb_MP_swap 6 (some .int) : Cond) ∈ mp_tbl := List.mem_filter.mpr ⟨List.mem_of_getElem? (i := 415) (by decide +kernel), by decide +kernel⟩
theorem zq_416 : (.methodLink zR_MP 154 zy_Ch_dropLast : Cond) ∈ mp_tbl := List.mem_filter.mpr ⟨List.mem_of_getElem? (i := 416) (by decide +kernel), by decide +kernel⟩
theorem zq_417 : (.instanceMethod zy_Ch_dropLast : Cond) ∈ mp_tbl := List.mem_filter.mpr ⟨List.mem_of_getElem? (i := 417) (by decide +kernel), by decide +kernel⟩
theorem zq_418 : (.selects zR_Ch zy_Ch_dropLast zy_Ch_dropLast : Cond) ∈ mp_tbl := List.mem_filter.mpr ⟨List.mem_of_getElem? (i := 418) (by decide +kernel), by decide +kernel⟩
theorem zq_419 : (.code zy_Ch_dropLast zb_Ch_dropLast 1 none : Cond) ∈ mp_tbl := List.mem_filter.mpr ⟨List.mem_of_getElem? (i := 419) (by decide +kernel), by decide +kernel⟩
theorem zq_420 : (.methodLink zR_La 87 zy_MP_mark : Cond) ∈ mp_tbl := List.mem_filter.mpr ⟨List.mem_of_getElem? (i := 420) (by decide +kernel), by decide +kernel⟩
theorem zq_421 : (.instanceMethod zy_MP_mark : Cond) ∈ mp_tbl := List.mem_filter.mpr ⟨List.mem_of_getElem? (i := 421) (by decide +kernel), by decide +kernel⟩
theorem zq_422 : (.selects zR_MP zy_MP_mark zy_MP_mark : Cond) ∈ mp_tbl := List.mem_filter.mpr ⟨List.mem_of_getElem? (i := 422) (by decide +kernel), by decide +kernel⟩
theorem zq_423 : (.code zy_MP_mark zb_MP_mark 8 (some .int) : Cond) ∈ mp_tbl := List.mem_filter.mpr ⟨List.mem_of_getElem? (i := 423) (by decide +kernel), by decide +kernel⟩
theorem zq_424 : (.constantLong zR_MP 157 (6364136223846793005) : Cond) ∈ mp_tbl := List.mem_filter.mpr ⟨List.mem_of_getElem? (i := 424) (by decide +kernel), by decide +kernel⟩
theorem zq_425 : (.methodLink zR_La 92 zy_MP_most : Cond) ∈ mp_tbl := List.mem_filter.mpr ⟨List.mem_of_getElem? (i := 425) (by decide +kernel), by decide +kernel⟩
theorem zq_426 : (.instanceMethod zy_MP_most : Cond) ∈ mp_tbl := List.mem_filter.mpr ⟨List.mem_of_getElem? (i := 426) (by decide +kernel), by decide +kernel⟩
theorem zq_427 : (.selects zR_MP zy_MP_most zy_MP_most : Cond) ∈ mp_tbl := List.mem_filter.mpr ⟨List.mem_of_getElem? (i := 427) (by decide +kernel), by decide +kernel⟩
theorem zq_428 : (.code zy_MP_most zb_MP_most 3 (some .int) : Cond) ∈ mp_tbl := List.mem_filter.mpr ⟨List.mem_of_getElem? (i := 428) (by decide +kernel), by decide +kernel⟩
theorem zq_429 : (.methodLink zR_MP 159 zy_Ne_sumOfAll : Cond) ∈ mp_tbl := List.mem_filter.mpr ⟨List.mem_of_getElem? (i := 429) (by decide +kernel), by decide +kernel⟩
theorem zq_430 : (.instanceMethod zy_Ne_sumOfAll : Cond) ∈ mp_tbl := List.mem_filter.mpr ⟨List.mem_of_getElem? (i := 430) (by decide +kernel), by decide +kernel⟩
theorem zq_431 : (.selects zR_Ne zy_Ne_sumOfAll zy_Ne_sumOfAll : Cond) ∈ mp_tbl := List.mem_filter.mpr ⟨List.mem_of_getElem? (i := 431) (by decide +kernel), by decide +kernel⟩
theorem zq_432 : (.code zy_Ne_sumOfAll zb_Ne_sumOfAll 5 none : Cond) ∈ mp_tbl := List.mem_filter.mpr ⟨List.mem_of_getElem? (i := 432) (by decide +kernel), by decide +kernel⟩
theorem zq_433 : (.methodLink zR_MP 163 zy_MP_kindsAhead : Cond) ∈ mp_tbl := List.mem_filter.mpr ⟨List.mem_of_getElem? (i := 433) (by decide +kernel), by decide +kernel⟩
theorem zq_435 : (.instanceMethod zy_MP_kindsAhead : Cond) ∈ mp_tbl := List.mem_filter.mpr ⟨List.mem_of_getElem? (i := 435) (by decide +kernel), by decide +kernel⟩
theorem zq_436 : (.code zy_MP_kindsAhead zb_MP_kindsAhead 4 (some .int) : Cond) ∈ mp_tbl := List.mem_filter.mpr ⟨List.mem_of_getElem? (i := 436) (by decide +kernel), by decide +kernel⟩
theorem zq_437 : (.classLink zR_La 10 zR_Mo : Cond) ∈ mp_tbl := List.mem_filter.mpr ⟨List.mem_of_getElem? (i := 437) (by decide +kernel), by decide +kernel⟩
theorem zq_438 : (.instantiable zR_Mo 24 : Cond) ∈ mp_tbl := List.mem_filter.mpr ⟨List.mem_of_getElem? (i := 438) (by decide +kernel), by decide +kernel⟩
theorem zq_439 : (.methodLink zR_La 12 zy_Mo_init : Cond) ∈ mp_tbl := List.mem_filter.mpr ⟨List.mem_of_getElem? (i := 439) (by decide +kernel), by decide +kernel⟩
theorem zq_440 : (.instanceMethod zy_Mo_init : Cond) ∈ mp_tbl := List.mem_filter.mpr ⟨List.mem_of_getElem? (i := 440) (by decide +kernel), by decide +kernel⟩
theorem zq_441 : (.code zy_Mo_init zb_Mo_init 1 none : Cond) ∈ mp_tbl := List.mem_filter.mpr ⟨List.mem_of_getElem? (i := 441) (by decide +kernel), by decide +kernel⟩
theorem zq_442 : (.methodLink zR_Mo 1 objectInit : Cond) ∈ mp_tbl := List.mem_filter.mpr ⟨List.mem_of_getElem? (i := 442) (by decide +kernel), by decide +kernel⟩
theorem zq_443 : (.fieldLink zR_Mo 66 "MaterialPassportsModel" "goods" "I" : Cond) ∈ mp_tbl := List.mem_filter.mpr ⟨List.mem_of_getElem? (i := 443) (by decide +kernel), by decide +kernel⟩
theorem zq_444 : (.fieldLink zR_Mo 7 "MaterialPassportsModel" "versions" "[I" : Cond) ∈ mp_tbl := List.mem_filter.mpr ⟨List.mem_of_getElem? (i := 444) (by decide +kernel), by decide +kernel⟩
theorem zq_445 : (.fieldLink zR_Mo 70 "MaterialPassportsModel" "parts" "I" : Cond) ∈ mp_tbl := List.mem_filter.mpr ⟨List.mem_of_getElem? (i := 445) (by decide +kernel), by decide +kernel⟩
theorem zq_446 : (.fieldLink zR_Mo 13 "MaterialPassportsModel" "homes" "[I" : Cond) ∈ mp_tbl := List.mem_filter.mpr ⟨List.mem_of_getElem? (i := 446) (by decide +kernel), by decide +kernel⟩
theorem zq_447 : (.fieldLink zR_Mo 16 "MaterialPassportsModel" "kinds" "[I" : Cond) ∈ mp_tbl := List.mem_filter.mpr ⟨List.mem_of_getElem? (i := 447) (by decide +kernel), by decide +kernel⟩
theorem zq_448 : (.fieldLink zR_Mo 19 "MaterialPassportsModel" "grams" "[J" : Cond) ∈ mp_tbl := List.mem_filter.mpr ⟨List.mem_of_getElem? (i := 448) (by decide +kernel), by decide +kernel⟩
theorem zq_449 : (.fieldLink zR_Mo 23 "MaterialPassportsModel" "lives" "[I" : Cond) ∈ mp_tbl := List.mem_filter.mpr ⟨List.mem_of_getElem? (i := 449) (by decide +kernel), by decide +kernel⟩
theorem zq_450 : (.fieldLink zR_Mo 26 "MaterialPassportsModel" "inners" "[I" : Cond) ∈ mp_tbl := List.mem_filter.mpr ⟨List.mem_of_getElem? (i := 450) (by decide +kernel), by decide +kernel⟩
theorem zq_451 : (.fieldLink zR_Mo 95 "MaterialPassportsModel" "changes" "I" : Cond) ∈ mp_tbl := List.mem_filter.mpr ⟨List.mem_of_getElem? (i := 451) (by decide +kernel), by decide +kernel⟩
theorem zq_452 : (.fieldLink zR_Mo 29 "MaterialPassportsModel" "changeParts" "[I" : Cond) ∈ mp_tbl := List.mem_filter.mpr ⟨List.mem_of_getElem? (i := 452) (by decide +kernel), by decide +kernel⟩
theorem zq_453 : (.fieldLink zR_Mo 32 "MaterialPassportsModel" "changeDays" "[J" : Cond) ∈ mp_tbl := List.mem_filter.mpr ⟨List.mem_of_getElem? (i := 453) (by decide +kernel), by decide +kernel⟩
theorem zq_454 : (.fieldLink zR_Mo 35 "MaterialPassportsModel" "changeKinds" "[I" : Cond) ∈ mp_tbl := List.mem_filter.mpr ⟨List.mem_of_getElem? (i := 454) (by decide +kernel), by decide +kernel⟩
theorem zq_455 : (.fieldLink zR_Mo 38 "MaterialPassportsModel" "changeGrams" "[J" : Cond) ∈ mp_tbl := List.mem_filter.mpr ⟨List.mem_of_getElem? (i := 455) (by decide +kernel), by decide +kernel⟩
theorem zq_456 : (.fieldLink zR_Mo 41 "MaterialPassportsModel" "rights" "[Z" : Cond) ∈ mp_tbl := List.mem_filter.mpr ⟨List.mem_of_getElem? (i := 456) (by decide +kernel), by decide +kernel⟩
theorem zq_457 : (.fieldLink zR_Mo 45 "MaterialPassportsModel" "text" "[I" : Cond) ∈ mp_tbl := List.mem_filter.mpr ⟨List.mem_of_getElem? (i := 457) (by decide +kernel), by decide +kernel⟩
theorem zq_458 : (.fieldLink zR_Mo 137 "MaterialPassportsModel" "size" "I" : Cond) ∈ mp_tbl := List.mem_filter.mpr ⟨List.mem_of_getElem? (i := 458) (by decide +kernel), by decide +kernel⟩
theorem zq_459 : (.fieldLink zR_Mo 48 "MaterialPassportsModel" "words" "[I" : Cond) ∈ mp_tbl := List.mem_filter.mpr ⟨List.mem_of_getElem? (i := 459) (by decide +kernel), by decide +kernel⟩
theorem zq_460 : (.fieldLink zR_Mo 153 "MaterialPassportsModel" "wordCount" "I" : Cond) ∈ mp_tbl := List.mem_filter.mpr ⟨List.mem_of_getElem? (i := 460) (by decide +kernel), by decide +kernel⟩
theorem zq_461 : (.fieldLink zR_Mo 156 "MaterialPassportsModel" "hasFormula" "Z" : Cond) ∈ mp_tbl := List.mem_filter.mpr ⟨List.mem_of_getElem? (i := 461) (by decide +kernel), by decide +kernel⟩
theorem zq_462 : (.fieldLink zR_Mo 51 "MaterialPassportsModel" "newWords" "[I" : Cond) ∈ mp_tbl := List.mem_filter.mpr ⟨List.mem_of_getElem? (i := 462) (by decide +kernel), by decide +kernel⟩
theorem zq_463 : (.fieldLink zR_Mo 54 "MaterialPassportsModel" "stack" "[J" : Cond) ∈ mp_tbl := List.mem_filter.mpr ⟨List.mem_of_getElem? (i := 463) (by decide +kernel), by decide +kernel⟩
theorem zq_464 : (.fieldLink zR_Mo 57 "MaterialPassportsModel" "own" "[J" : Cond) ∈ mp_tbl := List.mem_filter.mpr ⟨List.mem_of_getElem? (i := 464) (by decide +kernel), by decide +kernel⟩
theorem zq_465 : (.fieldLink zR_Mo 60 "MaterialPassportsModel" "sums" "[J" : Cond) ∈ mp_tbl := List.mem_filter.mpr ⟨List.mem_of_getElem? (i := 465) (by decide +kernel), by decide +kernel⟩
theorem zq_466 : (.fieldLink zR_Mo 63 "MaterialPassportsModel" "next" "[J" : Cond) ∈ mp_tbl := List.mem_filter.mpr ⟨List.mem_of_getElem? (i := 466) (by decide +kernel), by decide +kernel⟩
theorem zq_516 : (.methodLink zR_La 17 zy_Mo_good : Cond) ∈ mp_tbl := List.mem_filter.mpr ⟨List.mem_of_getElem? (i := 516) (by decide +kernel), by decide +kernel⟩
theorem zq_517 : (.instanceMethod zy_Mo_good : Cond) ∈ mp_tbl := List.mem_filter.mpr ⟨List.mem_of_getElem? (i := 517) (by decide +kernel), by decide +kernel⟩
theorem zq_518 : (.selects zR_Mo zy_Mo_good zy_Mo_good : Cond) ∈ mp_tbl := List.mem_filter.mpr ⟨List.mem_of_getElem? (i := 518) (by decide +kernel), by decide +kernel⟩
theorem zq_519 : (.code zy_Mo_good zb_Mo_good 1 (some .int) : Cond) ∈ mp_tbl := List.mem_filter.mpr ⟨List.mem_of_getElem? (i := 519) (by decide +kernel), by decide +kernel⟩
theorem zq_520 : (.methodLink zR_La 24 zy_Mo_part : Cond) ∈ mp_tbl := List.mem_filter.mpr ⟨List.mem_of_getElem? (i := 520) (by decide +kernel), by decide +kernel⟩
theorem zq_521 : (.instanceMethod zy_Mo_part : Cond) ∈ mp_tbl := List.mem_filter.mpr ⟨List.mem_of_getElem? (i := 521) (by decide +kernel), by decide +kernel⟩
theorem zq_522 : (.selects zR_Mo zy_Mo_part zy_Mo_part : Cond) ∈ mp_tbl := List.mem_filter.mpr ⟨List.mem_of_getElem? (i := 522) (by decide +kernel), by decide +kernel⟩
theorem zq_523 : (.code zy_Mo_part zb_Mo_part 6 (some .int) : Cond) ∈ mp_tbl := List.mem_filter.mpr ⟨List.mem_of_getElem? (i := 523) (by decide +kernel), by decide +kernel⟩
theorem zq_524 : (.methodLink zR_Mo 73 zy_Mo_isGood : Cond) ∈ mp_tbl := List.mem_filter.mpr ⟨List.mem_of_getElem? (i := 524) (by decide +kernel), by decide +kernel⟩
theorem zq_526 : (.instanceMethod zy_Mo_isGood : Cond) ∈ mp_tbl := List.mem_filter.mpr ⟨List.mem_of_getElem? (i := 526) (by decide +kernel), by decide +kernel⟩
theorem zq_527 : (.code zy_Mo_isGood zb_Mo_isGood 2 (some .boolean) : Cond) ∈ mp_tbl := List.mem_filter.mpr ⟨List.mem_of_getElem? (i := 527) (by decide +kernel), by decide +kernel⟩
theorem zq_528 : (.methodLink zR_Mo 77 zy_Mo_isKind : Cond) ∈ mp_tbl := List.mem_filter.mpr ⟨List.mem_of_getElem? (i := 528) (by decide +kernel), by decide +kernel⟩
theorem zq_529 : (.static zy_Mo_isKind : Cond) ∈ mp_tbl := List.mem_filter.mpr ⟨List.mem_of_getElem? (i := 529) (by decide +kernel), by decide +kernel⟩
theorem zq_530 : (.code zy_Mo_isKind zb_Mo_isKind 1 (some .boolean) : Cond) ∈ mp_tbl := List.mem_filter.mpr ⟨List.mem_of_getElem? (i := 530) (by decide +kernel), by decide +kernel⟩
theorem zq_531 : (.constantLong zR_Mo 80 (1000000000) : Cond) ∈ mp_tbl := List.mem_filter.mpr ⟨List.mem_of_getElem? (i := 531) (by decide +kernel), by decide +kernel⟩
theorem zq_532 : (.methodLink zR_Mo 82 zy_Mo_isIn : Cond) ∈ mp_tbl := List.mem_filter.mpr ⟨List.mem_of_getElem? (i := 532) (by decide +kernel), by decide +kernel⟩
theorem zq_533 : (.static zy_Mo_isIn : Cond) ∈ mp_tbl := List.mem_filter.mpr ⟨List.mem_of_getElem? (i := 533) (by decide +kernel), by decide +kernel⟩
theorem zq_534 : (.code zy_Mo_isIn zb_Mo_isIn 6 (some .boolean) : Cond) ∈ mp_tbl := List.mem_filter.mpr ⟨List.mem_of_getElem? (i := 534) (by decide +kernel), by decide +kernel⟩
theorem zq_535 : (.constantLong zR_Mo 86 (200) : Cond) ∈ mp_tbl := List.mem_filter.mpr ⟨List.mem_of_getElem? (i := 535) (by decide +kernel), by decide +kernel⟩
theorem zq_536 : (.methodLink zR_La 29 zy_Mo_into : Cond) ∈ mp_tbl := List.mem_filter.mpr ⟨List.mem_of_getElem? (i := 536) (by decide +kernel), by decide +kernel⟩
theorem zq_537 : (.instanceMethod zy_Mo_into : Cond) ∈ mp_tbl := List.mem_filter.mpr ⟨List.mem_of_getElem? (i := 537) (by decide +kernel), by decide +kernel⟩
theorem zq_538 : (.selects zR_Mo zy_Mo_into zy_Mo_into : Cond) ∈ mp_tbl := List.mem_filter.mpr ⟨List.mem_of_getElem? (i := 538) (by decide +kernel), by decide +kernel⟩
theorem zq_539 : (.code zy_Mo_into zb_Mo_into 3 (some .boolean) : Cond) ∈ mp_tbl := List.mem_filter.mpr ⟨List.mem_of_getElem? (i := 539) (by decide +kernel), by decide +kernel⟩
theorem zq_540 : (.methodLink zR_Mo 88 zy_Mo_isPart : Cond) ∈ mp_tbl := List.mem_filter.mpr ⟨List.mem_of_getElem? (i := 540) (by decide +kernel), by decide +kernel⟩
theorem zq_542 : (.instanceMethod zy_Mo_isPart : Cond) ∈ mp_tbl := List.mem_filter.mpr ⟨List.mem_of_getElem? (i := 542) (by decide +kernel), by decide +kernel⟩
theorem zq_543 : (.code zy_Mo_isPart zb_Mo_isPart 2 (some .boolean) : Cond) ∈ mp_tbl := List.mem_filter.mpr ⟨List.mem_of_getElem? (i := 543) (by decide +kernel), by decide +kernel⟩
theorem zq_544 : (.methodLink zR_Mo 91 zy_Mo_inside : Cond) ∈ mp_tbl := List.mem_filter.mpr ⟨List.mem_of_getElem? (i := 544) (by decide +kernel), by decide +kernel⟩
theorem zq_546 : (.instanceMethod zy_Mo_inside : Cond) ∈ mp_tbl := List.mem_filter.mpr ⟨List.mem_of_getElem? (i := 546) (by decide +kernel), by decide +kernel⟩
theorem zq_547 : (.code zy_Mo_inside zb_Mo_inside 5 (some .int) : Cond) ∈ mp_tbl := List.mem_filter.mpr ⟨List.mem_of_getElem? (i := 547) (by decide +kernel), by decide +kernel⟩
theorem zq_548 : (.methodLink zR_La 33 zy_Mo_life : Cond) ∈ mp_tbl := List.mem_filter.mpr ⟨List.mem_of_getElem? (i := 548) (by decide +kernel), by decide +kernel⟩
theorem zq_549 : (.instanceMethod zy_Mo_life : Cond) ∈ mp_tbl := List.mem_filter.mpr ⟨List.mem_of_getElem? (i := 549) (by decide +kernel), by decide +kernel⟩
theorem zq_550 : (.selects zR_Mo zy_Mo_life zy_Mo_life : Cond) ∈ mp_tbl := List.mem_filter.mpr ⟨List.mem_of_getElem? (i := 550) (by decide +kernel), by decide +kernel⟩
theorem zq_551 : (.code zy_Mo_life zb_Mo_life 3 (some .boolean) : Cond) ∈ mp_tbl := List.mem_filter.mpr ⟨List.mem_of_getElem? (i := 551) (by decide +kernel), by decide +kernel⟩
theorem zq_552 : (.methodLink zR_La 38 zy_Mo_change : Cond) ∈ mp_tbl := List.mem_filter.mpr ⟨List.mem_of_getElem? (i := 552) (by decide +kernel), by decide +kernel⟩
theorem zq_553 : (.instanceMethod zy_Mo_change : Cond) ∈ mp_tbl := List.mem_filter.mpr ⟨List.mem_of_getElem? (i := 553) (by decide +kernel), by decide +kernel⟩
theorem zq_554 : (.selects zR_Mo zy_Mo_change zy_Mo_change : Cond) ∈ mp_tbl := List.mem_filter.mpr ⟨List.mem_of_getElem? (i := 554) (by decide +kernel), by decide +kernel⟩
theorem zq_555 : (.code zy_Mo_change zb_Mo_change 7 (some .boolean) : Cond) ∈ mp_tbl := List.mem_filter.mpr ⟨List.mem_of_getElem? (i := 555) (by decide +kernel), by decide +kernel⟩
theorem zq_556 : (.constantLong zR_Mo 98 (100000) : Cond) ∈ mp_tbl := List.mem_filter.mpr ⟨List.mem_of_getElem? (i := 556) (by decide +kernel), by decide +kernel⟩
theorem zq_557 : (.methodLink zR_Mo 100 zy_Mo_add : Cond) ∈ mp_tbl := List.mem_filter.mpr ⟨List.mem_of_getElem? (i := 557) (by decide +kernel), by decide +kernel⟩
theorem zq_559 : (.instanceMethod zy_Mo_add : Cond) ∈ mp_tbl := List.mem_filter.mpr ⟨List.mem_of_getElem? (i := 559) (by decide +kernel), by decide +kernel⟩
theorem zq_560 : (.code zy_Mo_add zb_Mo_add 7 none : Cond) ∈ mp_tbl := List.mem_filter.mpr ⟨List.mem_of_getElem? (i := 560) (by decide +kernel), by decide +kernel⟩
theorem zq_561 : (.methodLink zR_La 43 zy_Mo_total : Cond) ∈ mp_tbl := List.mem_filter.mpr ⟨List.mem_of_getElem? (i := 561) (by decide +kernel), by decide +kernel⟩
theorem zq_562 : (.instanceMethod zy_Mo_total : Cond) ∈ mp_tbl := List.mem_filter.mpr ⟨List.mem_of_getElem? (i := 562) (by decide +kernel), by decide +kernel⟩
theorem zq_563 : (.selects zR_Mo zy_Mo_total zy_Mo_total : Cond) ∈ mp_tbl := List.mem_filter.mpr ⟨List.mem_of_getElem? (i := 563) (by decide +kernel), by decide +kernel⟩
theorem zq_564 : (.code zy_Mo_total zb_Mo_total 3 (some .long) : Cond) ∈ mp_tbl := List.mem_filter.mpr ⟨List.mem_of_getElem? (i := 564) (by decide +kernel), by decide +kernel⟩
theorem zq_565 : (.methodLink zR_Mo 115 zy_Mo_totalOn : Cond) ∈ mp_tbl := List.mem_filter.mpr ⟨List.mem_of_getElem? (i := 565) (by decide +kernel), by decide +kernel⟩
theorem zq_566 : (.instanceMethod zy_Mo_totalOn : Cond) ∈ mp_tbl := List.mem_filter.mpr ⟨List.mem_of_getElem? (i := 566) (by decide +kernel), by decide +kernel⟩
theorem zq_567 : (.selects zR_Mo zy_Mo_totalOn zy_Mo_totalOn : Cond) ∈ mp_tbl := List.mem_filter.mpr ⟨List.mem_of_getElem? (i := 567) (by decide +kernel), by decide +kernel⟩
theorem zq_568 : (.code zy_Mo_totalOn zb_Mo_totalOn 5 (some .long) : Cond) ∈ mp_tbl := List.mem_filter.mpr ⟨List.mem_of_getElem? (i := 568) (by decide +kernel), by decide +kernel⟩
theorem zq_569 : (.constantLong zR_Mo 119 (-1) : Cond) ∈ mp_tbl := List.mem_filter.mpr ⟨List.mem_of_getElem? (i := 569) (by decide +kernel), by decide +kernel⟩
theorem zq_570 : (.methodLink zR_Mo 121 zy_Mo_sum : Cond) ∈ mp_tbl := List.mem_filter.mpr ⟨List.mem_of_getElem? (i := 570) (by decide +kernel), by decide +kernel⟩
theorem zq_572 : (.instanceMethod zy_Mo_sum : Cond) ∈ mp_tbl := List.mem_filter.mpr ⟨List.mem_of_getElem? (i := 572) (by decide +kernel), by decide +kernel⟩
theorem zq_573 : (.code zy_Mo_sum zb_Mo_sum 6 none : Cond) ∈ mp_tbl := List.mem_filter.mpr ⟨List.mem_of_getElem? (i := 573) (by decide +kernel), by decide +kernel⟩
theorem zq_574 : (.methodLink zR_Mo 108 zy_Mo_kindOn : Cond) ∈ mp_tbl := List.mem_filter.mpr ⟨List.mem_of_getElem? (i := 574) (by decide +kernel), by decide +kernel⟩
theorem zq_576 : (.instanceMethod zy_Mo_kindOn : Cond) ∈ mp_tbl := List.mem_filter.mpr ⟨List.mem_of_getElem? (i := 576) (by decide +kernel), by decide +kernel⟩
theorem zq_577 : (.code zy_Mo_kindOn zb_Mo_kindOn 5 (some .int) : Cond) ∈ mp_tbl := List.mem_filter.mpr ⟨List.mem_of_getElem? (i := 577) (by decide +kernel), by decide +kernel⟩
theorem zq_578 : (.methodLink zR_Mo 104 zy_Mo_changeOf : Cond) ∈ mp_tbl := List.mem_filter.mpr ⟨List.mem_of_getElem? (i := 578) (by decide +kernel), by decide +kernel⟩
theorem zq_580 : (.instanceMethod zy_Mo_changeOf : Cond) ∈ mp_tbl := List.mem_filter.mpr ⟨List.mem_of_getElem? (i := 580) (by decide +kernel), by decide +kernel⟩
theorem zq_581 : (.code zy_Mo_changeOf zb_Mo_changeOf 7 (some .int) : Cond) ∈ mp_tbl := List.mem_filter.mpr ⟨List.mem_of_getElem? (i := 581) (by decide +kernel), by decide +kernel⟩
theorem zq_582 : (.methodLink zR_Mo 111 zy_Mo_gramsOn : Cond) ∈ mp_tbl := List.mem_filter.mpr ⟨List.mem_of_getElem? (i := 582) (by decide +kernel), by decide +kernel⟩
theorem zq_584 : (.instanceMethod zy_Mo_gramsOn : Cond) ∈ mp_tbl := List.mem_filter.mpr ⟨List.mem_of_getElem? (i := 584) (by decide +kernel), by decide +kernel⟩
theorem zq_585 : (.code zy_Mo_gramsOn zb_Mo_gramsOn 5 (some .long) : Cond) ∈ mp_tbl := List.mem_filter.mpr ⟨List.mem_of_getElem? (i := 585) (by decide +kernel), by decide +kernel⟩
theorem zq_586 : (.methodLink zR_La 48 zy_Mo_totalOn : Cond) ∈ mp_tbl := List.mem_filter.mpr ⟨List.mem_of_getElem? (i := 586) (by decide +kernel), by decide +kernel⟩
theorem zq_587 : (.methodLink zR_La 52 zy_Mo_frees : Cond) ∈ mp_tbl := List.mem_filter.mpr ⟨List.mem_of_getElem? (i := 587) (by decide +kernel), by decide +kernel⟩
theorem zq_588 : (.instanceMethod zy_Mo_frees : Cond) ∈ mp_tbl := List.mem_filter.mpr ⟨List.mem_of_getElem? (i := 588) (by decide +kernel), by decide +kernel⟩
theorem zq_589 : (.selects zR_Mo zy_Mo_frees zy_Mo_frees : Cond) ∈ mp_tbl := List.mem_filter.mpr ⟨List.mem_of_getElem? (i := 589) (by decide +kernel), by decide +kernel⟩
theorem zq_590 : (.code zy_Mo_frees zb_Mo_frees 6 (some .long) : Cond) ∈ mp_tbl := List.mem_filter.mpr ⟨List.mem_of_getElem? (i := 590) (by decide +kernel), by decide +kernel⟩
theorem zq_591 : (.methodLink zR_La 57 zy_Mo_version : Cond) ∈ mp_tbl := List.mem_filter.mpr ⟨List.mem_of_getElem? (i := 591) (by decide +kernel), by decide +kernel⟩
theorem zq_592 : (.instanceMethod zy_Mo_version : Cond) ∈ mp_tbl := List.mem_filter.mpr ⟨List.mem_of_getElem? (i := 592) (by decide +kernel), by decide +kernel⟩
theorem zq_593 : (.selects zR_Mo zy_Mo_version zy_Mo_version : Cond) ∈ mp_tbl := List.mem_filter.mpr ⟨List.mem_of_getElem? (i := 593) (by decide +kernel), by decide +kernel⟩
theorem zq_594 : (.code zy_Mo_version zb_Mo_version 2 (some .int) : Cond) ∈ mp_tbl := List.mem_filter.mpr ⟨List.mem_of_getElem? (i := 594) (by decide +kernel), by decide +kernel⟩
theorem zq_595 : (.methodLink zR_La 62 zy_Mo_right : Cond) ∈ mp_tbl := List.mem_filter.mpr ⟨List.mem_of_getElem? (i := 595) (by decide +kernel), by decide +kernel⟩
theorem zq_596 : (.instanceMethod zy_Mo_right : Cond) ∈ mp_tbl := List.mem_filter.mpr ⟨List.mem_of_getElem? (i := 596) (by decide +kernel), by decide +kernel⟩
theorem zq_597 : (.selects zR_Mo zy_Mo_right zy_Mo_right : Cond) ∈ mp_tbl := List.mem_filter.mpr ⟨List.mem_of_getElem? (i := 597) (by decide +kernel), by decide +kernel⟩
theorem zq_598 : (.code zy_Mo_right zb_Mo_right 4 (some .boolean) : Cond) ∈ mp_tbl := List.mem_filter.mpr ⟨List.mem_of_getElem? (i := 598) (by decide +kernel), by decide +kernel⟩
theorem zq_599 : (.constantLong zR_Mo 125 (7) : Cond) ∈ mp_tbl := List.mem_filter.mpr ⟨List.mem_of_getElem? (i := 599) (by decide +kernel), by decide +kernel⟩
theorem zq_600 : (.methodLink zR_La 67 zy_Mo_seen : Cond) ∈ mp_tbl := List.mem_filter.mpr ⟨List.mem_of_getElem? (i := 600) (by decide +kernel), by decide +kernel⟩
theorem zq_601 : (.instanceMethod zy_Mo_seen : Cond) ∈ mp_tbl := List.mem_filter.mpr ⟨List.mem_of_getElem? (i := 601) (by decide +kernel), by decide +kernel⟩
theorem zq_602 : (.selects zR_Mo zy_Mo_seen zy_Mo_seen : Cond) ∈ mp_tbl := List.mem_filter.mpr ⟨List.mem_of_getElem? (i := 602) (by decide +kernel), by decide +kernel⟩
theorem zq_603 : (.code zy_Mo_seen zb_Mo_seen 11 (some .long) : Cond) ∈ mp_tbl := List.mem_filter.mpr ⟨List.mem_of_getElem? (i := 603) (by decide +kernel), by decide +kernel⟩
theorem zq_604 : (.constantLong zR_Mo 127 (2) : Cond) ∈ mp_tbl := List.mem_filter.mpr ⟨List.mem_of_getElem? (i := 604) (by decide +kernel), by decide +kernel⟩
theorem zq_605 : (.methodLink zR_Mo 129 zy_Mo_partOf : Cond) ∈ mp_tbl := List.mem_filter.mpr ⟨List.mem_of_getElem? (i := 605) (by decide +kernel), by decide +kernel⟩
theorem zq_607 : (.instanceMethod zy_Mo_partOf : Cond) ∈ mp_tbl := List.mem_filter.mpr ⟨List.mem_of_getElem? (i := 607) (by decide +kernel), by decide +kernel⟩
theorem zq_608 : (.code zy_Mo_partOf zb_Mo_partOf 5 (some .int) : Cond) ∈ mp_tbl := List.mem_filter.mpr ⟨List.mem_of_getElem? (i := 608) (by decide +kernel), by decide +kernel⟩
theorem zq_609 : (.constantLong zR_Mo 133 (-2) : Cond) ∈ mp_tbl := List.mem_filter.mpr ⟨List.mem_of_getElem? (i := 609) (by decide +kernel), by decide +kernel⟩
theorem zq_610 : (.methodLink zR_La 72 zy_Mo_unit : Cond) ∈ mp_tbl := List.mem_filter.mpr ⟨List.mem_of_getElem? (i := 610) (by decide +kernel), by decide +kernel⟩
theorem zq_611 : (.instanceMethod zy_Mo_unit : Cond) ∈ mp_tbl := List.mem_filter.mpr ⟨List.mem_of_getElem? (i := 611) (by decide +kernel), by decide +kernel⟩
theorem zq_612 : (.selects zR_Mo zy_Mo_unit zy_Mo_unit : Cond) ∈ mp_tbl := List.mem_filter.mpr ⟨List.mem_of_getElem? (i := 612) (by decide +kernel), by decide +kernel⟩
theorem zq_613 : (.code zy_Mo_unit zb_Mo_unit 2 (some .boolean) : Cond) ∈ mp_tbl := List.mem_filter.mpr ⟨List.mem_of_getElem? (i := 613) (by decide +kernel), by decide +kernel⟩
theorem zq_614 : (.constantLong zR_Mo 135 (255) : Cond) ∈ mp_tbl := List.mem_filter.mpr ⟨List.mem_of_getElem? (i := 614) (by decide +kernel), by decide +kernel⟩
theorem zq_615 : (.methodLink zR_La 76 zy_Mo_score : Cond) ∈ mp_tbl := List.mem_filter.mpr ⟨List.mem_of_getElem? (i := 615) (by decide +kernel), by decide +kernel⟩
theorem zq_616 : (.instanceMethod zy_Mo_score : Cond) ∈ mp_tbl := List.mem_filter.mpr ⟨List.mem_of_getElem? (i := 616) (by decide +kernel), by decide +kernel⟩
theorem zq_617 : (.selects zR_Mo zy_Mo_score zy_Mo_score : Cond) ∈ mp_tbl := List.mem_filter.mpr ⟨List.mem_of_getElem? (i := 617) (by decide +kernel), by decide +kernel⟩
theorem zq_618 : (.code zy_Mo_score zb_Mo_score 7 (some .int) : Cond) ∈ mp_tbl := List.mem_filter.mpr ⟨List.mem_of_getElem? (i := 618) (by decide +kernel), by decide +kernel⟩
theorem zq_619 : (.methodLink zR_Mo 144 zy_Mo_isBlank : Cond) ∈ mp_tbl := List.mem_filter.mpr ⟨List.mem_of_getElem? (i := 619) (by decide +kernel), by decide +kernel⟩
theorem zq_620 : (.static zy_Mo_isBlank : Cond) ∈ mp_tbl := List.mem_filter.mpr ⟨List.mem_of_getElem? (i := 620) (by decide +kernel), by decide +kernel⟩
theorem zq_621 : (.code zy_Mo_isBlank zb_Mo_isBlank 1 (some .boolean) : Cond) ∈ mp_tbl := List.mem_filter.mpr ⟨List.mem_of_getElem? (i := 621) (by decide +kernel), by decide +kernel⟩
theorem zq_622 : (.methodLink zR_Mo 147 zy_Mo_wordAt : Cond) ∈ mp_tbl := List.mem_filter.mpr ⟨List.mem_of_getElem? (i := 622) (by decide +kernel), by decide +kernel⟩
theorem zq_624 : (.instanceMethod zy_Mo_wordAt : Cond) ∈ mp_tbl := List.mem_filter.mpr ⟨List.mem_of_getElem? (i := 624) (by decide +kernel), by decide +kernel⟩
theorem zq_625 : (.code zy_Mo_wordAt zb_Mo_wordAt 6 (some .int) : Cond) ∈ mp_tbl := List.mem_filter.mpr ⟨List.mem_of_getElem? (i := 625) (by decide +kernel), by decide +kernel⟩
theorem zq_626 : (.methodLink zR_Mo 140 zy_Mo_is : Cond) ∈ mp_tbl := List.mem_filter.mpr ⟨List.mem_of_getElem? (i := 626) (by decide +kernel), by decide +kernel⟩
theorem zq_628 : (.instanceMethod zy_Mo_is : Cond) ∈ mp_tbl := List.mem_filter.mpr ⟨List.mem_of_getElem? (i := 628) (by decide +kernel), by decide +kernel⟩
theorem zq_629 : (.code zy_Mo_is zb_Mo_is 5 (some .boolean) : Cond) ∈ mp_tbl := List.mem_filter.mpr ⟨List.mem_of_getElem? (i := 629) (by decide +kernel), by decide +kernel⟩
theorem zq_630 : (.methodLink zR_Mo 150 zy_Mo_isOfTwo : Cond) ∈ mp_tbl := List.mem_filter.mpr ⟨List.mem_of_getElem? (i := 630) (by decide +kernel), by decide +kernel⟩
theorem zq_631 : (.static zy_Mo_isOfTwo : Cond) ∈ mp_tbl := List.mem_filter.mpr ⟨List.mem_of_getElem? (i := 631) (by decide +kernel), by decide +kernel⟩
theorem zq_632 : (.code zy_Mo_isOfTwo zb_Mo_isOfTwo 1 (some .boolean) : Cond) ∈ mp_tbl := List.mem_filter.mpr ⟨List.mem_of_getElem? (i := 632) (by decide +kernel), by decide +kernel⟩
theorem zq_633 : (.methodLink zR_La 81 zy_Mo_scored : Cond) ∈ mp_tbl := List.mem_filter.mpr ⟨List.mem_of_getElem? (i := 633) (by decide +kernel), by decide +kernel⟩
theorem zq_634 : (.instanceMethod zy_Mo_scored : Cond) ∈ mp_tbl := List.mem_filter.mpr ⟨List.mem_of_getElem? (i := 634) (by decide +kernel), by decide +kernel⟩
theorem zq_635 : (.selects zR_Mo zy_Mo_scored zy_Mo_scored : Cond) ∈ mp_tbl := List.mem_filter.mpr ⟨List.mem_of_getElem? (i := 635) (by decide +kernel), by decide +kernel⟩
theorem zq_636 : (.code zy_Mo_scored zb_Mo_scored 2 (some .long) : Cond) ∈ mp_tbl := List.mem_filter.mpr ⟨List.mem_of_getElem? (i := 636) (by decide +kernel), by decide +kernel⟩
theorem zq_637 : (.methodLink zR_Mo 186 zy_Mo_valueOf : Cond) ∈ mp_tbl := List.mem_filter.mpr ⟨List.mem_of_getElem? (i := 637) (by decide +kernel), by decide +kernel⟩
theorem zq_639 : (.instanceMethod zy_Mo_valueOf : Cond) ∈ mp_tbl := List.mem_filter.mpr ⟨List.mem_of_getElem? (i := 639) (by decide +kernel), by decide +kernel⟩
theorem zq_640 : (.code zy_Mo_valueOf zb_Mo_valueOf 5 (some .long) : Cond) ∈ mp_tbl := List.mem_filter.mpr ⟨List.mem_of_getElem? (i := 640) (by decide +kernel), by decide +kernel⟩
theorem zq_641 : (.methodLink zR_Mo 174 zy_Mo_ofTwo : Cond) ∈ mp_tbl := List.mem_filter.mpr ⟨List.mem_of_getElem? (i := 641) (by decide +kernel), by decide +kernel⟩
theorem zq_642 : (.static zy_Mo_ofTwo : Cond) ∈ mp_tbl := List.mem_filter.mpr ⟨List.mem_of_getElem? (i := 642) (by decide +kernel), by decide +kernel⟩
theorem zq_643 : (.code zy_Mo_ofTwo zb_Mo_ofTwo 5 (some .long) : Cond) ∈ mp_tbl := List.mem_filter.mpr ⟨List.mem_of_getElem? (i := 643) (by decide +kernel), by decide +kernel⟩
theorem zq_644 : (.methodLink zR_Mo 166 zy_Mo_cut : Cond) ∈ mp_tbl := List.mem_filter.mpr ⟨List.mem_of_getElem? (i := 644) (by decide +kernel), by decide +kernel⟩
theorem zq_645 : (.static zy_Mo_cut : Cond) ∈ mp_tbl := List.mem_filter.mpr ⟨List.mem_of_getElem? (i := 645) (by decide +kernel), by decide +kernel⟩
theorem zq_646 : (.code zy_Mo_cut zb_Mo_cut 2 (some .long) : Cond) ∈ mp_tbl := List.mem_filter.mpr ⟨List.mem_of_getElem? (i := 646) (by decide +kernel), by decide +kernel⟩
theorem zq_647 : (.constantLong zR_Mo 160 (1000000000000) : Cond) ∈ mp_tbl := List.mem_filter.mpr ⟨List.mem_of_getElem? (i := 647) (by decide +kernel), by decide +kernel⟩
theorem zq_648 : (.constantLong zR_Mo 162 (-1000000000000) : Cond) ∈ mp_tbl := List.mem_filter.mpr ⟨List.mem_of_getElem? (i := 648) (by decide +kernel), by decide +kernel⟩
theorem zq_649 : (.methodLink zR_Mo 170 zy_Mo_product : Cond) ∈ mp_tbl := List.mem_filter.mpr ⟨List.mem_of_getElem? (i := 649) (by decide +kernel), by decide +kernel⟩
theorem zq_650 : (.static zy_Mo_product : Cond) ∈ mp_tbl := List.mem_filter.mpr ⟨List.mem_of_getElem? (i := 650) (by decide +kernel), by decide +kernel⟩
theorem zq_651 : (.code zy_Mo_product zb_Mo_product 10 (some .long) : Cond) ∈ mp_tbl := List.mem_filter.mpr ⟨List.mem_of_getElem? (i := 651) (by decide +kernel), by decide +kernel⟩
theorem zq_652 : (.methodLink zR_Mo 178 zy_Mo_countOf : Cond) ∈ mp_tbl := List.mem_filter.mpr ⟨List.mem_of_getElem? (i := 652) (by decide +kernel), by decide +kernel⟩
theorem zq_654 : (.instanceMethod zy_Mo_countOf : Cond) ∈ mp_tbl := List.mem_filter.mpr ⟨List.mem_of_getElem? (i := 654) (by decide +kernel), by decide +kernel⟩
theorem zq_655 : (.code zy_Mo_countOf zb_Mo_countOf 4 (some .long) : Cond) ∈ mp_tbl := List.mem_filter.mpr ⟨List.mem_of_getElem? (i := 655) (by decide +kernel), by decide +kernel⟩
theorem zq_656 : (.methodLink zR_Mo 182 zy_Mo_shareOf : Cond) ∈ mp_tbl := List.mem_filter.mpr ⟨List.mem_of_getElem? (i := 656) (by decide +kernel), by decide +kernel⟩
theorem zq_658 : (.instanceMethod zy_Mo_shareOf : Cond) ∈ mp_tbl := List.mem_filter.mpr ⟨List.mem_of_getElem? (i := 658) (by decide +kernel), by decide +kernel⟩
theorem zq_659 : (.code zy_Mo_shareOf zb_Mo_shareOf 8 (some .long) : Cond) ∈ mp_tbl := List.mem_filter.mpr ⟨List.mem_of_getElem? (i := 659) (by decide +kernel), by decide +kernel⟩
theorem zq_660 : (.constantLong zR_Mo 164 (1000) : Cond) ∈ mp_tbl := List.mem_filter.mpr ⟨List.mem_of_getElem? (i := 660) (by decide +kernel), by decide +kernel⟩
theorem zq_661 : (.constantLong zR_Mo 189 (-9223372036854775808) : Cond) ∈ mp_tbl := List.mem_filter.mpr ⟨List.mem_of_getElem? (i := 661) (by decide +kernel), by decide +kernel⟩
theorem zq_662 : (.methodLink zR_La 86 zy_Mo_swap : Cond) ∈ mp_tbl := List.mem_filter.mpr ⟨List.mem_of_getElem? (i := 662) (by decide +kernel), by decide +kernel⟩
theorem zq_663 : (.instanceMethod zy_Mo_swap : Cond) ∈ mp_tbl := List.mem_filter.mpr ⟨List.mem_of_getElem? (i := 663) (by decide +kernel), by decide +kernel⟩
theorem zq_664 : (.selects zR_Mo zy_Mo_swap zy_Mo_swap : Cond) ∈ mp_tbl := List.mem_filter.mpr ⟨List.mem_of_getElem? (i := 664) (by decide +kernel), by decide +kernel⟩
theorem zq_665 : (.code zy_Mo_swap zb_Mo_swap 5 (some .int) : Cond) ∈ mp_tbl := List.mem_filter.mpr ⟨List.mem_of_getElem? (i := 665) (by decide +kernel), by decide +kernel⟩
theorem zq_666 : (.methodLink zR_La 91 zy_Mo_mark : Cond) ∈ mp_tbl := List.mem_filter.mpr ⟨List.mem_of_getElem? (i := 666) (by decide +kernel), by decide +kernel⟩
theorem zq_667 : (.instanceMethod zy_Mo_mark : Cond) ∈ mp_tbl := List.mem_filter.mpr ⟨List.mem_of_getElem? (i := 667) (by decide +kernel), by decide +kernel⟩
theorem zq_668 : (.selects zR_Mo zy_Mo_mark zy_Mo_mark : Cond) ∈ mp_tbl := List.mem_filter.mpr ⟨List.mem_of_getElem? (i := 668) (by decide +kernel), by decide +kernel⟩
theorem zq_669 : (.code zy_Mo_mark zb_Mo_mark 8 (some .int) : Cond) ∈ mp_tbl := List.mem_filter.mpr ⟨List.mem_of_getElem? (i := 669) (by decide +kernel), by decide +kernel⟩
theorem zq_670 : (.constantLong zR_Mo 191 (6364136223846793005) : Cond) ∈ mp_tbl := List.mem_filter.mpr ⟨List.mem_of_getElem? (i := 670) (by decide +kernel), by decide +kernel⟩
theorem zq_671 : (.methodLink zR_La 95 zy_Mo_most : Cond) ∈ mp_tbl := List.mem_filter.mpr ⟨List.mem_of_getElem? (i := 671) (by decide +kernel), by decide +kernel⟩
theorem zq_672 : (.instanceMethod zy_Mo_most : Cond) ∈ mp_tbl := List.mem_filter.mpr ⟨List.mem_of_getElem? (i := 672) (by decide +kernel), by decide +kernel⟩
theorem zq_673 : (.selects zR_Mo zy_Mo_most zy_Mo_most : Cond) ∈ mp_tbl := List.mem_filter.mpr ⟨List.mem_of_getElem? (i := 673) (by decide +kernel), by decide +kernel⟩
theorem zq_674 : (.code zy_Mo_most zb_Mo_most 9 (some .int) : Cond) ∈ mp_tbl := List.mem_filter.mpr ⟨List.mem_of_getElem? (i := 674) (by decide +kernel), by decide +kernel⟩
theorem zq_675 : (.methodLink zR_Mo 193 zy_Mo_allOf : Cond) ∈ mp_tbl := List.mem_filter.mpr ⟨List.mem_of_getElem? (i := 675) (by decide +kernel), by decide +kernel⟩
theorem zq_677 : (.instanceMethod zy_Mo_allOf : Cond) ∈ mp_tbl := List.mem_filter.mpr ⟨List.mem_of_getElem? (i := 677) (by decide +kernel), by decide +kernel⟩
theorem zq_678 : (.code zy_Mo_allOf zb_Mo_allOf 5 (some .long) : Cond) ∈ mp_tbl := List.mem_filter.mpr ⟨List.mem_of_getElem? (i := 678) (by decide +kernel), by decide +kernel⟩
theorem zq_679 : (.constantLong zR_La 18 (4294967295) : Cond) ∈ mp_tbl := List.mem_filter.mpr ⟨List.mem_of_getElem? (i := 679) (by decide +kernel), by decide +kernel⟩
