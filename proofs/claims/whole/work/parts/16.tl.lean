set_option maxRecDepth 100000 in
theorem tl_0 : Cond.laysFinal "ClassifySort" "ClassifySort" "axioms" "LClassifySort$Axioms;" ∈ lw_tbl := List.mem_of_getElem? (i := 144) rfl
set_option maxRecDepth 100000 in
theorem tl_1 : Cond.laysFinal "ClassifySort" "ClassifySort" "reasoner" "LClassifySort$Reasoner;" ∈ lw_tbl := List.mem_of_getElem? (i := 146) rfl
set_option maxRecDepth 100000 in
theorem tl_2 : Cond.laysFinal "ClassifySort" "ClassifySort" "knowledge" "LClassifySort$Knowledge;" ∈ lw_tbl := List.mem_of_getElem? (i := 148) rfl
set_option maxRecDepth 100000 in
theorem tl_3 : Cond.laysFinal "ClassifySort" "ClassifySort" "order" "LClassifySort$Order;" ∈ lw_tbl := List.mem_of_getElem? (i := 150) rfl
set_option maxRecDepth 100000 in
theorem tl_4 : Cond.laysFinal "ClassifySort" "ClassifySort" "toldClasses" "[I" ∈ lw_tbl := List.mem_of_getElem? (i := 152) rfl
set_option maxRecDepth 100000 in
theorem tl_5 : Cond.lays "ClassifySort" "ClassifySort" "classes" "I" ∈ lw_tbl := List.mem_of_getElem? (i := 154) rfl
set_option maxRecDepth 100000 in
theorem tl_6 : Cond.lays "ClassifySort" "ClassifySort" "things" "I" ∈ lw_tbl := List.mem_of_getElem? (i := 156) rfl
set_option maxRecDepth 100000 in
theorem tl_7 : Cond.lays "ClassifySort" "ClassifySort" "questions" "I" ∈ lw_tbl := List.mem_of_getElem? (i := 158) rfl
set_option maxRecDepth 100000 in
theorem tl_8 : Cond.lays "ClassifySort" "ClassifySort" "sorted" "Z" ∈ lw_tbl := List.mem_of_getElem? (i := 160) rfl
set_option maxRecDepth 100000 in
theorem tl_9 : Cond.laysFinal "ClassifySort$Axioms" "ClassifySort$Axioms" "lefts" "[I" ∈ lw_tbl := List.mem_of_getElem? (i := 59) rfl
set_option maxRecDepth 100000 in
theorem tl_10 : Cond.laysFinal "ClassifySort$Axioms" "ClassifySort$Axioms" "rights" "[I" ∈ lw_tbl := List.mem_of_getElem? (i := 61) rfl
set_option maxRecDepth 100000 in
theorem tl_11 : Cond.lays "ClassifySort$Axioms" "ClassifySort$Axioms" "made" "I" ∈ lw_tbl := List.mem_of_getElem? (i := 63) rfl
set_option maxRecDepth 100000 in
theorem tl_12 : Cond.lays "ClassifySort$Axioms" "ClassifySort$Axioms" "there" "I" ∈ lw_tbl := List.mem_of_getElem? (i := 65) rfl
set_option maxRecDepth 100000 in
theorem tl_13 : Cond.laysFinal "ClassifySort$Reasoner" "ClassifySort$Reasoner" "axioms" "LClassifySort$Axioms;" ∈ lw_tbl := List.mem_of_getElem? (i := 80) rfl
set_option maxRecDepth 100000 in
theorem tl_14 : Cond.laysFinal "ClassifySort$Reasoner" "ClassifySort$Reasoner" "fired" "[I" ∈ lw_tbl := List.mem_of_getElem? (i := 82) rfl
set_option maxRecDepth 100000 in
theorem tl_15 : Cond.lays "ClassifySort$Reasoner" "ClassifySort$Reasoner" "limit" "I" ∈ lw_tbl := List.mem_of_getElem? (i := 84) rfl
set_option maxRecDepth 100000 in
theorem tl_16 : Cond.lays "ClassifySort$Reasoner" "ClassifySort$Reasoner" "steps" "I" ∈ lw_tbl := List.mem_of_getElem? (i := 86) rfl
set_option maxRecDepth 100000 in
theorem tl_17 : Cond.lays "ClassifySort$Reasoner" "ClassifySort$Reasoner" "facts" "I" ∈ lw_tbl := List.mem_of_getElem? (i := 88) rfl
set_option maxRecDepth 100000 in
theorem tl_18 : Cond.laysFinal "ClassifySort$Knowledge" "ClassifySort$Knowledge" "above" "[I" ∈ lw_tbl := List.mem_of_getElem? (i := 104) rfl
set_option maxRecDepth 100000 in
theorem tl_19 : Cond.laysFinal "ClassifySort$Knowledge" "ClassifySort$Knowledge" "below" "[I" ∈ lw_tbl := List.mem_of_getElem? (i := 106) rfl
set_option maxRecDepth 100000 in
theorem tl_20 : Cond.laysFinal "ClassifySort$Knowledge" "ClassifySort$Knowledge" "notAbove" "[I" ∈ lw_tbl := List.mem_of_getElem? (i := 108) rfl
set_option maxRecDepth 100000 in
theorem tl_21 : Cond.laysFinal "ClassifySort$Knowledge" "ClassifySort$Knowledge" "undecided" "[I" ∈ lw_tbl := List.mem_of_getElem? (i := 110) rfl
set_option maxRecDepth 100000 in
theorem tl_22 : Cond.laysFinal "ClassifySort$Order" "ClassifySort$Order" "knowledge" "LClassifySort$Knowledge;" ∈ lw_tbl := List.mem_of_getElem? (i := 124) rfl
set_option maxRecDepth 100000 in
theorem tl_23 : Cond.laysFinal "ClassifySort$Order" "ClassifySort$Order" "reasoner" "LClassifySort$Reasoner;" ∈ lw_tbl := List.mem_of_getElem? (i := 126) rfl
set_option maxRecDepth 100000 in
theorem tl_24 : Cond.lays "ClassifySort$Order" "ClassifySort$Order" "placed" "I" ∈ lw_tbl := List.mem_of_getElem? (i := 128) rfl
set_option maxRecDepth 100000 in
theorem tl_25 : Cond.lays "ClassifySort$Order" "ClassifySort$Order" "empties" "I" ∈ lw_tbl := List.mem_of_getElem? (i := 130) rfl
set_option maxRecDepth 100000 in
theorem tl_26 : Cond.lays "ClassifySort$Order" "ClassifySort$Order" "asked" "I" ∈ lw_tbl := List.mem_of_getElem? (i := 132) rfl
set_option maxRecDepth 100000 in
theorem tl_27 : Cond.lays "ClassifySortModel" "ClassifySortModel" "thrown" "I" ∈ lw_tbl := List.mem_of_getElem? (i := 500) rfl
set_option maxRecDepth 100000 in
theorem tl_28 : Cond.lays "ClassifySortModel" "ClassifySortModel" "classes" "I" ∈ lw_tbl := List.mem_of_getElem? (i := 502) rfl
set_option maxRecDepth 100000 in
theorem tl_29 : Cond.lays "ClassifySortModel" "ClassifySortModel" "things" "I" ∈ lw_tbl := List.mem_of_getElem? (i := 504) rfl
set_option maxRecDepth 100000 in
theorem tl_30 : Cond.lays "ClassifySortModel" "ClassifySortModel" "axioms" "I" ∈ lw_tbl := List.mem_of_getElem? (i := 506) rfl
set_option maxRecDepth 100000 in
theorem tl_31 : Cond.lays "ClassifySortModel" "ClassifySortModel" "fuel" "I" ∈ lw_tbl := List.mem_of_getElem? (i := 508) rfl
set_option maxRecDepth 100000 in
theorem tl_32 : Cond.lays "ClassifySortModel" "ClassifySortModel" "questions" "I" ∈ lw_tbl := List.mem_of_getElem? (i := 510) rfl
set_option maxRecDepth 100000 in
theorem tl_33 : Cond.lays "ClassifySortModel" "ClassifySortModel" "sorted" "Z" ∈ lw_tbl := List.mem_of_getElem? (i := 512) rfl
set_option maxRecDepth 100000 in
theorem tl_34 : Cond.laysFinal "ClassifySortModel" "ClassifySortModel" "left" "[I" ∈ lw_tbl := List.mem_of_getElem? (i := 514) rfl
set_option maxRecDepth 100000 in
theorem tl_35 : Cond.laysFinal "ClassifySortModel" "ClassifySortModel" "other" "[I" ∈ lw_tbl := List.mem_of_getElem? (i := 516) rfl
set_option maxRecDepth 100000 in
theorem tl_36 : Cond.laysFinal "ClassifySortModel" "ClassifySortModel" "right" "[I" ∈ lw_tbl := List.mem_of_getElem? (i := 518) rfl
set_option maxRecDepth 100000 in
theorem tl_37 : Cond.laysFinal "ClassifySortModel" "ClassifySortModel" "there" "[Z" ∈ lw_tbl := List.mem_of_getElem? (i := 520) rfl
set_option maxRecDepth 100000 in
theorem tl_38 : Cond.laysFinal "ClassifySortModel" "ClassifySortModel" "member" "[Z" ∈ lw_tbl := List.mem_of_getElem? (i := 522) rfl
set_option maxRecDepth 100000 in
theorem tl_39 : Cond.laysFinal "ClassifySortModel" "ClassifySortModel" "state" "[I" ∈ lw_tbl := List.mem_of_getElem? (i := 524) rfl
set_option maxRecDepth 100000 in
theorem tl_40 : Cond.laysFinal "ClassifySortModel" "ClassifySortModel" "before" "[I" ∈ lw_tbl := List.mem_of_getElem? (i := 526) rfl
set_option maxRecDepth 100000 in
theorem tl_41 : Cond.laysFinal "ClassifySortModel" "ClassifySortModel" "placed" "[Z" ∈ lw_tbl := List.mem_of_getElem? (i := 528) rfl
set_option maxRecDepth 100000 in
theorem tl_42 : Cond.laysFinal "ClassifySortModel" "ClassifySortModel" "looked" "[Z" ∈ lw_tbl := List.mem_of_getElem? (i := 530) rfl
set_option maxRecDepth 100000 in
theorem tl_43 : Cond.laysFinal "ClassifySortModel" "ClassifySortModel" "fact" "[Z" ∈ lw_tbl := List.mem_of_getElem? (i := 532) rfl
set_option maxRecDepth 100000 in
theorem tl_44 : Cond.laysFinal "ClassifySortModel" "ClassifySortModel" "maker" "[I" ∈ lw_tbl := List.mem_of_getElem? (i := 534) rfl
set_option maxRecDepth 100000 in
theorem tl_45 : Cond.laysFinal "ClassifySortModel" "ClassifySortModel" "fired" "[I" ∈ lw_tbl := List.mem_of_getElem? (i := 536) rfl
set_option maxRecDepth 100000 in
theorem tl_46 : Cond.lays "ClassifySortModel" "ClassifySortModel" "firedCount" "I" ∈ lw_tbl := List.mem_of_getElem? (i := 538) rfl
set_option maxRecDepth 100000 in
theorem tl_47 : Cond.laysFinal "ClassifySortModel" "ClassifySortModel" "needed" "[Z" ∈ lw_tbl := List.mem_of_getElem? (i := 540) rfl
set_option maxRecDepth 100000 in
theorem tl_48 : Cond.laysFinal "ClassifySortModel" "ClassifySortModel" "module" "[Z" ∈ lw_tbl := List.mem_of_getElem? (i := 542) rfl
set_option maxRecDepth 100000 in
theorem tl_49 : Cond.lays "ClassifySortModel" "ClassifySortModel" "asked" "I" ∈ lw_tbl := List.mem_of_getElem? (i := 544) rfl
set_option maxRecDepth 100000 in
theorem tl_50 : Cond.fieldLink "ClassifySort" 45 "ClassifySort" "classes" "I" ∈ lw_tbl := List.mem_of_getElem? (i := 140) rfl
set_option maxRecDepth 100000 in
theorem tl_51 : Cond.fieldLink "ClassifySort" 28 "ClassifySort" "knowledge" "LClassifySort$Knowledge;" ∈ lw_tbl := List.mem_of_getElem? (i := 137) rfl
set_option maxRecDepth 100000 in
theorem tl_52 : Cond.fieldLink "ClassifySort$Knowledge" 9 "ClassifySort$Knowledge" "above" "[I" ∈ lw_tbl := List.mem_of_getElem? (i := 100) rfl
set_option maxRecDepth 100000 in
theorem tl_53 : Cond.code y_X_bit prog_1_method_24_code 1 (some .int) ∈ lw_tbl := List.mem_of_getElem? (i := 99) rfl
set_option maxRecDepth 100000 in
theorem tl_54 : Cond.initialized "ClassifySort" ∈ lw_tbl := List.mem_of_getElem? (i := 33) rfl
set_option maxRecDepth 100000 in
theorem tl_55 : Cond.static y_X_bit ∈ lw_tbl := List.mem_of_getElem? (i := 98) rfl
set_option maxRecDepth 100000 in
theorem tl_56 : Cond.fieldLink "ClassifySort$Knowledge" 15 "ClassifySort$Knowledge" "below" "[I" ∈ lw_tbl := List.mem_of_getElem? (i := 101) rfl
set_option maxRecDepth 100000 in
theorem tl_57 : Cond.methodLink "ClassifySort" 74 y_X_bit ∈ lw_tbl := List.mem_of_getElem? (i := 178) rfl
set_option maxRecDepth 100000 in
theorem tl_58 : Cond.code y_X_has prog_1_method_25_code 2 (some .boolean) ∈ lw_tbl := List.mem_of_getElem? (i := 177) rfl
set_option maxRecDepth 100000 in
theorem tl_59 : Cond.static y_X_has ∈ lw_tbl := List.mem_of_getElem? (i := 176) rfl
set_option maxRecDepth 100000 in
theorem tl_60 : Cond.code y_XK_tellYes prog_3_method_11_code 6 none ∈ lw_tbl := List.mem_of_getElem? (i := 174) rfl
set_option maxRecDepth 100000 in
theorem tl_61 : Cond.initialized "ClassifySort$Knowledge" ∈ lw_tbl := List.mem_of_getElem? (i := 36) rfl
set_option maxRecDepth 100000 in
theorem tl_62 : Cond.methodLink "ClassifySort$Knowledge" 28 y_XK_tellYes ∈ lw_tbl := List.mem_of_getElem? (i := 171) rfl
set_option maxRecDepth 100000 in
theorem tl_63 : Cond.instanceMethod y_XK_tellYes ∈ lw_tbl := List.mem_of_getElem? (i := 172) rfl
set_option maxRecDepth 100000 in
theorem tl_64 : Cond.selects "ClassifySort$Knowledge" y_XK_tellYes y_XK_tellYes ∈ lw_tbl := List.mem_of_getElem? (i := 173) rfl
set_option maxRecDepth 100000 in
theorem tl_65 : Cond.fieldLink "ClassifySort$Knowledge" 18 "ClassifySort$Knowledge" "notAbove" "[I" ∈ lw_tbl := List.mem_of_getElem? (i := 102) rfl
set_option maxRecDepth 100000 in
theorem tl_66 : Cond.code y_XK_union prog_3_method_18_code 4 (some .int) ∈ lw_tbl := List.mem_of_getElem? (i := 185) rfl
set_option maxRecDepth 100000 in
theorem tl_67 : Cond.methodLink "ClassifySort$Knowledge" 39 y_XK_union ∈ lw_tbl := List.mem_of_getElem? (i := 183) rfl
set_option maxRecDepth 100000 in
theorem tl_68 : Cond.static y_XK_union ∈ lw_tbl := List.mem_of_getElem? (i := 184) rfl
set_option maxRecDepth 100000 in
theorem tl_69 : Cond.fieldLink "ClassifySort$Knowledge" 21 "ClassifySort$Knowledge" "undecided" "[I" ∈ lw_tbl := List.mem_of_getElem? (i := 103) rfl
set_option maxRecDepth 100000 in
theorem tl_70 : Cond.code y_XK_close prog_3_method_12_code 3 none ∈ lw_tbl := List.mem_of_getElem? (i := 182) rfl
set_option maxRecDepth 100000 in
theorem tl_71 : Cond.methodLink "ClassifySort$Knowledge" 32 y_XK_close ∈ lw_tbl := List.mem_of_getElem? (i := 179) rfl
set_option maxRecDepth 100000 in
theorem tl_72 : Cond.instanceMethod y_XK_close ∈ lw_tbl := List.mem_of_getElem? (i := 180) rfl
set_option maxRecDepth 100000 in
theorem tl_73 : Cond.selects "ClassifySort$Knowledge" y_XK_close y_XK_close ∈ lw_tbl := List.mem_of_getElem? (i := 181) rfl
set_option maxRecDepth 100000 in
theorem tl_74 : Cond.code y_XK_addClass prog_3_method_2_code 2 none ∈ lw_tbl := List.mem_of_getElem? (i := 170) rfl
set_option maxRecDepth 100000 in
theorem tl_75 : Cond.methodLink "ClassifySort" 59 y_XK_addClass ∈ lw_tbl := List.mem_of_getElem? (i := 167) rfl
set_option maxRecDepth 100000 in
theorem tl_76 : Cond.instanceMethod y_XK_addClass ∈ lw_tbl := List.mem_of_getElem? (i := 168) rfl
set_option maxRecDepth 100000 in
theorem tl_77 : Cond.selects "ClassifySort$Knowledge" y_XK_addClass y_XK_addClass ∈ lw_tbl := List.mem_of_getElem? (i := 169) rfl
set_option maxRecDepth 100000 in
theorem tl_78 : Cond.fieldLink "ClassifySort" 55 "ClassifySort" "sorted" "Z" ∈ lw_tbl := List.mem_of_getElem? (i := 143) rfl
set_option maxRecDepth 100000 in
theorem tl_79 : Cond.fieldLink "ClassifySort" 49 "ClassifySort" "things" "I" ∈ lw_tbl := List.mem_of_getElem? (i := 141) rfl
set_option maxRecDepth 100000 in
theorem tl_80 : Cond.code y_X_isClass prog_1_method_19_code 2 (some .boolean) ∈ lw_tbl := List.mem_of_getElem? (i := 197) rfl
set_option maxRecDepth 100000 in
theorem tl_81 : Cond.methodLink "ClassifySort" 63 y_X_isClass ∈ lw_tbl := List.mem_of_getElem? (i := 194) rfl
set_option maxRecDepth 100000 in
theorem tl_82 : Cond.instanceMethod y_X_isClass ∈ lw_tbl := List.mem_of_getElem? (i := 196) rfl
set_option maxRecDepth 100000 in
theorem tl_83 : Cond.selects "ClassifySort" y_X_isClass y_X_isClass ∈ lw_tbl := List.mem_of_getElem? (i := 0) rfl
set_option maxRecDepth 100000 in
theorem tl_84 : Cond.code y_X_isGoal prog_1_method_21_code 2 (some .boolean) ∈ lw_tbl := List.mem_of_getElem? (i := 201) rfl
set_option maxRecDepth 100000 in
theorem tl_85 : Cond.methodLink "ClassifySort" 67 y_X_isGoal ∈ lw_tbl := List.mem_of_getElem? (i := 198) rfl
set_option maxRecDepth 100000 in
theorem tl_86 : Cond.instanceMethod y_X_isGoal ∈ lw_tbl := List.mem_of_getElem? (i := 200) rfl
set_option maxRecDepth 100000 in
theorem tl_87 : Cond.selects "ClassifySort" y_X_isGoal y_X_isGoal ∈ lw_tbl := List.mem_of_getElem? (i := 1) rfl
set_option maxRecDepth 100000 in
theorem tl_88 : Cond.fieldLink "ClassifySort" 12 "ClassifySort" "axioms" "LClassifySort$Axioms;" ∈ lw_tbl := List.mem_of_getElem? (i := 135) rfl
set_option maxRecDepth 100000 in
theorem tl_89 : Cond.fieldLink "ClassifySort$Axioms" 18 "ClassifySort$Axioms" "made" "I" ∈ lw_tbl := List.mem_of_getElem? (i := 57) rfl
set_option maxRecDepth 100000 in
theorem tl_90 : Cond.code y_XA_isFull prog_2_method_2_code 1 (some .boolean) ∈ lw_tbl := List.mem_of_getElem? (i := 205) rfl
set_option maxRecDepth 100000 in
theorem tl_91 : Cond.initialized "ClassifySort$Axioms" ∈ lw_tbl := List.mem_of_getElem? (i := 34) rfl
set_option maxRecDepth 100000 in
theorem tl_92 : Cond.methodLink "ClassifySort" 70 y_XA_isFull ∈ lw_tbl := List.mem_of_getElem? (i := 202) rfl
set_option maxRecDepth 100000 in
theorem tl_93 : Cond.instanceMethod y_XA_isFull ∈ lw_tbl := List.mem_of_getElem? (i := 203) rfl
set_option maxRecDepth 100000 in
theorem tl_94 : Cond.selects "ClassifySort$Axioms" y_XA_isFull y_XA_isFull ∈ lw_tbl := List.mem_of_getElem? (i := 204) rfl
set_option maxRecDepth 100000 in
theorem tl_95 : Cond.code y_X_slot prog_1_method_23_code 1 (some .int) ∈ lw_tbl := List.mem_of_getElem? (i := 208) rfl
set_option maxRecDepth 100000 in
theorem tl_96 : Cond.methodLink "ClassifySort" 78 y_X_slot ∈ lw_tbl := List.mem_of_getElem? (i := 206) rfl
set_option maxRecDepth 100000 in
theorem tl_97 : Cond.static y_X_slot ∈ lw_tbl := List.mem_of_getElem? (i := 207) rfl
set_option maxRecDepth 100000 in
theorem tl_98 : Cond.methodLink "ClassifySort$Axioms" 29 y_XA_isFull ∈ lw_tbl := List.mem_of_getElem? (i := 213) rfl
set_option maxRecDepth 100000 in
theorem tl_99 : Cond.fieldLink "ClassifySort$Axioms" 9 "ClassifySort$Axioms" "lefts" "[I" ∈ lw_tbl := List.mem_of_getElem? (i := 55) rfl
set_option maxRecDepth 100000 in
theorem tl_100 : Cond.fieldLink "ClassifySort$Axioms" 15 "ClassifySort$Axioms" "rights" "[I" ∈ lw_tbl := List.mem_of_getElem? (i := 56) rfl
set_option maxRecDepth 100000 in
theorem tl_101 : Cond.fieldLink "ClassifySort$Axioms" 22 "ClassifySort$Axioms" "there" "I" ∈ lw_tbl := List.mem_of_getElem? (i := 58) rfl
set_option maxRecDepth 100000 in
theorem tl_102 : Cond.code y_XA_add prog_2_method_7_code 3 (some .int) ∈ lw_tbl := List.mem_of_getElem? (i := 212) rfl
set_option maxRecDepth 100000 in
theorem tl_103 : Cond.methodLink "ClassifySort" 81 y_XA_add ∈ lw_tbl := List.mem_of_getElem? (i := 209) rfl
set_option maxRecDepth 100000 in
theorem tl_104 : Cond.instanceMethod y_XA_add ∈ lw_tbl := List.mem_of_getElem? (i := 210) rfl
set_option maxRecDepth 100000 in
theorem tl_105 : Cond.selects "ClassifySort$Axioms" y_XA_add y_XA_add ∈ lw_tbl := List.mem_of_getElem? (i := 211) rfl
set_option maxRecDepth 100000 in
theorem tl_106 : Cond.code y_XA_leftOf prog_2_method_5_code 2 (some .int) ∈ lw_tbl := List.mem_of_getElem? (i := 221) rfl
set_option maxRecDepth 100000 in
theorem tl_107 : Cond.methodLink "ClassifySort$Axioms" 25 y_XA_leftOf ∈ lw_tbl := List.mem_of_getElem? (i := 218) rfl
set_option maxRecDepth 100000 in
theorem tl_108 : Cond.instanceMethod y_XA_leftOf ∈ lw_tbl := List.mem_of_getElem? (i := 219) rfl
set_option maxRecDepth 100000 in
theorem tl_109 : Cond.selects "ClassifySort$Axioms" y_XA_leftOf y_XA_leftOf ∈ lw_tbl := List.mem_of_getElem? (i := 220) rfl
set_option maxRecDepth 100000 in
theorem tl_110 : Cond.code y_XA_touchedBy prog_2_method_10_code 6 (some .int) ∈ lw_tbl := List.mem_of_getElem? (i := 217) rfl
set_option maxRecDepth 100000 in
theorem tl_111 : Cond.methodLink "ClassifySort" 85 y_XA_touchedBy ∈ lw_tbl := List.mem_of_getElem? (i := 214) rfl
set_option maxRecDepth 100000 in
theorem tl_112 : Cond.instanceMethod y_XA_touchedBy ∈ lw_tbl := List.mem_of_getElem? (i := 215) rfl
set_option maxRecDepth 100000 in
theorem tl_113 : Cond.selects "ClassifySort$Axioms" y_XA_touchedBy y_XA_touchedBy ∈ lw_tbl := List.mem_of_getElem? (i := 216) rfl
set_option maxRecDepth 100000 in
theorem tl_114 : Cond.code y_XK_forgetNo prog_3_method_13_code 3 none ∈ lw_tbl := List.mem_of_getElem? (i := 226) rfl
set_option maxRecDepth 100000 in
theorem tl_115 : Cond.methodLink "ClassifySort" 88 y_XK_forgetNo ∈ lw_tbl := List.mem_of_getElem? (i := 223) rfl
set_option maxRecDepth 100000 in
theorem tl_116 : Cond.instanceMethod y_XK_forgetNo ∈ lw_tbl := List.mem_of_getElem? (i := 224) rfl
set_option maxRecDepth 100000 in
theorem tl_117 : Cond.selects "ClassifySort$Knowledge" y_XK_forgetNo y_XK_forgetNo ∈ lw_tbl := List.mem_of_getElem? (i := 225) rfl
set_option maxRecDepth 100000 in
theorem tl_118 : Cond.methodLink "ClassifySort" 182 y_XA_leftOf ∈ lw_tbl := List.mem_of_getElem? (i := 231) rfl
set_option maxRecDepth 100000 in
theorem tl_119 : Cond.constant "java/lang/Integer" 265 (1431655765 : Int32) ∈ lw_tbl := List.mem_of_getElem? (i := 235) rfl
set_option maxRecDepth 100000 in
theorem tl_120 : Cond.constant "java/lang/Integer" 266 (858993459 : Int32) ∈ lw_tbl := List.mem_of_getElem? (i := 236) rfl
set_option maxRecDepth 100000 in
theorem tl_121 : Cond.constant "java/lang/Integer" 267 (252645135 : Int32) ∈ lw_tbl := List.mem_of_getElem? (i := 237) rfl
set_option maxRecDepth 100000 in
theorem tl_122 : Cond.code y_JI_bitCount prog_8_method_49_code 1 (some .int) ∈ lw_tbl := List.mem_of_getElem? (i := 234) rfl
set_option maxRecDepth 100000 in
theorem tl_123 : Cond.initialized "java/lang/Integer" ∈ lw_tbl := List.mem_of_getElem? (i := 39) rfl
set_option maxRecDepth 100000 in
theorem tl_124 : Cond.methodLink "ClassifySort" 152 y_JI_bitCount ∈ lw_tbl := List.mem_of_getElem? (i := 232) rfl
set_option maxRecDepth 100000 in
theorem tl_125 : Cond.static y_JI_bitCount ∈ lw_tbl := List.mem_of_getElem? (i := 233) rfl
set_option maxRecDepth 100000 in
theorem tl_126 : Cond.constant "java/lang/Integer" 264 (65536 : Int32) ∈ lw_tbl := List.mem_of_getElem? (i := 241) rfl
set_option maxRecDepth 100000 in
theorem tl_127 : Cond.code y_JI_numberOfTrailingZeros prog_8_method_48_code 2 (some .int) ∈ lw_tbl := List.mem_of_getElem? (i := 240) rfl
set_option maxRecDepth 100000 in
theorem tl_128 : Cond.methodLink "ClassifySort" 185 y_JI_numberOfTrailingZeros ∈ lw_tbl := List.mem_of_getElem? (i := 238) rfl
set_option maxRecDepth 100000 in
theorem tl_129 : Cond.static y_JI_numberOfTrailingZeros ∈ lw_tbl := List.mem_of_getElem? (i := 239) rfl
set_option maxRecDepth 100000 in
theorem tl_130 : Cond.code y_XA_rightOf prog_2_method_6_code 2 (some .int) ∈ lw_tbl := List.mem_of_getElem? (i := 245) rfl
set_option maxRecDepth 100000 in
theorem tl_131 : Cond.methodLink "ClassifySort" 188 y_XA_rightOf ∈ lw_tbl := List.mem_of_getElem? (i := 242) rfl
set_option maxRecDepth 100000 in
theorem tl_132 : Cond.instanceMethod y_XA_rightOf ∈ lw_tbl := List.mem_of_getElem? (i := 243) rfl
set_option maxRecDepth 100000 in
theorem tl_133 : Cond.selects "ClassifySort$Axioms" y_XA_rightOf y_XA_rightOf ∈ lw_tbl := List.mem_of_getElem? (i := 244) rfl
set_option maxRecDepth 100000 in
theorem tl_134 : Cond.methodLink "ClassifySort" 191 y_XK_tellYes ∈ lw_tbl := List.mem_of_getElem? (i := 246) rfl
set_option maxRecDepth 100000 in
theorem tl_135 : Cond.methodLink "ClassifySort" 195 y_XK_close ∈ lw_tbl := List.mem_of_getElem? (i := 247) rfl
set_option maxRecDepth 100000 in
theorem tl_136 : Cond.code y_X_tellAxioms prog_1_method_22_code 3 none ∈ lw_tbl := List.mem_of_getElem? (i := 230) rfl
set_option maxRecDepth 100000 in
theorem tl_137 : Cond.methodLink "ClassifySort" 91 y_X_tellAxioms ∈ lw_tbl := List.mem_of_getElem? (i := 227) rfl
set_option maxRecDepth 100000 in
theorem tl_138 : Cond.instanceMethod y_X_tellAxioms ∈ lw_tbl := List.mem_of_getElem? (i := 229) rfl
set_option maxRecDepth 100000 in
theorem tl_139 : Cond.selects "ClassifySort" y_X_tellAxioms y_X_tellAxioms ∈ lw_tbl := List.mem_of_getElem? (i := 2) rfl
set_option maxRecDepth 100000 in
theorem tl_140 : Cond.code y_XA_isThere prog_2_method_3_code 2 (some .boolean) ∈ lw_tbl := List.mem_of_getElem? (i := 255) rfl
set_option maxRecDepth 100000 in
theorem tl_141 : Cond.methodLink "ClassifySort" 94 y_XA_isThere ∈ lw_tbl := List.mem_of_getElem? (i := 252) rfl
set_option maxRecDepth 100000 in
theorem tl_142 : Cond.instanceMethod y_XA_isThere ∈ lw_tbl := List.mem_of_getElem? (i := 253) rfl
set_option maxRecDepth 100000 in
theorem tl_143 : Cond.selects "ClassifySort$Axioms" y_XA_isThere y_XA_isThere ∈ lw_tbl := List.mem_of_getElem? (i := 254) rfl
set_option maxRecDepth 100000 in
theorem tl_144 : Cond.methodLink "ClassifySort$Knowledge" 43 y_JI_bitCount ∈ lw_tbl := List.mem_of_getElem? (i := 260) rfl
set_option maxRecDepth 100000 in
theorem tl_145 : Cond.code y_XK_knownPairs prog_3_method_16_code 4 (some .int) ∈ lw_tbl := List.mem_of_getElem? (i := 259) rfl
set_option maxRecDepth 100000 in
theorem tl_146 : Cond.methodLink "ClassifySort" 97 y_XK_knownPairs ∈ lw_tbl := List.mem_of_getElem? (i := 256) rfl
set_option maxRecDepth 100000 in
theorem tl_147 : Cond.instanceMethod y_XK_knownPairs ∈ lw_tbl := List.mem_of_getElem? (i := 257) rfl
set_option maxRecDepth 100000 in
theorem tl_148 : Cond.selects "ClassifySort$Knowledge" y_XK_knownPairs y_XK_knownPairs ∈ lw_tbl := List.mem_of_getElem? (i := 258) rfl
set_option maxRecDepth 100000 in
theorem tl_149 : Cond.methodLink "ClassifySort$Axioms" 33 y_XA_isThere ∈ lw_tbl := List.mem_of_getElem? (i := 265) rfl
set_option maxRecDepth 100000 in
theorem tl_150 : Cond.code y_XA_drop prog_2_method_8_code 2 none ∈ lw_tbl := List.mem_of_getElem? (i := 264) rfl
set_option maxRecDepth 100000 in
theorem tl_151 : Cond.methodLink "ClassifySort" 100 y_XA_drop ∈ lw_tbl := List.mem_of_getElem? (i := 261) rfl
set_option maxRecDepth 100000 in
theorem tl_152 : Cond.instanceMethod y_XA_drop ∈ lw_tbl := List.mem_of_getElem? (i := 262) rfl
set_option maxRecDepth 100000 in
theorem tl_153 : Cond.selects "ClassifySort$Axioms" y_XA_drop y_XA_drop ∈ lw_tbl := List.mem_of_getElem? (i := 263) rfl
set_option maxRecDepth 100000 in
theorem tl_154 : Cond.code y_XK_forgetYes prog_3_method_14_code 3 none ∈ lw_tbl := List.mem_of_getElem? (i := 269) rfl
set_option maxRecDepth 100000 in
theorem tl_155 : Cond.methodLink "ClassifySort" 103 y_XK_forgetYes ∈ lw_tbl := List.mem_of_getElem? (i := 266) rfl
set_option maxRecDepth 100000 in
theorem tl_156 : Cond.instanceMethod y_XK_forgetYes ∈ lw_tbl := List.mem_of_getElem? (i := 267) rfl
set_option maxRecDepth 100000 in
theorem tl_157 : Cond.selects "ClassifySort$Knowledge" y_XK_forgetYes y_XK_forgetYes ∈ lw_tbl := List.mem_of_getElem? (i := 268) rfl
set_option maxRecDepth 100000 in
theorem tl_158 : Cond.code y_XK_openPairs prog_3_method_17_code 4 (some .int) ∈ lw_tbl := List.mem_of_getElem? (i := 277) rfl
set_option maxRecDepth 100000 in
theorem tl_159 : Cond.methodLink "ClassifySort" 106 y_XK_openPairs ∈ lw_tbl := List.mem_of_getElem? (i := 274) rfl
set_option maxRecDepth 100000 in
theorem tl_160 : Cond.instanceMethod y_XK_openPairs ∈ lw_tbl := List.mem_of_getElem? (i := 275) rfl
set_option maxRecDepth 100000 in
theorem tl_161 : Cond.selects "ClassifySort$Knowledge" y_XK_openPairs y_XK_openPairs ∈ lw_tbl := List.mem_of_getElem? (i := 276) rfl
set_option maxRecDepth 100000 in
theorem tl_162 : Cond.fieldLink "ClassifySort" 21 "ClassifySort" "reasoner" "LClassifySort$Reasoner;" ∈ lw_tbl := List.mem_of_getElem? (i := 136) rfl
set_option maxRecDepth 100000 in
theorem tl_163 : Cond.methodLink "ClassifySort$Reasoner" 29 Lib.Math.min.name ∈ lw_tbl := List.mem_of_getElem? (i := 282) rfl
set_option maxRecDepth 100000 in
theorem tl_164 : Cond.static Lib.Math.min.name ∈ lw_tbl := List.mem_of_getElem? (i := 283) rfl
set_option maxRecDepth 100000 in
theorem tl_165 : Cond.initialized "java/lang/Math" ∈ lw_tbl := List.mem_of_getElem? (i := 40) rfl
set_option maxRecDepth 100000 in
theorem tl_166 : Cond.code Lib.Math.min.name Lib.Math.min.code 2 (some .int) ∈ lw_tbl := List.mem_of_getElem? (i := 284) rfl
set_option maxRecDepth 100000 in
theorem tl_167 : Cond.methodLink "ClassifySort$Reasoner" 35 Lib.Math.max.name ∈ lw_tbl := List.mem_of_getElem? (i := 285) rfl
set_option maxRecDepth 100000 in
theorem tl_168 : Cond.static Lib.Math.max.name ∈ lw_tbl := List.mem_of_getElem? (i := 286) rfl
set_option maxRecDepth 100000 in
theorem tl_169 : Cond.code Lib.Math.max.name Lib.Math.max.code 2 (some .int) ∈ lw_tbl := List.mem_of_getElem? (i := 287) rfl
set_option maxRecDepth 100000 in
theorem tl_170 : Cond.fieldLink "ClassifySort$Reasoner" 15 "ClassifySort$Reasoner" "limit" "I" ∈ lw_tbl := List.mem_of_getElem? (i := 77) rfl
set_option maxRecDepth 100000 in
theorem tl_171 : Cond.code y_XR_fillUp prog_5_method_2_code 2 none ∈ lw_tbl := List.mem_of_getElem? (i := 281) rfl
set_option maxRecDepth 100000 in
theorem tl_172 : Cond.initialized "ClassifySort$Reasoner" ∈ lw_tbl := List.mem_of_getElem? (i := 35) rfl
set_option maxRecDepth 100000 in
theorem tl_173 : Cond.methodLink "ClassifySort" 109 y_XR_fillUp ∈ lw_tbl := List.mem_of_getElem? (i := 278) rfl
set_option maxRecDepth 100000 in
theorem tl_174 : Cond.instanceMethod y_XR_fillUp ∈ lw_tbl := List.mem_of_getElem? (i := 279) rfl
set_option maxRecDepth 100000 in
theorem tl_175 : Cond.selects "ClassifySort$Reasoner" y_XR_fillUp y_XR_fillUp ∈ lw_tbl := List.mem_of_getElem? (i := 280) rfl
set_option maxRecDepth 100000 in
theorem tl_176 : Cond.code y_XK_forgetOpen prog_3_method_15_code 2 none ∈ lw_tbl := List.mem_of_getElem? (i := 291) rfl
set_option maxRecDepth 100000 in
theorem tl_177 : Cond.methodLink "ClassifySort" 112 y_XK_forgetOpen ∈ lw_tbl := List.mem_of_getElem? (i := 288) rfl
set_option maxRecDepth 100000 in
theorem tl_178 : Cond.instanceMethod y_XK_forgetOpen ∈ lw_tbl := List.mem_of_getElem? (i := 289) rfl
set_option maxRecDepth 100000 in
theorem tl_179 : Cond.selects "ClassifySort$Knowledge" y_XK_forgetOpen y_XK_forgetOpen ∈ lw_tbl := List.mem_of_getElem? (i := 290) rfl
set_option maxRecDepth 100000 in
theorem tl_180 : Cond.code y_XK_of prog_3_method_3_code 3 (some .int) ∈ lw_tbl := List.mem_of_getElem? (i := 299) rfl
set_option maxRecDepth 100000 in
theorem tl_181 : Cond.methodLink "ClassifySort" 115 y_XK_of ∈ lw_tbl := List.mem_of_getElem? (i := 296) rfl
set_option maxRecDepth 100000 in
theorem tl_182 : Cond.instanceMethod y_XK_of ∈ lw_tbl := List.mem_of_getElem? (i := 297) rfl
set_option maxRecDepth 100000 in
theorem tl_183 : Cond.selects "ClassifySort$Knowledge" y_XK_of y_XK_of ∈ lw_tbl := List.mem_of_getElem? (i := 298) rfl
set_option maxRecDepth 100000 in
theorem tl_184 : Cond.fieldLink "ClassifySort$Reasoner" 22 "ClassifySort$Reasoner" "facts" "I" ∈ lw_tbl := List.mem_of_getElem? (i := 79) rfl
set_option maxRecDepth 100000 in
theorem tl_185 : Cond.fieldLink "ClassifySort$Reasoner" 19 "ClassifySort$Reasoner" "steps" "I" ∈ lw_tbl := List.mem_of_getElem? (i := 78) rfl
set_option maxRecDepth 100000 in
theorem tl_186 : Cond.fieldLink "ClassifySort$Reasoner" 25 "ClassifySort$Reasoner" "axioms" "LClassifySort$Axioms;" ∈ lw_tbl := List.mem_of_getElem? (i := 75) rfl
set_option maxRecDepth 100000 in
theorem tl_187 : Cond.code y_XA_firstThatFires prog_2_method_9_code 4 (some .int) ∈ lw_tbl := List.mem_of_getElem? (i := 312) rfl
set_option maxRecDepth 100000 in
theorem tl_188 : Cond.methodLink "ClassifySort$Reasoner" 42 y_XA_firstThatFires ∈ lw_tbl := List.mem_of_getElem? (i := 309) rfl
set_option maxRecDepth 100000 in
theorem tl_189 : Cond.instanceMethod y_XA_firstThatFires ∈ lw_tbl := List.mem_of_getElem? (i := 310) rfl
set_option maxRecDepth 100000 in
theorem tl_190 : Cond.selects "ClassifySort$Axioms" y_XA_firstThatFires y_XA_firstThatFires ∈ lw_tbl := List.mem_of_getElem? (i := 311) rfl
set_option maxRecDepth 100000 in
theorem tl_191 : Cond.fieldLink "ClassifySort$Reasoner" 9 "ClassifySort$Reasoner" "fired" "[I" ∈ lw_tbl := List.mem_of_getElem? (i := 76) rfl
set_option maxRecDepth 100000 in
theorem tl_192 : Cond.methodLink "ClassifySort$Reasoner" 47 y_XA_rightOf ∈ lw_tbl := List.mem_of_getElem? (i := 314) rfl
set_option maxRecDepth 100000 in
theorem tl_193 : Cond.code y_XR_decide prog_5_method_5_code 6 (some .int) ∈ lw_tbl := List.mem_of_getElem? (i := 307) rfl
set_option maxRecDepth 100000 in
theorem tl_194 : Cond.methodLink "ClassifySort" 118 y_XR_decide ∈ lw_tbl := List.mem_of_getElem? (i := 304) rfl
set_option maxRecDepth 100000 in
theorem tl_195 : Cond.instanceMethod y_XR_decide ∈ lw_tbl := List.mem_of_getElem? (i := 305) rfl
set_option maxRecDepth 100000 in
theorem tl_196 : Cond.selects "ClassifySort$Reasoner" y_XR_decide y_XR_decide ∈ lw_tbl := List.mem_of_getElem? (i := 306) rfl
set_option maxRecDepth 100000 in
theorem tl_197 : Cond.fieldLink "ClassifySort" 37 "ClassifySort" "order" "LClassifySort$Order;" ∈ lw_tbl := List.mem_of_getElem? (i := 138) rfl
set_option maxRecDepth 100000 in
theorem tl_198 : Cond.fieldLink "ClassifySort$Order" 9 "ClassifySort$Order" "placed" "I" ∈ lw_tbl := List.mem_of_getElem? (i := 121) rfl
set_option maxRecDepth 100000 in
theorem tl_199 : Cond.fieldLink "ClassifySort$Order" 15 "ClassifySort$Order" "empties" "I" ∈ lw_tbl := List.mem_of_getElem? (i := 122) rfl
set_option maxRecDepth 100000 in
theorem tl_200 : Cond.fieldLink "ClassifySort$Order" 18 "ClassifySort$Order" "asked" "I" ∈ lw_tbl := List.mem_of_getElem? (i := 123) rfl
set_option maxRecDepth 100000 in
theorem tl_201 : Cond.fieldLink "ClassifySort$Order" 21 "ClassifySort$Order" "knowledge" "LClassifySort$Knowledge;" ∈ lw_tbl := List.mem_of_getElem? (i := 119) rfl
set_option maxRecDepth 100000 in
theorem tl_202 : Cond.methodLink "ClassifySort$Order" 48 y_XK_of ∈ lw_tbl := List.mem_of_getElem? (i := 327) rfl
set_option maxRecDepth 100000 in
theorem tl_203 : Cond.fieldLink "ClassifySort$Order" 25 "ClassifySort$Order" "reasoner" "LClassifySort$Reasoner;" ∈ lw_tbl := List.mem_of_getElem? (i := 120) rfl
set_option maxRecDepth 100000 in
theorem tl_204 : Cond.methodLink "ClassifySort$Order" 53 y_XR_decide ∈ lw_tbl := List.mem_of_getElem? (i := 329) rfl
set_option maxRecDepth 100000 in
theorem tl_205 : Cond.code y_XK_learn prog_3_method_10_code 4 none ∈ lw_tbl := List.mem_of_getElem? (i := 333) rfl
set_option maxRecDepth 100000 in
theorem tl_206 : Cond.methodLink "ClassifySort$Order" 58 y_XK_learn ∈ lw_tbl := List.mem_of_getElem? (i := 330) rfl
set_option maxRecDepth 100000 in
theorem tl_207 : Cond.instanceMethod y_XK_learn ∈ lw_tbl := List.mem_of_getElem? (i := 331) rfl
set_option maxRecDepth 100000 in
theorem tl_208 : Cond.selects "ClassifySort$Knowledge" y_XK_learn y_XK_learn ∈ lw_tbl := List.mem_of_getElem? (i := 332) rfl
set_option maxRecDepth 100000 in
theorem tl_209 : Cond.code y_XO_answer prog_4_method_6_code 3 (some .int) ∈ lw_tbl := List.mem_of_getElem? (i := 326) rfl
set_option maxRecDepth 100000 in
theorem tl_210 : Cond.initialized "ClassifySort$Order" ∈ lw_tbl := List.mem_of_getElem? (i := 37) rfl
set_option maxRecDepth 100000 in
theorem tl_211 : Cond.methodLink "ClassifySort$Order" 33 y_XO_answer ∈ lw_tbl := List.mem_of_getElem? (i := 323) rfl
set_option maxRecDepth 100000 in
theorem tl_212 : Cond.instanceMethod y_XO_answer ∈ lw_tbl := List.mem_of_getElem? (i := 325) rfl
set_option maxRecDepth 100000 in
theorem tl_213 : Cond.selects "ClassifySort$Order" y_XO_answer y_XO_answer ∈ lw_tbl := List.mem_of_getElem? (i := 3) rfl
set_option maxRecDepth 100000 in
theorem tl_214 : Cond.code y_XK_allAbove prog_3_method_4_code 2 (some .int) ∈ lw_tbl := List.mem_of_getElem? (i := 345) rfl
set_option maxRecDepth 100000 in
theorem tl_215 : Cond.methodLink "ClassifySort$Order" 68 y_XK_allAbove ∈ lw_tbl := List.mem_of_getElem? (i := 342) rfl
set_option maxRecDepth 100000 in
theorem tl_216 : Cond.instanceMethod y_XK_allAbove ∈ lw_tbl := List.mem_of_getElem? (i := 343) rfl
set_option maxRecDepth 100000 in
theorem tl_217 : Cond.selects "ClassifySort$Knowledge" y_XK_allAbove y_XK_allAbove ∈ lw_tbl := List.mem_of_getElem? (i := 344) rfl
set_option maxRecDepth 100000 in
theorem tl_218 : Cond.code y_XK_strictlyAbove prog_3_method_6_code 2 (some .int) ∈ lw_tbl := List.mem_of_getElem? (i := 350) rfl
set_option maxRecDepth 100000 in
theorem tl_219 : Cond.methodLink "ClassifySort$Order" 71 y_XK_strictlyAbove ∈ lw_tbl := List.mem_of_getElem? (i := 347) rfl
set_option maxRecDepth 100000 in
theorem tl_220 : Cond.instanceMethod y_XK_strictlyAbove ∈ lw_tbl := List.mem_of_getElem? (i := 348) rfl
set_option maxRecDepth 100000 in
theorem tl_221 : Cond.selects "ClassifySort$Knowledge" y_XK_strictlyAbove y_XK_strictlyAbove ∈ lw_tbl := List.mem_of_getElem? (i := 349) rfl
set_option maxRecDepth 100000 in
theorem tl_222 : Cond.code y_XO_nextDown prog_4_method_9_code 5 (some .int) ∈ lw_tbl := List.mem_of_getElem? (i := 341) rfl
set_option maxRecDepth 100000 in
theorem tl_223 : Cond.methodLink "ClassifySort$Order" 62 y_XO_nextDown ∈ lw_tbl := List.mem_of_getElem? (i := 338) rfl
set_option maxRecDepth 100000 in
theorem tl_224 : Cond.instanceMethod y_XO_nextDown ∈ lw_tbl := List.mem_of_getElem? (i := 340) rfl
set_option maxRecDepth 100000 in
theorem tl_225 : Cond.selects "ClassifySort$Order" y_XO_nextDown y_XO_nextDown ∈ lw_tbl := List.mem_of_getElem? (i := 5) rfl
set_option maxRecDepth 100000 in
theorem tl_226 : Cond.code y_XO_searchDown prog_4_method_7_code 5 none ∈ lw_tbl := List.mem_of_getElem? (i := 337) rfl
set_option maxRecDepth 100000 in
theorem tl_227 : Cond.methodLink "ClassifySort$Order" 41 y_XO_searchDown ∈ lw_tbl := List.mem_of_getElem? (i := 334) rfl
set_option maxRecDepth 100000 in
theorem tl_228 : Cond.instanceMethod y_XO_searchDown ∈ lw_tbl := List.mem_of_getElem? (i := 336) rfl
set_option maxRecDepth 100000 in
theorem tl_229 : Cond.selects "ClassifySort$Order" y_XO_searchDown y_XO_searchDown ∈ lw_tbl := List.mem_of_getElem? (i := 4) rfl
set_option maxRecDepth 100000 in
theorem tl_230 : Cond.code y_XK_allBelow prog_3_method_5_code 2 (some .int) ∈ lw_tbl := List.mem_of_getElem? (i := 362) rfl
set_option maxRecDepth 100000 in
theorem tl_231 : Cond.methodLink "ClassifySort$Order" 74 y_XK_allBelow ∈ lw_tbl := List.mem_of_getElem? (i := 359) rfl
set_option maxRecDepth 100000 in
theorem tl_232 : Cond.instanceMethod y_XK_allBelow ∈ lw_tbl := List.mem_of_getElem? (i := 360) rfl
set_option maxRecDepth 100000 in
theorem tl_233 : Cond.selects "ClassifySort$Knowledge" y_XK_allBelow y_XK_allBelow ∈ lw_tbl := List.mem_of_getElem? (i := 361) rfl
set_option maxRecDepth 100000 in
theorem tl_234 : Cond.code y_XK_strictlyBelow prog_3_method_7_code 2 (some .int) ∈ lw_tbl := List.mem_of_getElem? (i := 366) rfl
set_option maxRecDepth 100000 in
theorem tl_235 : Cond.methodLink "ClassifySort$Order" 77 y_XK_strictlyBelow ∈ lw_tbl := List.mem_of_getElem? (i := 363) rfl
set_option maxRecDepth 100000 in
theorem tl_236 : Cond.instanceMethod y_XK_strictlyBelow ∈ lw_tbl := List.mem_of_getElem? (i := 364) rfl
set_option maxRecDepth 100000 in
theorem tl_237 : Cond.selects "ClassifySort$Knowledge" y_XK_strictlyBelow y_XK_strictlyBelow ∈ lw_tbl := List.mem_of_getElem? (i := 365) rfl
set_option maxRecDepth 100000 in
theorem tl_238 : Cond.code y_XO_nextUp prog_4_method_10_code 6 (some .int) ∈ lw_tbl := List.mem_of_getElem? (i := 358) rfl
set_option maxRecDepth 100000 in
theorem tl_239 : Cond.methodLink "ClassifySort$Order" 65 y_XO_nextUp ∈ lw_tbl := List.mem_of_getElem? (i := 355) rfl
set_option maxRecDepth 100000 in
theorem tl_240 : Cond.instanceMethod y_XO_nextUp ∈ lw_tbl := List.mem_of_getElem? (i := 357) rfl
set_option maxRecDepth 100000 in
theorem tl_241 : Cond.selects "ClassifySort$Order" y_XO_nextUp y_XO_nextUp ∈ lw_tbl := List.mem_of_getElem? (i := 7) rfl
set_option maxRecDepth 100000 in
theorem tl_242 : Cond.code y_XO_searchUp prog_4_method_8_code 5 none ∈ lw_tbl := List.mem_of_getElem? (i := 354) rfl
set_option maxRecDepth 100000 in
theorem tl_243 : Cond.methodLink "ClassifySort$Order" 45 y_XO_searchUp ∈ lw_tbl := List.mem_of_getElem? (i := 351) rfl
set_option maxRecDepth 100000 in
theorem tl_244 : Cond.instanceMethod y_XO_searchUp ∈ lw_tbl := List.mem_of_getElem? (i := 353) rfl
set_option maxRecDepth 100000 in
theorem tl_245 : Cond.selects "ClassifySort$Order" y_XO_searchUp y_XO_searchUp ∈ lw_tbl := List.mem_of_getElem? (i := 6) rfl
set_option maxRecDepth 100000 in
theorem tl_246 : Cond.code y_XO_sort prog_4_method_5_code 3 (some .int) ∈ lw_tbl := List.mem_of_getElem? (i := 322) rfl
set_option maxRecDepth 100000 in
theorem tl_247 : Cond.methodLink "ClassifySort" 121 y_XO_sort ∈ lw_tbl := List.mem_of_getElem? (i := 319) rfl
set_option maxRecDepth 100000 in
theorem tl_248 : Cond.instanceMethod y_XO_sort ∈ lw_tbl := List.mem_of_getElem? (i := 320) rfl
set_option maxRecDepth 100000 in
theorem tl_249 : Cond.selects "ClassifySort$Order" y_XO_sort y_XO_sort ∈ lw_tbl := List.mem_of_getElem? (i := 321) rfl
set_option maxRecDepth 100000 in
theorem tl_250 : Cond.fieldLink "ClassifySort" 52 "ClassifySort" "questions" "I" ∈ lw_tbl := List.mem_of_getElem? (i := 142) rfl
set_option maxRecDepth 100000 in
theorem tl_251 : Cond.code y_XO_isEmptyClass prog_4_method_4_code 2 (some .boolean) ∈ lw_tbl := List.mem_of_getElem? (i := 374) rfl
set_option maxRecDepth 100000 in
theorem tl_252 : Cond.methodLink "ClassifySort" 124 y_XO_isEmptyClass ∈ lw_tbl := List.mem_of_getElem? (i := 371) rfl
set_option maxRecDepth 100000 in
theorem tl_253 : Cond.instanceMethod y_XO_isEmptyClass ∈ lw_tbl := List.mem_of_getElem? (i := 372) rfl
set_option maxRecDepth 100000 in
theorem tl_254 : Cond.selects "ClassifySort$Order" y_XO_isEmptyClass y_XO_isEmptyClass ∈ lw_tbl := List.mem_of_getElem? (i := 373) rfl
set_option maxRecDepth 100000 in
theorem tl_255 : Cond.code y_XK_sameAs prog_3_method_8_code 2 (some .int) ∈ lw_tbl := List.mem_of_getElem? (i := 398) rfl
set_option maxRecDepth 100000 in
theorem tl_256 : Cond.methodLink "ClassifySort$Order" 86 y_XK_sameAs ∈ lw_tbl := List.mem_of_getElem? (i := 395) rfl
set_option maxRecDepth 100000 in
theorem tl_257 : Cond.instanceMethod y_XK_sameAs ∈ lw_tbl := List.mem_of_getElem? (i := 396) rfl
set_option maxRecDepth 100000 in
theorem tl_258 : Cond.selects "ClassifySort$Knowledge" y_XK_sameAs y_XK_sameAs ∈ lw_tbl := List.mem_of_getElem? (i := 397) rfl
set_option maxRecDepth 100000 in
theorem tl_259 : Cond.code y_XO_firstOfSame prog_4_method_15_code 4 (some .int) ∈ lw_tbl := List.mem_of_getElem? (i := 394) rfl
set_option maxRecDepth 100000 in
theorem tl_260 : Cond.methodLink "ClassifySort" 134 y_XO_firstOfSame ∈ lw_tbl := List.mem_of_getElem? (i := 391) rfl
set_option maxRecDepth 100000 in
theorem tl_261 : Cond.instanceMethod y_XO_firstOfSame ∈ lw_tbl := List.mem_of_getElem? (i := 392) rfl
set_option maxRecDepth 100000 in
theorem tl_262 : Cond.selects "ClassifySort$Order" y_XO_firstOfSame y_XO_firstOfSame ∈ lw_tbl := List.mem_of_getElem? (i := 393) rfl
set_option maxRecDepth 100000 in
theorem tl_263 : Cond.methodLink "ClassifySort" 160 y_X_has ∈ lw_tbl := List.mem_of_getElem? (i := 402) rfl
set_option maxRecDepth 100000 in
theorem tl_264 : Cond.code y_X_pick prog_1_method_26_code 4 (some .int) ∈ lw_tbl := List.mem_of_getElem? (i := 401) rfl
set_option maxRecDepth 100000 in
theorem tl_265 : Cond.methodLink "ClassifySort" 137 y_X_pick ∈ lw_tbl := List.mem_of_getElem? (i := 399) rfl
set_option maxRecDepth 100000 in
theorem tl_266 : Cond.static y_X_pick ∈ lw_tbl := List.mem_of_getElem? (i := 400) rfl
set_option maxRecDepth 100000 in
theorem tl_267 : Cond.code y_XO_directlyAbove prog_4_method_11_code 5 (some .int) ∈ lw_tbl := List.mem_of_getElem? (i := 390) rfl
set_option maxRecDepth 100000 in
theorem tl_268 : Cond.methodLink "ClassifySort" 131 y_XO_directlyAbove ∈ lw_tbl := List.mem_of_getElem? (i := 387) rfl
set_option maxRecDepth 100000 in
theorem tl_269 : Cond.instanceMethod y_XO_directlyAbove ∈ lw_tbl := List.mem_of_getElem? (i := 388) rfl
set_option maxRecDepth 100000 in
theorem tl_270 : Cond.selects "ClassifySort$Order" y_XO_directlyAbove y_XO_directlyAbove ∈ lw_tbl := List.mem_of_getElem? (i := 389) rfl
set_option maxRecDepth 100000 in
theorem tl_271 : Cond.code y_XO_directlyBelow prog_4_method_12_code 5 (some .int) ∈ lw_tbl := List.mem_of_getElem? (i := 386) rfl
set_option maxRecDepth 100000 in
theorem tl_272 : Cond.methodLink "ClassifySort$Order" 83 y_XO_directlyBelow ∈ lw_tbl := List.mem_of_getElem? (i := 383) rfl
set_option maxRecDepth 100000 in
theorem tl_273 : Cond.instanceMethod y_XO_directlyBelow ∈ lw_tbl := List.mem_of_getElem? (i := 384) rfl
set_option maxRecDepth 100000 in
theorem tl_274 : Cond.selects "ClassifySort$Order" y_XO_directlyBelow y_XO_directlyBelow ∈ lw_tbl := List.mem_of_getElem? (i := 385) rfl
set_option maxRecDepth 100000 in
theorem tl_275 : Cond.code y_XO_lowestAmong prog_4_method_14_code 4 (some .int) ∈ lw_tbl := List.mem_of_getElem? (i := 382) rfl
set_option maxRecDepth 100000 in
theorem tl_276 : Cond.methodLink "ClassifySort$Order" 80 y_XO_lowestAmong ∈ lw_tbl := List.mem_of_getElem? (i := 379) rfl
set_option maxRecDepth 100000 in
theorem tl_277 : Cond.instanceMethod y_XO_lowestAmong ∈ lw_tbl := List.mem_of_getElem? (i := 380) rfl
set_option maxRecDepth 100000 in
theorem tl_278 : Cond.selects "ClassifySort$Order" y_XO_lowestAmong y_XO_lowestAmong ∈ lw_tbl := List.mem_of_getElem? (i := 381) rfl
set_option maxRecDepth 100000 in
theorem tl_279 : Cond.code y_XO_lowest prog_4_method_13_code 1 (some .int) ∈ lw_tbl := List.mem_of_getElem? (i := 378) rfl
set_option maxRecDepth 100000 in
theorem tl_280 : Cond.methodLink "ClassifySort" 127 y_XO_lowest ∈ lw_tbl := List.mem_of_getElem? (i := 375) rfl
set_option maxRecDepth 100000 in
theorem tl_281 : Cond.instanceMethod y_XO_lowest ∈ lw_tbl := List.mem_of_getElem? (i := 376) rfl
set_option maxRecDepth 100000 in
theorem tl_282 : Cond.selects "ClassifySort$Order" y_XO_lowest y_XO_lowest ∈ lw_tbl := List.mem_of_getElem? (i := 377) rfl
set_option maxRecDepth 100000 in
theorem tl_283 : Cond.methodLink "ClassifySort" 140 y_XO_directlyBelow ∈ lw_tbl := List.mem_of_getElem? (i := 407) rfl
set_option maxRecDepth 100000 in
theorem tl_284 : Cond.methodLink "ClassifySort" 143 y_XK_sameAs ∈ lw_tbl := List.mem_of_getElem? (i := 412) rfl
set_option maxRecDepth 100000 in
theorem tl_285 : Cond.code y_XO_emptyClasses prog_4_method_3_code 1 (some .int) ∈ lw_tbl := List.mem_of_getElem? (i := 420) rfl
set_option maxRecDepth 100000 in
theorem tl_286 : Cond.methodLink "ClassifySort" 146 y_XO_emptyClasses ∈ lw_tbl := List.mem_of_getElem? (i := 417) rfl
set_option maxRecDepth 100000 in
theorem tl_287 : Cond.instanceMethod y_XO_emptyClasses ∈ lw_tbl := List.mem_of_getElem? (i := 418) rfl
set_option maxRecDepth 100000 in
theorem tl_288 : Cond.selects "ClassifySort$Order" y_XO_emptyClasses y_XO_emptyClasses ∈ lw_tbl := List.mem_of_getElem? (i := 419) rfl
set_option maxRecDepth 100000 in
theorem tl_289 : Cond.code y_XK_openOf prog_3_method_9_code 2 (some .int) ∈ lw_tbl := List.mem_of_getElem? (i := 428) rfl
set_option maxRecDepth 100000 in
theorem tl_290 : Cond.methodLink "ClassifySort" 149 y_XK_openOf ∈ lw_tbl := List.mem_of_getElem? (i := 425) rfl
set_option maxRecDepth 100000 in
theorem tl_291 : Cond.instanceMethod y_XK_openOf ∈ lw_tbl := List.mem_of_getElem? (i := 426) rfl
set_option maxRecDepth 100000 in
theorem tl_292 : Cond.selects "ClassifySort$Knowledge" y_XK_openOf y_XK_openOf ∈ lw_tbl := List.mem_of_getElem? (i := 427) rfl
set_option maxRecDepth 100000 in
theorem tl_293 : Cond.code y_X_isThing prog_1_method_20_code 2 (some .boolean) ∈ lw_tbl := List.mem_of_getElem? (i := 436) rfl
set_option maxRecDepth 100000 in
theorem tl_294 : Cond.methodLink "ClassifySort" 157 y_X_isThing ∈ lw_tbl := List.mem_of_getElem? (i := 433) rfl
set_option maxRecDepth 100000 in
theorem tl_295 : Cond.instanceMethod y_X_isThing ∈ lw_tbl := List.mem_of_getElem? (i := 435) rfl
set_option maxRecDepth 100000 in
theorem tl_296 : Cond.selects "ClassifySort" y_X_isThing y_X_isThing ∈ lw_tbl := List.mem_of_getElem? (i := 8) rfl
set_option maxRecDepth 100000 in
theorem tl_297 : Cond.fieldLink "ClassifySort" 41 "ClassifySort" "toldClasses" "[I" ∈ lw_tbl := List.mem_of_getElem? (i := 139) rfl
set_option maxRecDepth 100000 in
theorem tl_298 : Cond.code y_XR_facts prog_5_method_3_code 1 (some .int) ∈ lw_tbl := List.mem_of_getElem? (i := 444) rfl
set_option maxRecDepth 100000 in
theorem tl_299 : Cond.methodLink "ClassifySort" 164 y_XR_facts ∈ lw_tbl := List.mem_of_getElem? (i := 441) rfl
set_option maxRecDepth 100000 in
theorem tl_300 : Cond.instanceMethod y_XR_facts ∈ lw_tbl := List.mem_of_getElem? (i := 442) rfl
set_option maxRecDepth 100000 in
theorem tl_301 : Cond.selects "ClassifySort$Reasoner" y_XR_facts y_XR_facts ∈ lw_tbl := List.mem_of_getElem? (i := 443) rfl
set_option maxRecDepth 100000 in
theorem tl_302 : Cond.methodLink "ClassifySort" 167 y_XO_lowestAmong ∈ lw_tbl := List.mem_of_getElem? (i := 445) rfl
set_option maxRecDepth 100000 in
theorem tl_303 : Cond.methodLink "ClassifySort$Reasoner" 54 y_XA_leftOf ∈ lw_tbl := List.mem_of_getElem? (i := 455) rfl
set_option maxRecDepth 100000 in
theorem tl_304 : Cond.code y_XR_neededSteps prog_5_method_6_code 4 (some .int) ∈ lw_tbl := List.mem_of_getElem? (i := 453) rfl
set_option maxRecDepth 100000 in
theorem tl_305 : Cond.methodLink "ClassifySort" 170 y_XR_neededSteps ∈ lw_tbl := List.mem_of_getElem? (i := 450) rfl
set_option maxRecDepth 100000 in
theorem tl_306 : Cond.instanceMethod y_XR_neededSteps ∈ lw_tbl := List.mem_of_getElem? (i := 451) rfl
set_option maxRecDepth 100000 in
theorem tl_307 : Cond.selects "ClassifySort$Reasoner" y_XR_neededSteps y_XR_neededSteps ∈ lw_tbl := List.mem_of_getElem? (i := 452) rfl
set_option maxRecDepth 100000 in
theorem tl_308 : Cond.code y_XR_firedAt prog_5_method_4_code 2 (some .int) ∈ lw_tbl := List.mem_of_getElem? (i := 459) rfl
set_option maxRecDepth 100000 in
theorem tl_309 : Cond.methodLink "ClassifySort" 173 y_XR_firedAt ∈ lw_tbl := List.mem_of_getElem? (i := 456) rfl
set_option maxRecDepth 100000 in
theorem tl_310 : Cond.instanceMethod y_XR_firedAt ∈ lw_tbl := List.mem_of_getElem? (i := 457) rfl
set_option maxRecDepth 100000 in
theorem tl_311 : Cond.selects "ClassifySort$Reasoner" y_XR_firedAt y_XR_firedAt ∈ lw_tbl := List.mem_of_getElem? (i := 458) rfl
set_option maxRecDepth 100000 in
theorem tl_312 : Cond.code y_XA_thereNow prog_2_method_4_code 1 (some .int) ∈ lw_tbl := List.mem_of_getElem? (i := 467) rfl
set_option maxRecDepth 100000 in
theorem tl_313 : Cond.methodLink "ClassifySort" 176 y_XA_thereNow ∈ lw_tbl := List.mem_of_getElem? (i := 464) rfl
set_option maxRecDepth 100000 in
theorem tl_314 : Cond.instanceMethod y_XA_thereNow ∈ lw_tbl := List.mem_of_getElem? (i := 465) rfl
set_option maxRecDepth 100000 in
theorem tl_315 : Cond.selects "ClassifySort$Axioms" y_XA_thereNow y_XA_thereNow ∈ lw_tbl := List.mem_of_getElem? (i := 466) rfl
set_option maxRecDepth 100000 in
theorem tl_316 : Cond.code y_XO_placedClasses prog_4_method_2_code 1 (some .int) ∈ lw_tbl := List.mem_of_getElem? (i := 471) rfl
set_option maxRecDepth 100000 in
theorem tl_317 : Cond.methodLink "ClassifySort" 179 y_XO_placedClasses ∈ lw_tbl := List.mem_of_getElem? (i := 468) rfl
set_option maxRecDepth 100000 in
theorem tl_318 : Cond.instanceMethod y_XO_placedClasses ∈ lw_tbl := List.mem_of_getElem? (i := 469) rfl
set_option maxRecDepth 100000 in
theorem tl_319 : Cond.selects "ClassifySort$Order" y_XO_placedClasses y_XO_placedClasses ∈ lw_tbl := List.mem_of_getElem? (i := 470) rfl
set_option maxRecDepth 100000 in
theorem tl_320 : Cond.fieldLink "ClassifySortModel" 60 "ClassifySortModel" "classes" "I" ∈ lw_tbl := List.mem_of_getElem? (i := 478) rfl
set_option maxRecDepth 100000 in
theorem tl_321 : Cond.fieldLink "ClassifySortModel" 97 "ClassifySortModel" "sorted" "Z" ∈ lw_tbl := List.mem_of_getElem? (i := 483) rfl
set_option maxRecDepth 100000 in
theorem tl_322 : Cond.fieldLink "ClassifySortModel" 67 "ClassifySortModel" "axioms" "I" ∈ lw_tbl := List.mem_of_getElem? (i := 480) rfl
set_option maxRecDepth 100000 in
theorem tl_323 : Cond.fieldLink "ClassifySortModel" 23 "ClassifySortModel" "there" "[Z" ∈ lw_tbl := List.mem_of_getElem? (i := 487) rfl
set_option maxRecDepth 100000 in
theorem tl_324 : Cond.fieldLink "ClassifySortModel" 13 "ClassifySortModel" "left" "[I" ∈ lw_tbl := List.mem_of_getElem? (i := 484) rfl
set_option maxRecDepth 100000 in
theorem tl_325 : Cond.fieldLink "ClassifySortModel" 17 "ClassifySortModel" "other" "[I" ∈ lw_tbl := List.mem_of_getElem? (i := 485) rfl
set_option maxRecDepth 100000 in
theorem tl_326 : Cond.fieldLink "ClassifySortModel" 20 "ClassifySortModel" "right" "[I" ∈ lw_tbl := List.mem_of_getElem? (i := 486) rfl
set_option maxRecDepth 100000 in
theorem tl_327 : Cond.code y_M_isItself prog_7_method_6_code 5 (some .boolean) ∈ lw_tbl := List.mem_of_getElem? (i := 563) rfl
set_option maxRecDepth 100000 in
theorem tl_328 : Cond.initialized "ClassifySortModel" ∈ lw_tbl := List.mem_of_getElem? (i := 38) rfl
set_option maxRecDepth 100000 in
theorem tl_329 : Cond.methodLink "ClassifySortModel" 70 y_M_isItself ∈ lw_tbl := List.mem_of_getElem? (i := 560) rfl
set_option maxRecDepth 100000 in
theorem tl_330 : Cond.instanceMethod y_M_isItself ∈ lw_tbl := List.mem_of_getElem? (i := 562) rfl
set_option maxRecDepth 100000 in
theorem tl_331 : Cond.selects "ClassifySortModel" y_M_isItself y_M_isItself ∈ lw_tbl := List.mem_of_getElem? (i := 11) rfl
set_option maxRecDepth 100000 in
theorem tl_332 : Cond.fieldLink "ClassifySortModel" 30 "ClassifySortModel" "state" "[I" ∈ lw_tbl := List.mem_of_getElem? (i := 489) rfl
set_option maxRecDepth 100000 in
theorem tl_333 : Cond.code y_M_tellItself prog_7_method_7_code 3 none ∈ lw_tbl := List.mem_of_getElem? (i := 559) rfl
set_option maxRecDepth 100000 in
theorem tl_334 : Cond.methodLink "ClassifySortModel" 83 y_M_tellItself ∈ lw_tbl := List.mem_of_getElem? (i := 556) rfl
set_option maxRecDepth 100000 in
theorem tl_335 : Cond.instanceMethod y_M_tellItself ∈ lw_tbl := List.mem_of_getElem? (i := 558) rfl
set_option maxRecDepth 100000 in
theorem tl_336 : Cond.selects "ClassifySortModel" y_M_tellItself y_M_tellItself ∈ lw_tbl := List.mem_of_getElem? (i := 10) rfl
set_option maxRecDepth 100000 in
theorem tl_337 : Cond.code y_M_isHere prog_7_method_8_code 2 (some .boolean) ∈ lw_tbl := List.mem_of_getElem? (i := 571) rfl
set_option maxRecDepth 100000 in
theorem tl_338 : Cond.methodLink "ClassifySortModel" 74 y_M_isHere ∈ lw_tbl := List.mem_of_getElem? (i := 568) rfl
set_option maxRecDepth 100000 in
theorem tl_339 : Cond.instanceMethod y_M_isHere ∈ lw_tbl := List.mem_of_getElem? (i := 570) rfl
set_option maxRecDepth 100000 in
theorem tl_340 : Cond.selects "ClassifySortModel" y_M_isHere y_M_isHere ∈ lw_tbl := List.mem_of_getElem? (i := 13) rfl
set_option maxRecDepth 100000 in
theorem tl_341 : Cond.code y_M_below prog_7_method_5_code 3 (some .boolean) ∈ lw_tbl := List.mem_of_getElem? (i := 575) rfl
set_option maxRecDepth 100000 in
theorem tl_342 : Cond.methodLink "ClassifySortModel" 77 y_M_below ∈ lw_tbl := List.mem_of_getElem? (i := 572) rfl
set_option maxRecDepth 100000 in
theorem tl_343 : Cond.instanceMethod y_M_below ∈ lw_tbl := List.mem_of_getElem? (i := 574) rfl
set_option maxRecDepth 100000 in
theorem tl_344 : Cond.selects "ClassifySortModel" y_M_below y_M_below ∈ lw_tbl := List.mem_of_getElem? (i := 14) rfl
set_option maxRecDepth 100000 in
theorem tl_345 : Cond.code y_M_spreadNo prog_7_method_10_code 7 (some .boolean) ∈ lw_tbl := List.mem_of_getElem? (i := 579) rfl
set_option maxRecDepth 100000 in
theorem tl_346 : Cond.methodLink "ClassifySortModel" 80 y_M_spreadNo ∈ lw_tbl := List.mem_of_getElem? (i := 576) rfl
set_option maxRecDepth 100000 in
theorem tl_347 : Cond.instanceMethod y_M_spreadNo ∈ lw_tbl := List.mem_of_getElem? (i := 578) rfl
set_option maxRecDepth 100000 in
theorem tl_348 : Cond.selects "ClassifySortModel" y_M_spreadNo y_M_spreadNo ∈ lw_tbl := List.mem_of_getElem? (i := 15) rfl
set_option maxRecDepth 100000 in
theorem tl_349 : Cond.code y_M_closeOnce prog_7_method_9_code 5 (some .boolean) ∈ lw_tbl := List.mem_of_getElem? (i := 567) rfl
set_option maxRecDepth 100000 in
theorem tl_350 : Cond.methodLink "ClassifySortModel" 86 y_M_closeOnce ∈ lw_tbl := List.mem_of_getElem? (i := 564) rfl
set_option maxRecDepth 100000 in
theorem tl_351 : Cond.instanceMethod y_M_closeOnce ∈ lw_tbl := List.mem_of_getElem? (i := 566) rfl
set_option maxRecDepth 100000 in
theorem tl_352 : Cond.selects "ClassifySortModel" y_M_closeOnce y_M_closeOnce ∈ lw_tbl := List.mem_of_getElem? (i := 12) rfl
set_option maxRecDepth 100000 in
theorem tl_353 : Cond.code y_M_close prog_7_method_11_code 2 none ∈ lw_tbl := List.mem_of_getElem? (i := 555) rfl
set_option maxRecDepth 100000 in
theorem tl_354 : Cond.methodLink "ClassifySortModel" 101 y_M_close ∈ lw_tbl := List.mem_of_getElem? (i := 552) rfl
set_option maxRecDepth 100000 in
theorem tl_355 : Cond.instanceMethod y_M_close ∈ lw_tbl := List.mem_of_getElem? (i := 554) rfl
set_option maxRecDepth 100000 in
theorem tl_356 : Cond.selects "ClassifySortModel" y_M_close y_M_close ∈ lw_tbl := List.mem_of_getElem? (i := 9) rfl
set_option maxRecDepth 100000 in
theorem tl_357 : Cond.fieldLink "ClassifySortModel" 104 "ClassifySortModel" "things" "I" ∈ lw_tbl := List.mem_of_getElem? (i := 479) rfl
set_option maxRecDepth 100000 in
theorem tl_358 : Cond.code y_M_isClass prog_7_method_3_code 2 (some .boolean) ∈ lw_tbl := List.mem_of_getElem? (i := 591) rfl
set_option maxRecDepth 100000 in
theorem tl_359 : Cond.methodLink "ClassifySortModel" 63 y_M_isClass ∈ lw_tbl := List.mem_of_getElem? (i := 588) rfl
set_option maxRecDepth 100000 in
theorem tl_360 : Cond.instanceMethod y_M_isClass ∈ lw_tbl := List.mem_of_getElem? (i := 590) rfl
set_option maxRecDepth 100000 in
theorem tl_361 : Cond.selects "ClassifySortModel" y_M_isClass y_M_isClass ∈ lw_tbl := List.mem_of_getElem? (i := 16) rfl
set_option maxRecDepth 100000 in
theorem tl_362 : Cond.fieldLink "ClassifySortModel" 54 "ClassifySortModel" "module" "[Z" ∈ lw_tbl := List.mem_of_getElem? (i := 498) rfl
set_option maxRecDepth 100000 in
theorem tl_363 : Cond.code y_M_isTouched prog_7_method_17_code 7 (some .boolean) ∈ lw_tbl := List.mem_of_getElem? (i := 599) rfl
set_option maxRecDepth 100000 in
theorem tl_364 : Cond.methodLink "ClassifySortModel" 107 y_M_isTouched ∈ lw_tbl := List.mem_of_getElem? (i := 596) rfl
set_option maxRecDepth 100000 in
theorem tl_365 : Cond.instanceMethod y_M_isTouched ∈ lw_tbl := List.mem_of_getElem? (i := 598) rfl
set_option maxRecDepth 100000 in
theorem tl_366 : Cond.selects "ClassifySortModel" y_M_isTouched y_M_isTouched ∈ lw_tbl := List.mem_of_getElem? (i := 18) rfl
set_option maxRecDepth 100000 in
theorem tl_367 : Cond.code y_M_forget prog_7_method_18_code 6 none ∈ lw_tbl := List.mem_of_getElem? (i := 595) rfl
set_option maxRecDepth 100000 in
theorem tl_368 : Cond.methodLink "ClassifySortModel" 110 y_M_forget ∈ lw_tbl := List.mem_of_getElem? (i := 592) rfl
set_option maxRecDepth 100000 in
theorem tl_369 : Cond.instanceMethod y_M_forget ∈ lw_tbl := List.mem_of_getElem? (i := 594) rfl
set_option maxRecDepth 100000 in
theorem tl_370 : Cond.selects "ClassifySortModel" y_M_forget y_M_forget ∈ lw_tbl := List.mem_of_getElem? (i := 17) rfl
set_option maxRecDepth 100000 in
theorem tl_371 : Cond.fieldLink "ClassifySortModel" 33 "ClassifySortModel" "before" "[I" ∈ lw_tbl := List.mem_of_getElem? (i := 490) rfl
set_option maxRecDepth 100000 in
theorem tl_372 : Cond.code y_M_openPairs prog_7_method_21_code 3 (some .int) ∈ lw_tbl := List.mem_of_getElem? (i := 611) rfl
set_option maxRecDepth 100000 in
theorem tl_373 : Cond.methodLink "ClassifySortModel" 114 y_M_openPairs ∈ lw_tbl := List.mem_of_getElem? (i := 608) rfl
set_option maxRecDepth 100000 in
theorem tl_374 : Cond.instanceMethod y_M_openPairs ∈ lw_tbl := List.mem_of_getElem? (i := 610) rfl
set_option maxRecDepth 100000 in
theorem tl_375 : Cond.selects "ClassifySortModel" y_M_openPairs y_M_openPairs ∈ lw_tbl := List.mem_of_getElem? (i := 19) rfl
set_option maxRecDepth 100000 in
theorem tl_376 : Cond.fieldLink "ClassifySortModel" 7 "ClassifySortModel" "fuel" "I" ∈ lw_tbl := List.mem_of_getElem? (i := 481) rfl
set_option maxRecDepth 100000 in
theorem tl_377 : Cond.code y_M_goalOf prog_7_method_4_code 2 (some .int) ∈ lw_tbl := List.mem_of_getElem? (i := 619) rfl
set_option maxRecDepth 100000 in
theorem tl_378 : Cond.methodLink "ClassifySortModel" 118 y_M_goalOf ∈ lw_tbl := List.mem_of_getElem? (i := 616) rfl
set_option maxRecDepth 100000 in
theorem tl_379 : Cond.instanceMethod y_M_goalOf ∈ lw_tbl := List.mem_of_getElem? (i := 618) rfl
set_option maxRecDepth 100000 in
theorem tl_380 : Cond.selects "ClassifySortModel" y_M_goalOf y_M_goalOf ∈ lw_tbl := List.mem_of_getElem? (i := 20) rfl
set_option maxRecDepth 100000 in
theorem tl_381 : Cond.fieldLink "ClassifySortModel" 42 "ClassifySortModel" "fact" "[Z" ∈ lw_tbl := List.mem_of_getElem? (i := 493) rfl
set_option maxRecDepth 100000 in
theorem tl_382 : Cond.fieldLink "ClassifySortModel" 90 "ClassifySortModel" "firedCount" "I" ∈ lw_tbl := List.mem_of_getElem? (i := 496) rfl
set_option maxRecDepth 100000 in
theorem tl_383 : Cond.fieldLink "ClassifySortModel" 45 "ClassifySortModel" "maker" "[I" ∈ lw_tbl := List.mem_of_getElem? (i := 494) rfl
set_option maxRecDepth 100000 in
theorem tl_384 : Cond.fieldLink "ClassifySortModel" 48 "ClassifySortModel" "fired" "[I" ∈ lw_tbl := List.mem_of_getElem? (i := 495) rfl
set_option maxRecDepth 100000 in
theorem tl_385 : Cond.code y_M_reason prog_7_method_12_code 5 (some .int) ∈ lw_tbl := List.mem_of_getElem? (i := 631) rfl
set_option maxRecDepth 100000 in
theorem tl_386 : Cond.methodLink "ClassifySortModel" 93 y_M_reason ∈ lw_tbl := List.mem_of_getElem? (i := 628) rfl
set_option maxRecDepth 100000 in
theorem tl_387 : Cond.instanceMethod y_M_reason ∈ lw_tbl := List.mem_of_getElem? (i := 630) rfl
set_option maxRecDepth 100000 in
theorem tl_388 : Cond.selects "ClassifySortModel" y_M_reason y_M_reason ∈ lw_tbl := List.mem_of_getElem? (i := 22) rfl
set_option maxRecDepth 100000 in
theorem tl_389 : Cond.code y_M_reasonAlone prog_7_method_13_code 4 (some .int) ∈ lw_tbl := List.mem_of_getElem? (i := 627) rfl
set_option maxRecDepth 100000 in
theorem tl_390 : Cond.methodLink "ClassifySortModel" 121 y_M_reasonAlone ∈ lw_tbl := List.mem_of_getElem? (i := 624) rfl
set_option maxRecDepth 100000 in
theorem tl_391 : Cond.instanceMethod y_M_reasonAlone ∈ lw_tbl := List.mem_of_getElem? (i := 626) rfl
set_option maxRecDepth 100000 in
theorem tl_392 : Cond.selects "ClassifySortModel" y_M_reasonAlone y_M_reasonAlone ∈ lw_tbl := List.mem_of_getElem? (i := 21) rfl
set_option maxRecDepth 100000 in
theorem tl_393 : Cond.fieldLink "ClassifySortModel" 125 "ClassifySortModel" "asked" "I" ∈ lw_tbl := List.mem_of_getElem? (i := 499) rfl
set_option maxRecDepth 100000 in
theorem tl_394 : Cond.fieldLink "ClassifySortModel" 36 "ClassifySortModel" "placed" "[Z" ∈ lw_tbl := List.mem_of_getElem? (i := 491) rfl
set_option maxRecDepth 100000 in
theorem tl_395 : Cond.code y_M_look prog_7_method_25_code 3 (some .boolean) ∈ lw_tbl := List.mem_of_getElem? (i := 639) rfl
set_option maxRecDepth 100000 in
theorem tl_396 : Cond.methodLink "ClassifySortModel" 138 y_M_look ∈ lw_tbl := List.mem_of_getElem? (i := 636) rfl
set_option maxRecDepth 100000 in
theorem tl_397 : Cond.instanceMethod y_M_look ∈ lw_tbl := List.mem_of_getElem? (i := 638) rfl
set_option maxRecDepth 100000 in
theorem tl_398 : Cond.selects "ClassifySortModel" y_M_look y_M_look ∈ lw_tbl := List.mem_of_getElem? (i := 23) rfl
set_option maxRecDepth 100000 in
theorem tl_399 : Cond.fieldLink "ClassifySortModel" 39 "ClassifySortModel" "looked" "[Z" ∈ lw_tbl := List.mem_of_getElem? (i := 492) rfl
set_option maxRecDepth 100000 in
theorem tl_400 : Cond.code y_M_isUnder prog_7_method_26_code 3 (some .boolean) ∈ lw_tbl := List.mem_of_getElem? (i := 655) rfl
set_option maxRecDepth 100000 in
theorem tl_401 : Cond.methodLink "ClassifySortModel" 128 y_M_isUnder ∈ lw_tbl := List.mem_of_getElem? (i := 652) rfl
set_option maxRecDepth 100000 in
theorem tl_402 : Cond.instanceMethod y_M_isUnder ∈ lw_tbl := List.mem_of_getElem? (i := 654) rfl
set_option maxRecDepth 100000 in
theorem tl_403 : Cond.selects "ClassifySortModel" y_M_isUnder y_M_isUnder ∈ lw_tbl := List.mem_of_getElem? (i := 27) rfl
set_option maxRecDepth 100000 in
theorem tl_404 : Cond.code y_M_isDirect prog_7_method_27_code 5 (some .boolean) ∈ lw_tbl := List.mem_of_getElem? (i := 651) rfl
set_option maxRecDepth 100000 in
theorem tl_405 : Cond.methodLink "ClassifySortModel" 131 y_M_isDirect ∈ lw_tbl := List.mem_of_getElem? (i := 648) rfl
set_option maxRecDepth 100000 in
theorem tl_406 : Cond.instanceMethod y_M_isDirect ∈ lw_tbl := List.mem_of_getElem? (i := 650) rfl
set_option maxRecDepth 100000 in
theorem tl_407 : Cond.selects "ClassifySortModel" y_M_isDirect y_M_isDirect ∈ lw_tbl := List.mem_of_getElem? (i := 26) rfl
set_option maxRecDepth 100000 in
theorem tl_408 : Cond.code y_M_nextFor prog_7_method_28_code 7 (some .int) ∈ lw_tbl := List.mem_of_getElem? (i := 647) rfl
set_option maxRecDepth 100000 in
theorem tl_409 : Cond.methodLink "ClassifySortModel" 134 y_M_nextFor ∈ lw_tbl := List.mem_of_getElem? (i := 644) rfl
set_option maxRecDepth 100000 in
theorem tl_410 : Cond.instanceMethod y_M_nextFor ∈ lw_tbl := List.mem_of_getElem? (i := 646) rfl
set_option maxRecDepth 100000 in
theorem tl_411 : Cond.selects "ClassifySortModel" y_M_nextFor y_M_nextFor ∈ lw_tbl := List.mem_of_getElem? (i := 25) rfl
set_option maxRecDepth 100000 in
theorem tl_412 : Cond.code y_M_go prog_7_method_29_code 5 none ∈ lw_tbl := List.mem_of_getElem? (i := 643) rfl
set_option maxRecDepth 100000 in
theorem tl_413 : Cond.methodLink "ClassifySortModel" 141 y_M_go ∈ lw_tbl := List.mem_of_getElem? (i := 640) rfl
set_option maxRecDepth 100000 in
theorem tl_414 : Cond.instanceMethod y_M_go ∈ lw_tbl := List.mem_of_getElem? (i := 642) rfl
set_option maxRecDepth 100000 in
theorem tl_415 : Cond.selects "ClassifySortModel" y_M_go y_M_go ∈ lw_tbl := List.mem_of_getElem? (i := 24) rfl
set_option maxRecDepth 100000 in
theorem tl_416 : Cond.fieldLink "ClassifySortModel" 145 "ClassifySortModel" "questions" "I" ∈ lw_tbl := List.mem_of_getElem? (i := 482) rfl
set_option maxRecDepth 100000 in
theorem tl_417 : Cond.code y_M_isSecond prog_7_method_31_code 4 (some .boolean) ∈ lw_tbl := List.mem_of_getElem? (i := 663) rfl
set_option maxRecDepth 100000 in
theorem tl_418 : Cond.methodLink "ClassifySortModel" 148 y_M_isSecond ∈ lw_tbl := List.mem_of_getElem? (i := 660) rfl
set_option maxRecDepth 100000 in
theorem tl_419 : Cond.instanceMethod y_M_isSecond ∈ lw_tbl := List.mem_of_getElem? (i := 662) rfl
set_option maxRecDepth 100000 in
theorem tl_420 : Cond.selects "ClassifySortModel" y_M_isSecond y_M_isSecond ∈ lw_tbl := List.mem_of_getElem? (i := 28) rfl
set_option maxRecDepth 100000 in
theorem tl_421 : Cond.code y_M_hasBelow prog_7_method_32_code 4 (some .boolean) ∈ lw_tbl := List.mem_of_getElem? (i := 667) rfl
set_option maxRecDepth 100000 in
theorem tl_422 : Cond.methodLink "ClassifySortModel" 151 y_M_hasBelow ∈ lw_tbl := List.mem_of_getElem? (i := 664) rfl
set_option maxRecDepth 100000 in
theorem tl_423 : Cond.instanceMethod y_M_hasBelow ∈ lw_tbl := List.mem_of_getElem? (i := 666) rfl
set_option maxRecDepth 100000 in
theorem tl_424 : Cond.selects "ClassifySortModel" y_M_hasBelow y_M_hasBelow ∈ lw_tbl := List.mem_of_getElem? (i := 29) rfl
set_option maxRecDepth 100000 in
theorem tl_425 : Cond.fieldLink "ClassifySortModel" 27 "ClassifySortModel" "member" "[Z" ∈ lw_tbl := List.mem_of_getElem? (i := 488) rfl
set_option maxRecDepth 100000 in
theorem tl_426 : Cond.code y_M_reasonThing prog_7_method_14_code 4 (some .int) ∈ lw_tbl := List.mem_of_getElem? (i := 695) rfl
set_option maxRecDepth 100000 in
theorem tl_427 : Cond.methodLink "ClassifySortModel" 154 y_M_reasonThing ∈ lw_tbl := List.mem_of_getElem? (i := 692) rfl
set_option maxRecDepth 100000 in
theorem tl_428 : Cond.instanceMethod y_M_reasonThing ∈ lw_tbl := List.mem_of_getElem? (i := 694) rfl
set_option maxRecDepth 100000 in
theorem tl_429 : Cond.selects "ClassifySortModel" y_M_reasonThing y_M_reasonThing ∈ lw_tbl := List.mem_of_getElem? (i := 30) rfl
set_option maxRecDepth 100000 in
theorem tl_430 : Cond.code y_M_isIn prog_7_method_39_code 3 (some .boolean) ∈ lw_tbl := List.mem_of_getElem? (i := 699) rfl
set_option maxRecDepth 100000 in
theorem tl_431 : Cond.methodLink "ClassifySortModel" 157 y_M_isIn ∈ lw_tbl := List.mem_of_getElem? (i := 696) rfl
set_option maxRecDepth 100000 in
theorem tl_432 : Cond.instanceMethod y_M_isIn ∈ lw_tbl := List.mem_of_getElem? (i := 698) rfl
set_option maxRecDepth 100000 in
theorem tl_433 : Cond.selects "ClassifySortModel" y_M_isIn y_M_isIn ∈ lw_tbl := List.mem_of_getElem? (i := 31) rfl
set_option maxRecDepth 100000 in
theorem tl_434 : Cond.fieldLink "ClassifySortModel" 51 "ClassifySortModel" "needed" "[Z" ∈ lw_tbl := List.mem_of_getElem? (i := 497) rfl
set_option maxRecDepth 100000 in
theorem tl_435 : Cond.methodLink "ClassifySort$Axioms" 3 Lib.objectInit ∈ lw_tbl := List.mem_of_getElem? (i := 54) rfl
set_option maxRecDepth 100000 in
theorem tl_436 : Cond.instanceMethod Lib.objectInit ∈ lw_tbl := List.mem_of_getElem? (i := 47) rfl
set_option maxRecDepth 100000 in
theorem tl_437 : Cond.code Lib.objectInit ⟨#[0xb1]⟩ 1 none ∈ lw_tbl := List.mem_of_getElem? (i := 48) rfl
set_option maxRecDepth 100000 in
theorem tl_438 : Cond.arrayClass .int ∈ lw_tbl := List.mem_of_getElem? (i := 68) rfl
set_option maxRecDepth 100000 in
theorem tl_439 : Cond.methodLink "ClassifySort$Reasoner" 3 Lib.objectInit ∈ lw_tbl := List.mem_of_getElem? (i := 74) rfl
set_option maxRecDepth 100000 in
theorem tl_440 : Cond.methodLink "ClassifySort$Knowledge" 3 Lib.objectInit ∈ lw_tbl := List.mem_of_getElem? (i := 96) rfl
set_option maxRecDepth 100000 in
theorem tl_441 : Cond.methodLink "ClassifySort$Order" 3 Lib.objectInit ∈ lw_tbl := List.mem_of_getElem? (i := 118) rfl
set_option maxRecDepth 100000 in
theorem tl_442 : Cond.methodLink "ClassifySort" 3 Lib.objectInit ∈ lw_tbl := List.mem_of_getElem? (i := 46) rfl
set_option maxRecDepth 100000 in
theorem tl_443 : Cond.classLink "ClassifySort" 9 "ClassifySort$Axioms" ∈ lw_tbl := List.mem_of_getElem? (i := 49) rfl
set_option maxRecDepth 100000 in
theorem tl_444 : Cond.instantiable "ClassifySort$Axioms" 4 ∈ lw_tbl := List.mem_of_getElem? (i := 50) rfl
set_option maxRecDepth 100000 in
theorem tl_445 : Cond.code y_XA_init prog_2_method_1_code 1 none ∈ lw_tbl := List.mem_of_getElem? (i := 53) rfl
set_option maxRecDepth 100000 in
theorem tl_446 : Cond.instanceMethod y_XA_init ∈ lw_tbl := List.mem_of_getElem? (i := 52) rfl
set_option maxRecDepth 100000 in
theorem tl_447 : Cond.classLink "ClassifySort" 16 "ClassifySort$Reasoner" ∈ lw_tbl := List.mem_of_getElem? (i := 69) rfl
set_option maxRecDepth 100000 in
theorem tl_448 : Cond.instantiable "ClassifySort$Reasoner" 5 ∈ lw_tbl := List.mem_of_getElem? (i := 70) rfl
set_option maxRecDepth 100000 in
theorem tl_449 : Cond.code y_XR_init prog_5_method_1_code 2 none ∈ lw_tbl := List.mem_of_getElem? (i := 73) rfl
set_option maxRecDepth 100000 in
theorem tl_450 : Cond.methodLink "ClassifySort" 18 y_XR_init ∈ lw_tbl := List.mem_of_getElem? (i := 71) rfl
set_option maxRecDepth 100000 in
theorem tl_451 : Cond.instanceMethod y_XR_init ∈ lw_tbl := List.mem_of_getElem? (i := 72) rfl
set_option maxRecDepth 100000 in
theorem tl_452 : Cond.classLink "ClassifySort" 25 "ClassifySort$Knowledge" ∈ lw_tbl := List.mem_of_getElem? (i := 91) rfl
set_option maxRecDepth 100000 in
theorem tl_453 : Cond.instantiable "ClassifySort$Knowledge" 4 ∈ lw_tbl := List.mem_of_getElem? (i := 92) rfl
set_option maxRecDepth 100000 in
theorem tl_454 : Cond.code y_XK_init prog_3_method_1_code 1 none ∈ lw_tbl := List.mem_of_getElem? (i := 95) rfl
set_option maxRecDepth 100000 in
theorem tl_455 : Cond.methodLink "ClassifySort" 27 y_XK_init ∈ lw_tbl := List.mem_of_getElem? (i := 93) rfl
set_option maxRecDepth 100000 in
theorem tl_456 : Cond.instanceMethod y_XK_init ∈ lw_tbl := List.mem_of_getElem? (i := 94) rfl
set_option maxRecDepth 100000 in
theorem tl_457 : Cond.classLink "ClassifySort" 32 "ClassifySort$Order" ∈ lw_tbl := List.mem_of_getElem? (i := 113) rfl
set_option maxRecDepth 100000 in
theorem tl_458 : Cond.instantiable "ClassifySort$Order" 5 ∈ lw_tbl := List.mem_of_getElem? (i := 114) rfl
set_option maxRecDepth 100000 in
theorem tl_459 : Cond.code y_XO_init prog_4_method_1_code 3 none ∈ lw_tbl := List.mem_of_getElem? (i := 117) rfl
set_option maxRecDepth 100000 in
theorem tl_460 : Cond.methodLink "ClassifySort" 34 y_XO_init ∈ lw_tbl := List.mem_of_getElem? (i := 115) rfl
set_option maxRecDepth 100000 in
theorem tl_461 : Cond.instanceMethod y_XO_init ∈ lw_tbl := List.mem_of_getElem? (i := 116) rfl
set_option maxRecDepth 100000 in
theorem tl_462 : Cond.methodLink "ClassifySortModel" 1 Lib.objectInit ∈ lw_tbl := List.mem_of_getElem? (i := 477) rfl
set_option maxRecDepth 100000 in
theorem tl_463 : Cond.arrayClass .boolean ∈ lw_tbl := List.mem_of_getElem? (i := 547) rfl
set_option maxRecDepth 100000 in
theorem tl_464 : Cond.code y_X_class0 prog_1_method_2_code 1 (some .int) ∈ lw_tbl := List.mem_of_getElem? (i := 166) rfl
set_option maxRecDepth 100000 in
theorem tl_465 : Cond.methodLink "ClassifySortLaw" 13 y_X_class0 ∈ lw_tbl := List.mem_of_getElem? (i := 163) rfl
set_option maxRecDepth 100000 in
theorem tl_466 : Cond.instanceMethod y_X_class0 ∈ lw_tbl := List.mem_of_getElem? (i := 164) rfl
set_option maxRecDepth 100000 in
theorem tl_467 : Cond.selects "ClassifySort" y_X_class0 y_X_class0 ∈ lw_tbl := List.mem_of_getElem? (i := 165) rfl
set_option maxRecDepth 100000 in
theorem tl_468 : Cond.code y_M_class0 prog_7_method_15_code 1 (some .int) ∈ lw_tbl := List.mem_of_getElem? (i := 551) rfl
set_option maxRecDepth 100000 in
theorem tl_469 : Cond.methodLink "ClassifySortLaw" 17 y_M_class0 ∈ lw_tbl := List.mem_of_getElem? (i := 548) rfl
set_option maxRecDepth 100000 in
theorem tl_470 : Cond.instanceMethod y_M_class0 ∈ lw_tbl := List.mem_of_getElem? (i := 549) rfl
set_option maxRecDepth 100000 in
theorem tl_471 : Cond.selects "ClassifySortModel" y_M_class0 y_M_class0 ∈ lw_tbl := List.mem_of_getElem? (i := 550) rfl
set_option maxRecDepth 100000 in
theorem tl_472 : Cond.code y_X_thing prog_1_method_3_code 1 (some .int) ∈ lw_tbl := List.mem_of_getElem? (i := 189) rfl
set_option maxRecDepth 100000 in
theorem tl_473 : Cond.methodLink "ClassifySortLaw" 18 y_X_thing ∈ lw_tbl := List.mem_of_getElem? (i := 186) rfl
set_option maxRecDepth 100000 in
theorem tl_474 : Cond.instanceMethod y_X_thing ∈ lw_tbl := List.mem_of_getElem? (i := 187) rfl
set_option maxRecDepth 100000 in
theorem tl_475 : Cond.selects "ClassifySort" y_X_thing y_X_thing ∈ lw_tbl := List.mem_of_getElem? (i := 188) rfl
set_option maxRecDepth 100000 in
theorem tl_476 : Cond.code y_M_thing prog_7_method_16_code 1 (some .int) ∈ lw_tbl := List.mem_of_getElem? (i := 583) rfl
set_option maxRecDepth 100000 in
theorem tl_477 : Cond.methodLink "ClassifySortLaw" 21 y_M_thing ∈ lw_tbl := List.mem_of_getElem? (i := 580) rfl
set_option maxRecDepth 100000 in
theorem tl_478 : Cond.instanceMethod y_M_thing ∈ lw_tbl := List.mem_of_getElem? (i := 581) rfl
set_option maxRecDepth 100000 in
theorem tl_479 : Cond.selects "ClassifySortModel" y_M_thing y_M_thing ∈ lw_tbl := List.mem_of_getElem? (i := 582) rfl
set_option maxRecDepth 100000 in
theorem tl_480 : Cond.code y_X_axiom prog_1_method_4_code 6 (some .int) ∈ lw_tbl := List.mem_of_getElem? (i := 193) rfl
set_option maxRecDepth 100000 in
theorem tl_481 : Cond.methodLink "ClassifySortLaw" 22 y_X_axiom ∈ lw_tbl := List.mem_of_getElem? (i := 190) rfl
set_option maxRecDepth 100000 in
theorem tl_482 : Cond.instanceMethod y_X_axiom ∈ lw_tbl := List.mem_of_getElem? (i := 191) rfl
set_option maxRecDepth 100000 in
theorem tl_483 : Cond.selects "ClassifySort" y_X_axiom y_X_axiom ∈ lw_tbl := List.mem_of_getElem? (i := 192) rfl
set_option maxRecDepth 100000 in
theorem tl_484 : Cond.code y_M_axiom prog_7_method_19_code 4 (some .int) ∈ lw_tbl := List.mem_of_getElem? (i := 587) rfl
set_option maxRecDepth 100000 in
theorem tl_485 : Cond.methodLink "ClassifySortLaw" 26 y_M_axiom ∈ lw_tbl := List.mem_of_getElem? (i := 584) rfl
set_option maxRecDepth 100000 in
theorem tl_486 : Cond.instanceMethod y_M_axiom ∈ lw_tbl := List.mem_of_getElem? (i := 585) rfl
set_option maxRecDepth 100000 in
theorem tl_487 : Cond.selects "ClassifySortModel" y_M_axiom y_M_axiom ∈ lw_tbl := List.mem_of_getElem? (i := 586) rfl
set_option maxRecDepth 100000 in
theorem tl_488 : Cond.code y_X_remove prog_1_method_5_code 4 (some .int) ∈ lw_tbl := List.mem_of_getElem? (i := 251) rfl
set_option maxRecDepth 100000 in
theorem tl_489 : Cond.methodLink "ClassifySortLaw" 27 y_X_remove ∈ lw_tbl := List.mem_of_getElem? (i := 248) rfl
set_option maxRecDepth 100000 in
theorem tl_490 : Cond.instanceMethod y_X_remove ∈ lw_tbl := List.mem_of_getElem? (i := 249) rfl
set_option maxRecDepth 100000 in
theorem tl_491 : Cond.selects "ClassifySort" y_X_remove y_X_remove ∈ lw_tbl := List.mem_of_getElem? (i := 250) rfl
set_option maxRecDepth 100000 in
theorem tl_492 : Cond.code y_M_remove prog_7_method_20_code 4 (some .int) ∈ lw_tbl := List.mem_of_getElem? (i := 603) rfl
set_option maxRecDepth 100000 in
theorem tl_493 : Cond.methodLink "ClassifySortLaw" 31 y_M_remove ∈ lw_tbl := List.mem_of_getElem? (i := 600) rfl
set_option maxRecDepth 100000 in
theorem tl_494 : Cond.instanceMethod y_M_remove ∈ lw_tbl := List.mem_of_getElem? (i := 601) rfl
set_option maxRecDepth 100000 in
theorem tl_495 : Cond.selects "ClassifySortModel" y_M_remove y_M_remove ∈ lw_tbl := List.mem_of_getElem? (i := 602) rfl
set_option maxRecDepth 100000 in
theorem tl_496 : Cond.code y_X_fuel prog_1_method_6_code 3 (some .int) ∈ lw_tbl := List.mem_of_getElem? (i := 273) rfl
set_option maxRecDepth 100000 in
theorem tl_497 : Cond.methodLink "ClassifySortLaw" 32 y_X_fuel ∈ lw_tbl := List.mem_of_getElem? (i := 270) rfl
set_option maxRecDepth 100000 in
theorem tl_498 : Cond.instanceMethod y_X_fuel ∈ lw_tbl := List.mem_of_getElem? (i := 271) rfl
set_option maxRecDepth 100000 in
theorem tl_499 : Cond.selects "ClassifySort" y_X_fuel y_X_fuel ∈ lw_tbl := List.mem_of_getElem? (i := 272) rfl
set_option maxRecDepth 100000 in
theorem tl_500 : Cond.code y_M_fuel prog_7_method_22_code 4 (some .int) ∈ lw_tbl := List.mem_of_getElem? (i := 607) rfl
set_option maxRecDepth 100000 in
theorem tl_501 : Cond.methodLink "ClassifySortLaw" 35 y_M_fuel ∈ lw_tbl := List.mem_of_getElem? (i := 604) rfl
set_option maxRecDepth 100000 in
theorem tl_502 : Cond.instanceMethod y_M_fuel ∈ lw_tbl := List.mem_of_getElem? (i := 605) rfl
set_option maxRecDepth 100000 in
theorem tl_503 : Cond.selects "ClassifySortModel" y_M_fuel y_M_fuel ∈ lw_tbl := List.mem_of_getElem? (i := 606) rfl
set_option maxRecDepth 100000 in
theorem tl_504 : Cond.code y_X_known prog_1_method_7_code 3 (some .int) ∈ lw_tbl := List.mem_of_getElem? (i := 295) rfl
set_option maxRecDepth 100000 in
theorem tl_505 : Cond.methodLink "ClassifySortLaw" 36 y_X_known ∈ lw_tbl := List.mem_of_getElem? (i := 292) rfl
set_option maxRecDepth 100000 in
theorem tl_506 : Cond.instanceMethod y_X_known ∈ lw_tbl := List.mem_of_getElem? (i := 293) rfl
set_option maxRecDepth 100000 in
theorem tl_507 : Cond.selects "ClassifySort" y_X_known y_X_known ∈ lw_tbl := List.mem_of_getElem? (i := 294) rfl
set_option maxRecDepth 100000 in
theorem tl_508 : Cond.code y_M_known prog_7_method_23_code 4 (some .int) ∈ lw_tbl := List.mem_of_getElem? (i := 615) rfl
set_option maxRecDepth 100000 in
theorem tl_509 : Cond.methodLink "ClassifySortLaw" 40 y_M_known ∈ lw_tbl := List.mem_of_getElem? (i := 612) rfl
set_option maxRecDepth 100000 in
theorem tl_510 : Cond.instanceMethod y_M_known ∈ lw_tbl := List.mem_of_getElem? (i := 613) rfl
set_option maxRecDepth 100000 in
theorem tl_511 : Cond.selects "ClassifySortModel" y_M_known y_M_known ∈ lw_tbl := List.mem_of_getElem? (i := 614) rfl
set_option maxRecDepth 100000 in
theorem tl_512 : Cond.code y_X_ask prog_1_method_8_code 3 (some .int) ∈ lw_tbl := List.mem_of_getElem? (i := 303) rfl
set_option maxRecDepth 100000 in
theorem tl_513 : Cond.methodLink "ClassifySortLaw" 41 y_X_ask ∈ lw_tbl := List.mem_of_getElem? (i := 300) rfl
set_option maxRecDepth 100000 in
theorem tl_514 : Cond.instanceMethod y_X_ask ∈ lw_tbl := List.mem_of_getElem? (i := 301) rfl
set_option maxRecDepth 100000 in
theorem tl_515 : Cond.selects "ClassifySort" y_X_ask y_X_ask ∈ lw_tbl := List.mem_of_getElem? (i := 302) rfl
set_option maxRecDepth 100000 in
theorem tl_516 : Cond.code y_M_ask prog_7_method_24_code 4 (some .int) ∈ lw_tbl := List.mem_of_getElem? (i := 623) rfl
set_option maxRecDepth 100000 in
theorem tl_517 : Cond.methodLink "ClassifySortLaw" 44 y_M_ask ∈ lw_tbl := List.mem_of_getElem? (i := 620) rfl
set_option maxRecDepth 100000 in
theorem tl_518 : Cond.instanceMethod y_M_ask ∈ lw_tbl := List.mem_of_getElem? (i := 621) rfl
set_option maxRecDepth 100000 in
theorem tl_519 : Cond.selects "ClassifySortModel" y_M_ask y_M_ask ∈ lw_tbl := List.mem_of_getElem? (i := 622) rfl
set_option maxRecDepth 100000 in
theorem tl_520 : Cond.code y_X_run prog_1_method_9_code 2 (some .int) ∈ lw_tbl := List.mem_of_getElem? (i := 318) rfl
set_option maxRecDepth 100000 in
theorem tl_521 : Cond.methodLink "ClassifySortLaw" 45 y_X_run ∈ lw_tbl := List.mem_of_getElem? (i := 315) rfl
set_option maxRecDepth 100000 in
theorem tl_522 : Cond.instanceMethod y_X_run ∈ lw_tbl := List.mem_of_getElem? (i := 316) rfl
set_option maxRecDepth 100000 in
theorem tl_523 : Cond.selects "ClassifySort" y_X_run y_X_run ∈ lw_tbl := List.mem_of_getElem? (i := 317) rfl
set_option maxRecDepth 100000 in
theorem tl_524 : Cond.code y_M_run prog_7_method_30_code 2 (some .int) ∈ lw_tbl := List.mem_of_getElem? (i := 635) rfl
set_option maxRecDepth 100000 in
theorem tl_525 : Cond.methodLink "ClassifySortLaw" 48 y_M_run ∈ lw_tbl := List.mem_of_getElem? (i := 632) rfl
set_option maxRecDepth 100000 in
theorem tl_526 : Cond.instanceMethod y_M_run ∈ lw_tbl := List.mem_of_getElem? (i := 633) rfl
set_option maxRecDepth 100000 in
theorem tl_527 : Cond.selects "ClassifySortModel" y_M_run y_M_run ∈ lw_tbl := List.mem_of_getElem? (i := 634) rfl
set_option maxRecDepth 100000 in
theorem tl_528 : Cond.code y_X_parent prog_1_method_10_code 4 (some .int) ∈ lw_tbl := List.mem_of_getElem? (i := 370) rfl
set_option maxRecDepth 100000 in
theorem tl_529 : Cond.methodLink "ClassifySortLaw" 49 y_X_parent ∈ lw_tbl := List.mem_of_getElem? (i := 367) rfl
set_option maxRecDepth 100000 in
theorem tl_530 : Cond.instanceMethod y_X_parent ∈ lw_tbl := List.mem_of_getElem? (i := 368) rfl
set_option maxRecDepth 100000 in
theorem tl_531 : Cond.selects "ClassifySort" y_X_parent y_X_parent ∈ lw_tbl := List.mem_of_getElem? (i := 369) rfl
set_option maxRecDepth 100000 in
theorem tl_532 : Cond.code y_M_parent prog_7_method_33_code 6 (some .int) ∈ lw_tbl := List.mem_of_getElem? (i := 659) rfl
set_option maxRecDepth 100000 in
theorem tl_533 : Cond.methodLink "ClassifySortLaw" 52 y_M_parent ∈ lw_tbl := List.mem_of_getElem? (i := 656) rfl
set_option maxRecDepth 100000 in
theorem tl_534 : Cond.instanceMethod y_M_parent ∈ lw_tbl := List.mem_of_getElem? (i := 657) rfl
set_option maxRecDepth 100000 in
theorem tl_535 : Cond.selects "ClassifySortModel" y_M_parent y_M_parent ∈ lw_tbl := List.mem_of_getElem? (i := 658) rfl
set_option maxRecDepth 100000 in
theorem tl_536 : Cond.code y_X_child prog_1_method_11_code 4 (some .int) ∈ lw_tbl := List.mem_of_getElem? (i := 406) rfl
set_option maxRecDepth 100000 in
theorem tl_537 : Cond.methodLink "ClassifySortLaw" 53 y_X_child ∈ lw_tbl := List.mem_of_getElem? (i := 403) rfl
set_option maxRecDepth 100000 in
theorem tl_538 : Cond.instanceMethod y_X_child ∈ lw_tbl := List.mem_of_getElem? (i := 404) rfl
set_option maxRecDepth 100000 in
theorem tl_539 : Cond.selects "ClassifySort" y_X_child y_X_child ∈ lw_tbl := List.mem_of_getElem? (i := 405) rfl
set_option maxRecDepth 100000 in
theorem tl_540 : Cond.code y_M_child prog_7_method_34_code 6 (some .int) ∈ lw_tbl := List.mem_of_getElem? (i := 671) rfl
set_option maxRecDepth 100000 in
theorem tl_541 : Cond.methodLink "ClassifySortLaw" 56 y_M_child ∈ lw_tbl := List.mem_of_getElem? (i := 668) rfl
set_option maxRecDepth 100000 in
theorem tl_542 : Cond.instanceMethod y_M_child ∈ lw_tbl := List.mem_of_getElem? (i := 669) rfl
set_option maxRecDepth 100000 in
theorem tl_543 : Cond.selects "ClassifySortModel" y_M_child y_M_child ∈ lw_tbl := List.mem_of_getElem? (i := 670) rfl
set_option maxRecDepth 100000 in
theorem tl_544 : Cond.code y_X_equal prog_1_method_12_code 3 (some .int) ∈ lw_tbl := List.mem_of_getElem? (i := 411) rfl
set_option maxRecDepth 100000 in
theorem tl_545 : Cond.methodLink "ClassifySortLaw" 57 y_X_equal ∈ lw_tbl := List.mem_of_getElem? (i := 408) rfl
set_option maxRecDepth 100000 in
theorem tl_546 : Cond.instanceMethod y_X_equal ∈ lw_tbl := List.mem_of_getElem? (i := 409) rfl
set_option maxRecDepth 100000 in
theorem tl_547 : Cond.selects "ClassifySort" y_X_equal y_X_equal ∈ lw_tbl := List.mem_of_getElem? (i := 410) rfl
set_option maxRecDepth 100000 in
theorem tl_548 : Cond.code y_M_equal prog_7_method_35_code 6 (some .int) ∈ lw_tbl := List.mem_of_getElem? (i := 675) rfl
set_option maxRecDepth 100000 in
theorem tl_549 : Cond.methodLink "ClassifySortLaw" 60 y_M_equal ∈ lw_tbl := List.mem_of_getElem? (i := 672) rfl
set_option maxRecDepth 100000 in
theorem tl_550 : Cond.instanceMethod y_M_equal ∈ lw_tbl := List.mem_of_getElem? (i := 673) rfl
set_option maxRecDepth 100000 in
theorem tl_551 : Cond.selects "ClassifySortModel" y_M_equal y_M_equal ∈ lw_tbl := List.mem_of_getElem? (i := 674) rfl
set_option maxRecDepth 100000 in
theorem tl_552 : Cond.code y_X_empty prog_1_method_13_code 2 (some .int) ∈ lw_tbl := List.mem_of_getElem? (i := 416) rfl
set_option maxRecDepth 100000 in
theorem tl_553 : Cond.methodLink "ClassifySortLaw" 61 y_X_empty ∈ lw_tbl := List.mem_of_getElem? (i := 413) rfl
set_option maxRecDepth 100000 in
theorem tl_554 : Cond.instanceMethod y_X_empty ∈ lw_tbl := List.mem_of_getElem? (i := 414) rfl
set_option maxRecDepth 100000 in
theorem tl_555 : Cond.selects "ClassifySort" y_X_empty y_X_empty ∈ lw_tbl := List.mem_of_getElem? (i := 415) rfl
set_option maxRecDepth 100000 in
theorem tl_556 : Cond.code y_M_empty prog_7_method_36_code 4 (some .int) ∈ lw_tbl := List.mem_of_getElem? (i := 679) rfl
set_option maxRecDepth 100000 in
theorem tl_557 : Cond.methodLink "ClassifySortLaw" 64 y_M_empty ∈ lw_tbl := List.mem_of_getElem? (i := 676) rfl
set_option maxRecDepth 100000 in
theorem tl_558 : Cond.instanceMethod y_M_empty ∈ lw_tbl := List.mem_of_getElem? (i := 677) rfl
set_option maxRecDepth 100000 in
theorem tl_559 : Cond.selects "ClassifySortModel" y_M_empty y_M_empty ∈ lw_tbl := List.mem_of_getElem? (i := 678) rfl
set_option maxRecDepth 100000 in
theorem tl_560 : Cond.code y_X_open prog_1_method_14_code 6 (some .int) ∈ lw_tbl := List.mem_of_getElem? (i := 424) rfl
set_option maxRecDepth 100000 in
theorem tl_561 : Cond.methodLink "ClassifySortLaw" 65 y_X_open ∈ lw_tbl := List.mem_of_getElem? (i := 421) rfl
set_option maxRecDepth 100000 in
theorem tl_562 : Cond.instanceMethod y_X_open ∈ lw_tbl := List.mem_of_getElem? (i := 422) rfl
set_option maxRecDepth 100000 in
theorem tl_563 : Cond.selects "ClassifySort" y_X_open y_X_open ∈ lw_tbl := List.mem_of_getElem? (i := 423) rfl
set_option maxRecDepth 100000 in
theorem tl_564 : Cond.code y_M_open prog_7_method_37_code 5 (some .int) ∈ lw_tbl := List.mem_of_getElem? (i := 683) rfl
set_option maxRecDepth 100000 in
theorem tl_565 : Cond.methodLink "ClassifySortLaw" 68 y_M_open ∈ lw_tbl := List.mem_of_getElem? (i := 680) rfl
set_option maxRecDepth 100000 in
theorem tl_566 : Cond.instanceMethod y_M_open ∈ lw_tbl := List.mem_of_getElem? (i := 681) rfl
set_option maxRecDepth 100000 in
theorem tl_567 : Cond.selects "ClassifySortModel" y_M_open y_M_open ∈ lw_tbl := List.mem_of_getElem? (i := 682) rfl
set_option maxRecDepth 100000 in
theorem tl_568 : Cond.code y_X_put prog_1_method_15_code 3 (some .int) ∈ lw_tbl := List.mem_of_getElem? (i := 432) rfl
set_option maxRecDepth 100000 in
theorem tl_569 : Cond.methodLink "ClassifySortLaw" 69 y_X_put ∈ lw_tbl := List.mem_of_getElem? (i := 429) rfl
set_option maxRecDepth 100000 in
theorem tl_570 : Cond.instanceMethod y_X_put ∈ lw_tbl := List.mem_of_getElem? (i := 430) rfl
set_option maxRecDepth 100000 in
theorem tl_571 : Cond.selects "ClassifySort" y_X_put y_X_put ∈ lw_tbl := List.mem_of_getElem? (i := 431) rfl
set_option maxRecDepth 100000 in
theorem tl_572 : Cond.code y_M_put prog_7_method_38_code 4 (some .int) ∈ lw_tbl := List.mem_of_getElem? (i := 687) rfl
set_option maxRecDepth 100000 in
theorem tl_573 : Cond.methodLink "ClassifySortLaw" 72 y_M_put ∈ lw_tbl := List.mem_of_getElem? (i := 684) rfl
set_option maxRecDepth 100000 in
theorem tl_574 : Cond.instanceMethod y_M_put ∈ lw_tbl := List.mem_of_getElem? (i := 685) rfl
set_option maxRecDepth 100000 in
theorem tl_575 : Cond.selects "ClassifySortModel" y_M_put y_M_put ∈ lw_tbl := List.mem_of_getElem? (i := 686) rfl
set_option maxRecDepth 100000 in
theorem tl_576 : Cond.code y_X_type prog_1_method_16_code 3 (some .int) ∈ lw_tbl := List.mem_of_getElem? (i := 440) rfl
set_option maxRecDepth 100000 in
theorem tl_577 : Cond.methodLink "ClassifySortLaw" 73 y_X_type ∈ lw_tbl := List.mem_of_getElem? (i := 437) rfl
set_option maxRecDepth 100000 in
theorem tl_578 : Cond.instanceMethod y_X_type ∈ lw_tbl := List.mem_of_getElem? (i := 438) rfl
set_option maxRecDepth 100000 in
theorem tl_579 : Cond.selects "ClassifySort" y_X_type y_X_type ∈ lw_tbl := List.mem_of_getElem? (i := 439) rfl
set_option maxRecDepth 100000 in
theorem tl_580 : Cond.code y_M_type prog_7_method_40_code 7 (some .int) ∈ lw_tbl := List.mem_of_getElem? (i := 691) rfl
set_option maxRecDepth 100000 in
theorem tl_581 : Cond.methodLink "ClassifySortLaw" 76 y_M_type ∈ lw_tbl := List.mem_of_getElem? (i := 688) rfl
set_option maxRecDepth 100000 in
theorem tl_582 : Cond.instanceMethod y_M_type ∈ lw_tbl := List.mem_of_getElem? (i := 689) rfl
set_option maxRecDepth 100000 in
theorem tl_583 : Cond.selects "ClassifySortModel" y_M_type y_M_type ∈ lw_tbl := List.mem_of_getElem? (i := 690) rfl
set_option maxRecDepth 100000 in
theorem tl_584 : Cond.code y_X_trace prog_1_method_17_code 5 (some .int) ∈ lw_tbl := List.mem_of_getElem? (i := 449) rfl
set_option maxRecDepth 100000 in
theorem tl_585 : Cond.methodLink "ClassifySortLaw" 77 y_X_trace ∈ lw_tbl := List.mem_of_getElem? (i := 446) rfl
set_option maxRecDepth 100000 in
theorem tl_586 : Cond.instanceMethod y_X_trace ∈ lw_tbl := List.mem_of_getElem? (i := 447) rfl
set_option maxRecDepth 100000 in
theorem tl_587 : Cond.selects "ClassifySort" y_X_trace y_X_trace ∈ lw_tbl := List.mem_of_getElem? (i := 448) rfl
set_option maxRecDepth 100000 in
theorem tl_588 : Cond.code y_M_trace prog_7_method_41_code 8 (some .int) ∈ lw_tbl := List.mem_of_getElem? (i := 703) rfl
set_option maxRecDepth 100000 in
theorem tl_589 : Cond.methodLink "ClassifySortLaw" 80 y_M_trace ∈ lw_tbl := List.mem_of_getElem? (i := 700) rfl
set_option maxRecDepth 100000 in
theorem tl_590 : Cond.instanceMethod y_M_trace ∈ lw_tbl := List.mem_of_getElem? (i := 701) rfl
set_option maxRecDepth 100000 in
theorem tl_591 : Cond.selects "ClassifySortModel" y_M_trace y_M_trace ∈ lw_tbl := List.mem_of_getElem? (i := 702) rfl
set_option maxRecDepth 100000 in
theorem tl_592 : Cond.code y_X_count prog_1_method_18_code 2 (some .int) ∈ lw_tbl := List.mem_of_getElem? (i := 463) rfl
set_option maxRecDepth 100000 in
theorem tl_593 : Cond.methodLink "ClassifySortLaw" 81 y_X_count ∈ lw_tbl := List.mem_of_getElem? (i := 460) rfl
set_option maxRecDepth 100000 in
theorem tl_594 : Cond.instanceMethod y_X_count ∈ lw_tbl := List.mem_of_getElem? (i := 461) rfl
set_option maxRecDepth 100000 in
theorem tl_595 : Cond.selects "ClassifySort" y_X_count y_X_count ∈ lw_tbl := List.mem_of_getElem? (i := 462) rfl
set_option maxRecDepth 100000 in
theorem tl_596 : Cond.code y_M_count prog_7_method_42_code 4 (some .int) ∈ lw_tbl := List.mem_of_getElem? (i := 707) rfl
set_option maxRecDepth 100000 in
theorem tl_597 : Cond.methodLink "ClassifySortLaw" 84 y_M_count ∈ lw_tbl := List.mem_of_getElem? (i := 704) rfl
set_option maxRecDepth 100000 in
theorem tl_598 : Cond.instanceMethod y_M_count ∈ lw_tbl := List.mem_of_getElem? (i := 705) rfl
set_option maxRecDepth 100000 in
theorem tl_599 : Cond.selects "ClassifySortModel" y_M_count y_M_count ∈ lw_tbl := List.mem_of_getElem? (i := 706) rfl
set_option maxRecDepth 100000 in
theorem tl_600 : Cond.classLink "ClassifySortLaw" 7 "ClassifySort" ∈ lw_tbl := List.mem_of_getElem? (i := 41) rfl
set_option maxRecDepth 100000 in
theorem tl_601 : Cond.instantiable "ClassifySort" 9 ∈ lw_tbl := List.mem_of_getElem? (i := 42) rfl
set_option maxRecDepth 100000 in
theorem tl_602 : Cond.code y_X_init prog_1_method_1_code 1 none ∈ lw_tbl := List.mem_of_getElem? (i := 45) rfl
set_option maxRecDepth 100000 in
theorem tl_603 : Cond.methodLink "ClassifySortLaw" 9 y_X_init ∈ lw_tbl := List.mem_of_getElem? (i := 43) rfl
set_option maxRecDepth 100000 in
theorem tl_604 : Cond.instanceMethod y_X_init ∈ lw_tbl := List.mem_of_getElem? (i := 44) rfl
set_option maxRecDepth 100000 in
theorem tl_605 : Cond.classLink "ClassifySortLaw" 10 "ClassifySortModel" ∈ lw_tbl := List.mem_of_getElem? (i := 472) rfl
set_option maxRecDepth 100000 in
theorem tl_606 : Cond.instantiable "ClassifySortModel" 23 ∈ lw_tbl := List.mem_of_getElem? (i := 473) rfl
set_option maxRecDepth 100000 in
theorem tl_607 : Cond.code y_M_init prog_7_method_1_code 2 none ∈ lw_tbl := List.mem_of_getElem? (i := 476) rfl
set_option maxRecDepth 100000 in
theorem tl_608 : Cond.methodLink "ClassifySortLaw" 12 y_M_init ∈ lw_tbl := List.mem_of_getElem? (i := 474) rfl
set_option maxRecDepth 100000 in
theorem tl_609 : Cond.instanceMethod y_M_init ∈ lw_tbl := List.mem_of_getElem? (i := 475) rfl
theorem tc_31 : ∀ w ∈ ([] : List Cond), w ∈ lw_tbl := fun _ h => absurd h List.not_mem_nil
set_option maxRecDepth 100000 in
theorem tc_30 : ∀ w ∈ TsG.drop 600, w ∈ lw_tbl := List.forall_mem_cons.mpr ⟨tl_600, List.forall_mem_cons.mpr ⟨tl_601, List.forall_mem_cons.mpr ⟨tl_602, List.forall_mem_cons.mpr ⟨tl_603, List.forall_mem_cons.mpr ⟨tl_604, List.forall_mem_cons.mpr ⟨tl_605, List.forall_mem_cons.mpr ⟨tl_606, List.forall_mem_cons.mpr ⟨tl_607, List.forall_mem_cons.mpr ⟨tl_608, List.forall_mem_cons.mpr ⟨tl_609, tc_31⟩⟩⟩⟩⟩⟩⟩⟩⟩⟩
set_option maxRecDepth 100000 in
theorem tc_29 : ∀ w ∈ TsG.drop 580, w ∈ lw_tbl := List.forall_mem_cons.mpr ⟨tl_580, List.forall_mem_cons.mpr ⟨tl_581, List.forall_mem_cons.mpr ⟨tl_582, List.forall_mem_cons.mpr ⟨tl_583, List.forall_mem_cons.mpr ⟨tl_584, List.forall_mem_cons.mpr ⟨tl_585, List.forall_mem_cons.mpr ⟨tl_586, List.forall_mem_cons.mpr ⟨tl_587, List.forall_mem_cons.mpr ⟨tl_588, List.forall_mem_cons.mpr ⟨tl_589, List.forall_mem_cons.mpr ⟨tl_590, List.forall_mem_cons.mpr ⟨tl_591, List.forall_mem_cons.mpr ⟨tl_592, List.forall_mem_cons.mpr ⟨tl_593, List.forall_mem_cons.mpr ⟨tl_594, List.forall_mem_cons.mpr ⟨tl_595, List.forall_mem_cons.mpr ⟨tl_596, List.forall_mem_cons.mpr ⟨tl_597, List.forall_mem_cons.mpr ⟨tl_598, List.forall_mem_cons.mpr ⟨tl_599, tc_30⟩⟩⟩⟩⟩⟩⟩⟩⟩⟩⟩⟩⟩⟩⟩⟩⟩⟩⟩⟩
set_option maxRecDepth 100000 in
theorem tc_28 : ∀ w ∈ TsG.drop 560, w ∈ lw_tbl := List.forall_mem_cons.mpr ⟨tl_560, List.forall_mem_cons.mpr ⟨tl_561, List.forall_mem_cons.mpr ⟨tl_562, List.forall_mem_cons.mpr ⟨tl_563, List.forall_mem_cons.mpr ⟨tl_564, List.forall_mem_cons.mpr ⟨tl_565, List.forall_mem_cons.mpr ⟨tl_566, List.forall_mem_cons.mpr ⟨tl_567, List.forall_mem_cons.mpr ⟨tl_568, List.forall_mem_cons.mpr ⟨tl_569, List.forall_mem_cons.mpr ⟨tl_570, List.forall_mem_cons.mpr ⟨tl_571, List.forall_mem_cons.mpr ⟨tl_572, List.forall_mem_cons.mpr ⟨tl_573, List.forall_mem_cons.mpr ⟨tl_574, List.forall_mem_cons.mpr ⟨tl_575, List.forall_mem_cons.mpr ⟨tl_576, List.forall_mem_cons.mpr ⟨tl_577, List.forall_mem_cons.mpr ⟨tl_578, List.forall_mem_cons.mpr ⟨tl_579, tc_29⟩⟩⟩⟩⟩⟩⟩⟩⟩⟩⟩⟩⟩⟩⟩⟩⟩⟩⟩⟩
set_option maxRecDepth 100000 in
theorem tc_27 : ∀ w ∈ TsG.drop 540, w ∈ lw_tbl := List.forall_mem_cons.mpr ⟨tl_540, List.forall_mem_cons.mpr ⟨tl_541, List.forall_mem_cons.mpr ⟨tl_542, List.forall_mem_cons.mpr ⟨tl_543, List.forall_mem_cons.mpr ⟨tl_544, List.forall_mem_cons.mpr ⟨tl_545, List.forall_mem_cons.mpr ⟨tl_546, List.forall_mem_cons.mpr ⟨tl_547, List.forall_mem_cons.mpr ⟨tl_548, List.forall_mem_cons.mpr ⟨tl_549, List.forall_mem_cons.mpr ⟨tl_550, List.forall_mem_cons.mpr ⟨tl_551, List.forall_mem_cons.mpr ⟨tl_552, List.forall_mem_cons.mpr ⟨tl_553, List.forall_mem_cons.mpr ⟨tl_554, List.forall_mem_cons.mpr ⟨tl_555, List.forall_mem_cons.mpr ⟨tl_556, List.forall_mem_cons.mpr ⟨tl_557, List.forall_mem_cons.mpr ⟨tl_558, List.forall_mem_cons.mpr ⟨tl_559, tc_28⟩⟩⟩⟩⟩⟩⟩⟩⟩⟩⟩⟩⟩⟩⟩⟩⟩⟩⟩⟩
set_option maxRecDepth 100000 in
theorem tc_26 : ∀ w ∈ TsG.drop 520, w ∈ lw_tbl := List.forall_mem_cons.mpr ⟨tl_520, List.forall_mem_cons.mpr ⟨tl_521, List.forall_mem_cons.mpr ⟨tl_522, List.forall_mem_cons.mpr ⟨tl_523, List.forall_mem_cons.mpr ⟨tl_524, List.forall_mem_cons.mpr ⟨tl_525, List.forall_mem_cons.mpr ⟨tl_526, List.forall_mem_cons.mpr ⟨tl_527, List.forall_mem_cons.mpr ⟨tl_528, List.forall_mem_cons.mpr ⟨tl_529, List.forall_mem_cons.mpr ⟨tl_530, List.forall_mem_cons.mpr ⟨tl_531, List.forall_mem_cons.mpr ⟨tl_532, List.forall_mem_cons.mpr ⟨tl_533, List.forall_mem_cons.mpr ⟨tl_534, List.forall_mem_cons.mpr ⟨tl_535, List.forall_mem_cons.mpr ⟨tl_536, List.forall_mem_cons.mpr ⟨tl_537, List.forall_mem_cons.mpr ⟨tl_538, List.forall_mem_cons.mpr ⟨tl_539, tc_27⟩⟩⟩⟩⟩⟩⟩⟩⟩⟩⟩⟩⟩⟩⟩⟩⟩⟩⟩⟩
set_option maxRecDepth 100000 in
theorem tc_25 : ∀ w ∈ TsG.drop 500, w ∈ lw_tbl := List.forall_mem_cons.mpr ⟨tl_500, List.forall_mem_cons.mpr ⟨tl_501, List.forall_mem_cons.mpr ⟨tl_502, List.forall_mem_cons.mpr ⟨tl_503, List.forall_mem_cons.mpr ⟨tl_504, List.forall_mem_cons.mpr ⟨tl_505, List.forall_mem_cons.mpr ⟨tl_506, List.forall_mem_cons.mpr ⟨tl_507, List.forall_mem_cons.mpr ⟨tl_508, List.forall_mem_cons.mpr ⟨tl_509, List.forall_mem_cons.mpr ⟨tl_510, List.forall_mem_cons.mpr ⟨tl_511, List.forall_mem_cons.mpr ⟨tl_512, List.forall_mem_cons.mpr ⟨tl_513, List.forall_mem_cons.mpr ⟨tl_514, List.forall_mem_cons.mpr ⟨tl_515, List.forall_mem_cons.mpr ⟨tl_516, List.forall_mem_cons.mpr ⟨tl_517, List.forall_mem_cons.mpr ⟨tl_518, List.forall_mem_cons.mpr ⟨tl_519, tc_26⟩⟩⟩⟩⟩⟩⟩⟩⟩⟩⟩⟩⟩⟩⟩⟩⟩⟩⟩⟩
set_option maxRecDepth 100000 in
theorem tc_24 : ∀ w ∈ TsG.drop 480, w ∈ lw_tbl := List.forall_mem_cons.mpr ⟨tl_480, List.forall_mem_cons.mpr ⟨tl_481, List.forall_mem_cons.mpr ⟨tl_482, List.forall_mem_cons.mpr ⟨tl_483, List.forall_mem_cons.mpr ⟨tl_484, List.forall_mem_cons.mpr ⟨tl_485, List.forall_mem_cons.mpr ⟨tl_486, List.forall_mem_cons.mpr ⟨tl_487, List.forall_mem_cons.mpr ⟨tl_488, List.forall_mem_cons.mpr ⟨tl_489, List.forall_mem_cons.mpr ⟨tl_490, List.forall_mem_cons.mpr ⟨tl_491, List.forall_mem_cons.mpr ⟨tl_492, List.forall_mem_cons.mpr ⟨tl_493, List.forall_mem_cons.mpr ⟨tl_494, List.forall_mem_cons.mpr ⟨tl_495, List.forall_mem_cons.mpr ⟨tl_496, List.forall_mem_cons.mpr ⟨tl_497, List.forall_mem_cons.mpr ⟨tl_498, List.forall_mem_cons.mpr ⟨tl_499, tc_25⟩⟩⟩⟩⟩⟩⟩⟩⟩⟩⟩⟩⟩⟩⟩⟩⟩⟩⟩⟩
set_option maxRecDepth 100000 in
theorem tc_23 : ∀ w ∈ TsG.drop 460, w ∈ lw_tbl := List.forall_mem_cons.mpr ⟨tl_460, List.forall_mem_cons.mpr ⟨tl_461, List.forall_mem_cons.mpr ⟨tl_462, List.forall_mem_cons.mpr ⟨tl_463, List.forall_mem_cons.mpr ⟨tl_464, List.forall_mem_cons.mpr ⟨tl_465, List.forall_mem_cons.mpr ⟨tl_466, List.forall_mem_cons.mpr ⟨tl_467, List.forall_mem_cons.mpr ⟨tl_468, List.forall_mem_cons.mpr ⟨tl_469, List.forall_mem_cons.mpr ⟨tl_470, List.forall_mem_cons.mpr ⟨tl_471, List.forall_mem_cons.mpr ⟨tl_472, List.forall_mem_cons.mpr ⟨tl_473, List.forall_mem_cons.mpr ⟨tl_474, List.forall_mem_cons.mpr ⟨tl_475, List.forall_mem_cons.mpr ⟨tl_476, List.forall_mem_cons.mpr ⟨tl_477, List.forall_mem_cons.mpr ⟨tl_478, List.forall_mem_cons.mpr ⟨tl_479, tc_24⟩⟩⟩⟩⟩⟩⟩⟩⟩⟩⟩⟩⟩⟩⟩⟩⟩⟩⟩⟩
set_option maxRecDepth 100000 in
theorem tc_22 : ∀ w ∈ TsG.drop 440, w ∈ lw_tbl := List.forall_mem_cons.mpr ⟨tl_440, List.forall_mem_cons.mpr ⟨tl_441, List.forall_mem_cons.mpr ⟨tl_442, List.forall_mem_cons.mpr ⟨tl_443, List.forall_mem_cons.mpr ⟨tl_444, List.forall_mem_cons.mpr ⟨tl_445, List.forall_mem_cons.mpr ⟨tl_446, List.forall_mem_cons.mpr ⟨tl_447, List.forall_mem_cons.mpr ⟨tl_448, List.forall_mem_cons.mpr ⟨tl_449, List.forall_mem_cons.mpr ⟨tl_450, List.forall_mem_cons.mpr ⟨tl_451, List.forall_mem_cons.mpr ⟨tl_452, List.forall_mem_cons.mpr ⟨tl_453, List.forall_mem_cons.mpr ⟨tl_454, List.forall_mem_cons.mpr ⟨tl_455, List.forall_mem_cons.mpr ⟨tl_456, List.forall_mem_cons.mpr ⟨tl_457, List.forall_mem_cons.mpr ⟨tl_458, List.forall_mem_cons.mpr ⟨tl_459, tc_23⟩⟩⟩⟩⟩⟩⟩⟩⟩⟩⟩⟩⟩⟩⟩⟩⟩⟩⟩⟩
set_option maxRecDepth 100000 in
theorem tc_21 : ∀ w ∈ TsG.drop 420, w ∈ lw_tbl := List.forall_mem_cons.mpr ⟨tl_420, List.forall_mem_cons.mpr ⟨tl_421, List.forall_mem_cons.mpr ⟨tl_422, List.forall_mem_cons.mpr ⟨tl_423, List.forall_mem_cons.mpr ⟨tl_424, List.forall_mem_cons.mpr ⟨tl_425, List.forall_mem_cons.mpr ⟨tl_426, List.forall_mem_cons.mpr ⟨tl_427, List.forall_mem_cons.mpr ⟨tl_428, List.forall_mem_cons.mpr ⟨tl_429, List.forall_mem_cons.mpr ⟨tl_430, List.forall_mem_cons.mpr ⟨tl_431, List.forall_mem_cons.mpr ⟨tl_432, List.forall_mem_cons.mpr ⟨tl_433, List.forall_mem_cons.mpr ⟨tl_434, List.forall_mem_cons.mpr ⟨tl_435, List.forall_mem_cons.mpr ⟨tl_436, List.forall_mem_cons.mpr ⟨tl_437, List.forall_mem_cons.mpr ⟨tl_438, List.forall_mem_cons.mpr ⟨tl_439, tc_22⟩⟩⟩⟩⟩⟩⟩⟩⟩⟩⟩⟩⟩⟩⟩⟩⟩⟩⟩⟩
set_option maxRecDepth 100000 in
theorem tc_20 : ∀ w ∈ TsG.drop 400, w ∈ lw_tbl := List.forall_mem_cons.mpr ⟨tl_400, List.forall_mem_cons.mpr ⟨tl_401, List.forall_mem_cons.mpr ⟨tl_402, List.forall_mem_cons.mpr ⟨tl_403, List.forall_mem_cons.mpr ⟨tl_404, List.forall_mem_cons.mpr ⟨tl_405, List.forall_mem_cons.mpr ⟨tl_406, List.forall_mem_cons.mpr ⟨tl_407, List.forall_mem_cons.mpr ⟨tl_408, List.forall_mem_cons.mpr ⟨tl_409, List.forall_mem_cons.mpr ⟨tl_410, List.forall_mem_cons.mpr ⟨tl_411, List.forall_mem_cons.mpr ⟨tl_412, List.forall_mem_cons.mpr ⟨tl_413, List.forall_mem_cons.mpr ⟨tl_414, List.forall_mem_cons.mpr ⟨tl_415, List.forall_mem_cons.mpr ⟨tl_416, List.forall_mem_cons.mpr ⟨tl_417, List.forall_mem_cons.mpr ⟨tl_418, List.forall_mem_cons.mpr ⟨tl_419, tc_21⟩⟩⟩⟩⟩⟩⟩⟩⟩⟩⟩⟩⟩⟩⟩⟩⟩⟩⟩⟩
set_option maxRecDepth 100000 in
theorem tc_19 : ∀ w ∈ TsG.drop 380, w ∈ lw_tbl := List.forall_mem_cons.mpr ⟨tl_380, List.forall_mem_cons.mpr ⟨tl_381, List.forall_mem_cons.mpr ⟨tl_382, List.forall_mem_cons.mpr ⟨tl_383, List.forall_mem_cons.mpr ⟨tl_384, List.forall_mem_cons.mpr ⟨tl_385, List.forall_mem_cons.mpr ⟨tl_386, List.forall_mem_cons.mpr ⟨tl_387, List.forall_mem_cons.mpr ⟨tl_388, List.forall_mem_cons.mpr ⟨tl_389, List.forall_mem_cons.mpr ⟨tl_390, List.forall_mem_cons.mpr ⟨tl_391, List.forall_mem_cons.mpr ⟨tl_392, List.forall_mem_cons.mpr ⟨tl_393, List.forall_mem_cons.mpr ⟨tl_394, List.forall_mem_cons.mpr ⟨tl_395, List.forall_mem_cons.mpr ⟨tl_396, List.forall_mem_cons.mpr ⟨tl_397, List.forall_mem_cons.mpr ⟨tl_398, List.forall_mem_cons.mpr ⟨tl_399, tc_20⟩⟩⟩⟩⟩⟩⟩⟩⟩⟩⟩⟩⟩⟩⟩⟩⟩⟩⟩⟩
set_option maxRecDepth 100000 in
theorem tc_18 : ∀ w ∈ TsG.drop 360, w ∈ lw_tbl := List.forall_mem_cons.mpr ⟨tl_360, List.forall_mem_cons.mpr ⟨tl_361, List.forall_mem_cons.mpr ⟨tl_362, List.forall_mem_cons.mpr ⟨tl_363, List.forall_mem_cons.mpr ⟨tl_364, List.forall_mem_cons.mpr ⟨tl_365, List.forall_mem_cons.mpr ⟨tl_366, List.forall_mem_cons.mpr ⟨tl_367, List.forall_mem_cons.mpr ⟨tl_368, List.forall_mem_cons.mpr ⟨tl_369, List.forall_mem_cons.mpr ⟨tl_370, List.forall_mem_cons.mpr ⟨tl_371, List.forall_mem_cons.mpr ⟨tl_372, List.forall_mem_cons.mpr ⟨tl_373, List.forall_mem_cons.mpr ⟨tl_374, List.forall_mem_cons.mpr ⟨tl_375, List.forall_mem_cons.mpr ⟨tl_376, List.forall_mem_cons.mpr ⟨tl_377, List.forall_mem_cons.mpr ⟨tl_378, List.forall_mem_cons.mpr ⟨tl_379, tc_19⟩⟩⟩⟩⟩⟩⟩⟩⟩⟩⟩⟩⟩⟩⟩⟩⟩⟩⟩⟩
set_option maxRecDepth 100000 in
theorem tc_17 : ∀ w ∈ TsG.drop 340, w ∈ lw_tbl := List.forall_mem_cons.mpr ⟨tl_340, List.forall_mem_cons.mpr ⟨tl_341, List.forall_mem_cons.mpr ⟨tl_342, List.forall_mem_cons.mpr ⟨tl_343, List.forall_mem_cons.mpr ⟨tl_344, List.forall_mem_cons.mpr ⟨tl_345, List.forall_mem_cons.mpr ⟨tl_346, List.forall_mem_cons.mpr ⟨tl_347, List.forall_mem_cons.mpr ⟨tl_348, List.forall_mem_cons.mpr ⟨tl_349, List.forall_mem_cons.mpr ⟨tl_350, List.forall_mem_cons.mpr ⟨tl_351, List.forall_mem_cons.mpr ⟨tl_352, List.forall_mem_cons.mpr ⟨tl_353, List.forall_mem_cons.mpr ⟨tl_354, List.forall_mem_cons.mpr ⟨tl_355, List.forall_mem_cons.mpr ⟨tl_356, List.forall_mem_cons.mpr ⟨tl_357, List.forall_mem_cons.mpr ⟨tl_358, List.forall_mem_cons.mpr ⟨tl_359, tc_18⟩⟩⟩⟩⟩⟩⟩⟩⟩⟩⟩⟩⟩⟩⟩⟩⟩⟩⟩⟩
set_option maxRecDepth 100000 in
theorem tc_16 : ∀ w ∈ TsG.drop 320, w ∈ lw_tbl := List.forall_mem_cons.mpr ⟨tl_320, List.forall_mem_cons.mpr ⟨tl_321, List.forall_mem_cons.mpr ⟨tl_322, List.forall_mem_cons.mpr ⟨tl_323, List.forall_mem_cons.mpr ⟨tl_324, List.forall_mem_cons.mpr ⟨tl_325, List.forall_mem_cons.mpr ⟨tl_326, List.forall_mem_cons.mpr ⟨tl_327, List.forall_mem_cons.mpr ⟨tl_328, List.forall_mem_cons.mpr ⟨tl_329, List.forall_mem_cons.mpr ⟨tl_330, List.forall_mem_cons.mpr ⟨tl_331, List.forall_mem_cons.mpr ⟨tl_332, List.forall_mem_cons.mpr ⟨tl_333, List.forall_mem_cons.mpr ⟨tl_334, List.forall_mem_cons.mpr ⟨tl_335, List.forall_mem_cons.mpr ⟨tl_336, List.forall_mem_cons.mpr ⟨tl_337, List.forall_mem_cons.mpr ⟨tl_338, List.forall_mem_cons.mpr ⟨tl_339, tc_17⟩⟩⟩⟩⟩⟩⟩⟩⟩⟩⟩⟩⟩⟩⟩⟩⟩⟩⟩⟩
set_option maxRecDepth 100000 in
theorem tc_15 : ∀ w ∈ TsG.drop 300, w ∈ lw_tbl := List.forall_mem_cons.mpr ⟨tl_300, List.forall_mem_cons.mpr ⟨tl_301, List.forall_mem_cons.mpr ⟨tl_302, List.forall_mem_cons.mpr ⟨tl_303, List.forall_mem_cons.mpr ⟨tl_304, List.forall_mem_cons.mpr ⟨tl_305, List.forall_mem_cons.mpr ⟨tl_306, List.forall_mem_cons.mpr ⟨tl_307, List.forall_mem_cons.mpr ⟨tl_308, List.forall_mem_cons.mpr ⟨tl_309, List.forall_mem_cons.mpr ⟨tl_310, List.forall_mem_cons.mpr ⟨tl_311, List.forall_mem_cons.mpr ⟨tl_312, List.forall_mem_cons.mpr ⟨tl_313, List.forall_mem_cons.mpr ⟨tl_314, List.forall_mem_cons.mpr ⟨tl_315, List.forall_mem_cons.mpr ⟨tl_316, List.forall_mem_cons.mpr ⟨tl_317, List.forall_mem_cons.mpr ⟨tl_318, List.forall_mem_cons.mpr ⟨tl_319, tc_16⟩⟩⟩⟩⟩⟩⟩⟩⟩⟩⟩⟩⟩⟩⟩⟩⟩⟩⟩⟩
set_option maxRecDepth 100000 in
theorem tc_14 : ∀ w ∈ TsG.drop 280, w ∈ lw_tbl := List.forall_mem_cons.mpr ⟨tl_280, List.forall_mem_cons.mpr ⟨tl_281, List.forall_mem_cons.mpr ⟨tl_282, List.forall_mem_cons.mpr ⟨tl_283, List.forall_mem_cons.mpr ⟨tl_284, List.forall_mem_cons.mpr ⟨tl_285, List.forall_mem_cons.mpr ⟨tl_286, List.forall_mem_cons.mpr ⟨tl_287, List.forall_mem_cons.mpr ⟨tl_288, List.forall_mem_cons.mpr ⟨tl_289, List.forall_mem_cons.mpr ⟨tl_290, List.forall_mem_cons.mpr ⟨tl_291, List.forall_mem_cons.mpr ⟨tl_292, List.forall_mem_cons.mpr ⟨tl_293, List.forall_mem_cons.mpr ⟨tl_294, List.forall_mem_cons.mpr ⟨tl_295, List.forall_mem_cons.mpr ⟨tl_296, List.forall_mem_cons.mpr ⟨tl_297, List.forall_mem_cons.mpr ⟨tl_298, List.forall_mem_cons.mpr ⟨tl_299, tc_15⟩⟩⟩⟩⟩⟩⟩⟩⟩⟩⟩⟩⟩⟩⟩⟩⟩⟩⟩⟩
set_option maxRecDepth 100000 in
theorem tc_13 : ∀ w ∈ TsG.drop 260, w ∈ lw_tbl := List.forall_mem_cons.mpr ⟨tl_260, List.forall_mem_cons.mpr ⟨tl_261, List.forall_mem_cons.mpr ⟨tl_262, List.forall_mem_cons.mpr ⟨tl_263, List.forall_mem_cons.mpr ⟨tl_264, List.forall_mem_cons.mpr ⟨tl_265, List.forall_mem_cons.mpr ⟨tl_266, List.forall_mem_cons.mpr ⟨tl_267, List.forall_mem_cons.mpr ⟨tl_268, List.forall_mem_cons.mpr ⟨tl_269, List.forall_mem_cons.mpr ⟨tl_270, List.forall_mem_cons.mpr ⟨tl_271, List.forall_mem_cons.mpr ⟨tl_272, List.forall_mem_cons.mpr ⟨tl_273, List.forall_mem_cons.mpr ⟨tl_274, List.forall_mem_cons.mpr ⟨tl_275, List.forall_mem_cons.mpr ⟨tl_276, List.forall_mem_cons.mpr ⟨tl_277, List.forall_mem_cons.mpr ⟨tl_278, List.forall_mem_cons.mpr ⟨tl_279, tc_14⟩⟩⟩⟩⟩⟩⟩⟩⟩⟩⟩⟩⟩⟩⟩⟩⟩⟩⟩⟩
set_option maxRecDepth 100000 in
theorem tc_12 : ∀ w ∈ TsG.drop 240, w ∈ lw_tbl := List.forall_mem_cons.mpr ⟨tl_240, List.forall_mem_cons.mpr ⟨tl_241, List.forall_mem_cons.mpr ⟨tl_242, List.forall_mem_cons.mpr ⟨tl_243, List.forall_mem_cons.mpr ⟨tl_244, List.forall_mem_cons.mpr ⟨tl_245, List.forall_mem_cons.mpr ⟨tl_246, List.forall_mem_cons.mpr ⟨tl_247, List.forall_mem_cons.mpr ⟨tl_248, List.forall_mem_cons.mpr ⟨tl_249, List.forall_mem_cons.mpr ⟨tl_250, List.forall_mem_cons.mpr ⟨tl_251, List.forall_mem_cons.mpr ⟨tl_252, List.forall_mem_cons.mpr ⟨tl_253, List.forall_mem_cons.mpr ⟨tl_254, List.forall_mem_cons.mpr ⟨tl_255, List.forall_mem_cons.mpr ⟨tl_256, List.forall_mem_cons.mpr ⟨tl_257, List.forall_mem_cons.mpr ⟨tl_258, List.forall_mem_cons.mpr ⟨tl_259, tc_13⟩⟩⟩⟩⟩⟩⟩⟩⟩⟩⟩⟩⟩⟩⟩⟩⟩⟩⟩⟩
set_option maxRecDepth 100000 in
theorem tc_11 : ∀ w ∈ TsG.drop 220, w ∈ lw_tbl := List.forall_mem_cons.mpr ⟨tl_220, List.forall_mem_cons.mpr ⟨tl_221, List.forall_mem_cons.mpr ⟨tl_222, List.forall_mem_cons.mpr ⟨tl_223, List.forall_mem_cons.mpr ⟨tl_224, List.forall_mem_cons.mpr ⟨tl_225, List.forall_mem_cons.mpr ⟨tl_226, List.forall_mem_cons.mpr ⟨tl_227, List.forall_mem_cons.mpr ⟨tl_228, List.forall_mem_cons.mpr ⟨tl_229, List.forall_mem_cons.mpr ⟨tl_230, List.forall_mem_cons.mpr ⟨tl_231, List.forall_mem_cons.mpr ⟨tl_232, List.forall_mem_cons.mpr ⟨tl_233, List.forall_mem_cons.mpr ⟨tl_234, List.forall_mem_cons.mpr ⟨tl_235, List.forall_mem_cons.mpr ⟨tl_236, List.forall_mem_cons.mpr ⟨tl_237, List.forall_mem_cons.mpr ⟨tl_238, List.forall_mem_cons.mpr ⟨tl_239, tc_12⟩⟩⟩⟩⟩⟩⟩⟩⟩⟩⟩⟩⟩⟩⟩⟩⟩⟩⟩⟩
set_option maxRecDepth 100000 in
theorem tc_10 : ∀ w ∈ TsG.drop 200, w ∈ lw_tbl := List.forall_mem_cons.mpr ⟨tl_200, List.forall_mem_cons.mpr ⟨tl_201, List.forall_mem_cons.mpr ⟨tl_202, List.forall_mem_cons.mpr ⟨tl_203, List.forall_mem_cons.mpr ⟨tl_204, List.forall_mem_cons.mpr ⟨tl_205, List.forall_mem_cons.mpr ⟨tl_206, List.forall_mem_cons.mpr ⟨tl_207, List.forall_mem_cons.mpr ⟨tl_208, List.forall_mem_cons.mpr ⟨tl_209, List.forall_mem_cons.mpr ⟨tl_210, List.forall_mem_cons.mpr ⟨tl_211, List.forall_mem_cons.mpr ⟨tl_212, List.forall_mem_cons.mpr ⟨tl_213, List.forall_mem_cons.mpr ⟨tl_214, List.forall_mem_cons.mpr ⟨tl_215, List.forall_mem_cons.mpr ⟨tl_216, List.forall_mem_cons.mpr ⟨tl_217, List.forall_mem_cons.mpr ⟨tl_218, List.forall_mem_cons.mpr ⟨tl_219, tc_11⟩⟩⟩⟩⟩⟩⟩⟩⟩⟩⟩⟩⟩⟩⟩⟩⟩⟩⟩⟩
set_option maxRecDepth 100000 in
theorem tc_9 : ∀ w ∈ TsG.drop 180, w ∈ lw_tbl := List.forall_mem_cons.mpr ⟨tl_180, List.forall_mem_cons.mpr ⟨tl_181, List.forall_mem_cons.mpr ⟨tl_182, List.forall_mem_cons.mpr ⟨tl_183, List.forall_mem_cons.mpr ⟨tl_184, List.forall_mem_cons.mpr ⟨tl_185, List.forall_mem_cons.mpr ⟨tl_186, List.forall_mem_cons.mpr ⟨tl_187, List.forall_mem_cons.mpr ⟨tl_188, List.forall_mem_cons.mpr ⟨tl_189, List.forall_mem_cons.mpr ⟨tl_190, List.forall_mem_cons.mpr ⟨tl_191, List.forall_mem_cons.mpr ⟨tl_192, List.forall_mem_cons.mpr ⟨tl_193, List.forall_mem_cons.mpr ⟨tl_194, List.forall_mem_cons.mpr ⟨tl_195, List.forall_mem_cons.mpr ⟨tl_196, List.forall_mem_cons.mpr ⟨tl_197, List.forall_mem_cons.mpr ⟨tl_198, List.forall_mem_cons.mpr ⟨tl_199, tc_10⟩⟩⟩⟩⟩⟩⟩⟩⟩⟩⟩⟩⟩⟩⟩⟩⟩⟩⟩⟩
set_option maxRecDepth 100000 in
theorem tc_8 : ∀ w ∈ TsG.drop 160, w ∈ lw_tbl := List.forall_mem_cons.mpr ⟨tl_160, List.forall_mem_cons.mpr ⟨tl_161, List.forall_mem_cons.mpr ⟨tl_162, List.forall_mem_cons.mpr ⟨tl_163, List.forall_mem_cons.mpr ⟨tl_164, List.forall_mem_cons.mpr ⟨tl_165, List.forall_mem_cons.mpr ⟨tl_166, List.forall_mem_cons.mpr ⟨tl_167, List.forall_mem_cons.mpr ⟨tl_168, List.forall_mem_cons.mpr ⟨tl_169, List.forall_mem_cons.mpr ⟨tl_170, List.forall_mem_cons.mpr ⟨tl_171, List.forall_mem_cons.mpr ⟨tl_172, List.forall_mem_cons.mpr ⟨tl_173, List.forall_mem_cons.mpr ⟨tl_174, List.forall_mem_cons.mpr ⟨tl_175, List.forall_mem_cons.mpr ⟨tl_176, List.forall_mem_cons.mpr ⟨tl_177, List.forall_mem_cons.mpr ⟨tl_178, List.forall_mem_cons.mpr ⟨tl_179, tc_9⟩⟩⟩⟩⟩⟩⟩⟩⟩⟩⟩⟩⟩⟩⟩⟩⟩⟩⟩⟩
set_option maxRecDepth 100000 in
theorem tc_7 : ∀ w ∈ TsG.drop 140, w ∈ lw_tbl := List.forall_mem_cons.mpr ⟨tl_140, List.forall_mem_cons.mpr ⟨tl_141, List.forall_mem_cons.mpr ⟨tl_142, List.forall_mem_cons.mpr ⟨tl_143, List.forall_mem_cons.mpr ⟨tl_144, List.forall_mem_cons.mpr ⟨tl_145, List.forall_mem_cons.mpr ⟨tl_146, List.forall_mem_cons.mpr ⟨tl_147, List.forall_mem_cons.mpr ⟨tl_148, List.forall_mem_cons.mpr ⟨tl_149, List.forall_mem_cons.mpr ⟨tl_150, List.forall_mem_cons.mpr ⟨tl_151, List.forall_mem_cons.mpr ⟨tl_152, List.forall_mem_cons.mpr ⟨tl_153, List.forall_mem_cons.mpr ⟨tl_154, List.forall_mem_cons.mpr ⟨tl_155, List.forall_mem_cons.mpr ⟨tl_156, List.forall_mem_cons.mpr ⟨tl_157, List.forall_mem_cons.mpr ⟨tl_158, List.forall_mem_cons.mpr ⟨tl_159, tc_8⟩⟩⟩⟩⟩⟩⟩⟩⟩⟩⟩⟩⟩⟩⟩⟩⟩⟩⟩⟩
set_option maxRecDepth 100000 in
theorem tc_6 : ∀ w ∈ TsG.drop 120, w ∈ lw_tbl := List.forall_mem_cons.mpr ⟨tl_120, List.forall_mem_cons.mpr ⟨tl_121, List.forall_mem_cons.mpr ⟨tl_122, List.forall_mem_cons.mpr ⟨tl_123, List.forall_mem_cons.mpr ⟨tl_124, List.forall_mem_cons.mpr ⟨tl_125, List.forall_mem_cons.mpr ⟨tl_126, List.forall_mem_cons.mpr ⟨tl_127, List.forall_mem_cons.mpr ⟨tl_128, List.forall_mem_cons.mpr ⟨tl_129, List.forall_mem_cons.mpr ⟨tl_130, List.forall_mem_cons.mpr ⟨tl_131, List.forall_mem_cons.mpr ⟨tl_132, List.forall_mem_cons.mpr ⟨tl_133, List.forall_mem_cons.mpr ⟨tl_134, List.forall_mem_cons.mpr ⟨tl_135, List.forall_mem_cons.mpr ⟨tl_136, List.forall_mem_cons.mpr ⟨tl_137, List.forall_mem_cons.mpr ⟨tl_138, List.forall_mem_cons.mpr ⟨tl_139, tc_7⟩⟩⟩⟩⟩⟩⟩⟩⟩⟩⟩⟩⟩⟩⟩⟩⟩⟩⟩⟩
set_option maxRecDepth 100000 in
theorem tc_5 : ∀ w ∈ TsG.drop 100, w ∈ lw_tbl := List.forall_mem_cons.mpr ⟨tl_100, List.forall_mem_cons.mpr ⟨tl_101, List.forall_mem_cons.mpr ⟨tl_102, List.forall_mem_cons.mpr ⟨tl_103, List.forall_mem_cons.mpr ⟨tl_104, List.forall_mem_cons.mpr ⟨tl_105, List.forall_mem_cons.mpr ⟨tl_106, List.forall_mem_cons.mpr ⟨tl_107, List.forall_mem_cons.mpr ⟨tl_108, List.forall_mem_cons.mpr ⟨tl_109, List.forall_mem_cons.mpr ⟨tl_110, List.forall_mem_cons.mpr ⟨tl_111, List.forall_mem_cons.mpr ⟨tl_112, List.forall_mem_cons.mpr ⟨tl_113, List.forall_mem_cons.mpr ⟨tl_114, List.forall_mem_cons.mpr ⟨tl_115, List.forall_mem_cons.mpr ⟨tl_116, List.forall_mem_cons.mpr ⟨tl_117, List.forall_mem_cons.mpr ⟨tl_118, List.forall_mem_cons.mpr ⟨tl_119, tc_6⟩⟩⟩⟩⟩⟩⟩⟩⟩⟩⟩⟩⟩⟩⟩⟩⟩⟩⟩⟩
set_option maxRecDepth 100000 in
theorem tc_4 : ∀ w ∈ TsG.drop 80, w ∈ lw_tbl := List.forall_mem_cons.mpr ⟨tl_80, List.forall_mem_cons.mpr ⟨tl_81, List.forall_mem_cons.mpr ⟨tl_82, List.forall_mem_cons.mpr ⟨tl_83, List.forall_mem_cons.mpr ⟨tl_84, List.forall_mem_cons.mpr ⟨tl_85, List.forall_mem_cons.mpr ⟨tl_86, List.forall_mem_cons.mpr ⟨tl_87, List.forall_mem_cons.mpr ⟨tl_88, List.forall_mem_cons.mpr ⟨tl_89, List.forall_mem_cons.mpr ⟨tl_90, List.forall_mem_cons.mpr ⟨tl_91, List.forall_mem_cons.mpr ⟨tl_92, List.forall_mem_cons.mpr ⟨tl_93, List.forall_mem_cons.mpr ⟨tl_94, List.forall_mem_cons.mpr ⟨tl_95, List.forall_mem_cons.mpr ⟨tl_96, List.forall_mem_cons.mpr ⟨tl_97, List.forall_mem_cons.mpr ⟨tl_98, List.forall_mem_cons.mpr ⟨tl_99, tc_5⟩⟩⟩⟩⟩⟩⟩⟩⟩⟩⟩⟩⟩⟩⟩⟩⟩⟩⟩⟩
set_option maxRecDepth 100000 in
theorem tc_3 : ∀ w ∈ TsG.drop 60, w ∈ lw_tbl := List.forall_mem_cons.mpr ⟨tl_60, List.forall_mem_cons.mpr ⟨tl_61, List.forall_mem_cons.mpr ⟨tl_62, List.forall_mem_cons.mpr ⟨tl_63, List.forall_mem_cons.mpr ⟨tl_64, List.forall_mem_cons.mpr ⟨tl_65, List.forall_mem_cons.mpr ⟨tl_66, List.forall_mem_cons.mpr ⟨tl_67, List.forall_mem_cons.mpr ⟨tl_68, List.forall_mem_cons.mpr ⟨tl_69, List.forall_mem_cons.mpr ⟨tl_70, List.forall_mem_cons.mpr ⟨tl_71, List.forall_mem_cons.mpr ⟨tl_72, List.forall_mem_cons.mpr ⟨tl_73, List.forall_mem_cons.mpr ⟨tl_74, List.forall_mem_cons.mpr ⟨tl_75, List.forall_mem_cons.mpr ⟨tl_76, List.forall_mem_cons.mpr ⟨tl_77, List.forall_mem_cons.mpr ⟨tl_78, List.forall_mem_cons.mpr ⟨tl_79, tc_4⟩⟩⟩⟩⟩⟩⟩⟩⟩⟩⟩⟩⟩⟩⟩⟩⟩⟩⟩⟩
set_option maxRecDepth 100000 in
theorem tc_2 : ∀ w ∈ TsG.drop 40, w ∈ lw_tbl := List.forall_mem_cons.mpr ⟨tl_40, List.forall_mem_cons.mpr ⟨tl_41, List.forall_mem_cons.mpr ⟨tl_42, List.forall_mem_cons.mpr ⟨tl_43, List.forall_mem_cons.mpr ⟨tl_44, List.forall_mem_cons.mpr ⟨tl_45, List.forall_mem_cons.mpr ⟨tl_46, List.forall_mem_cons.mpr ⟨tl_47, List.forall_mem_cons.mpr ⟨tl_48, List.forall_mem_cons.mpr ⟨tl_49, List.forall_mem_cons.mpr ⟨tl_50, List.forall_mem_cons.mpr ⟨tl_51, List.forall_mem_cons.mpr ⟨tl_52, List.forall_mem_cons.mpr ⟨tl_53, List.forall_mem_cons.mpr ⟨tl_54, List.forall_mem_cons.mpr ⟨tl_55, List.forall_mem_cons.mpr ⟨tl_56, List.forall_mem_cons.mpr ⟨tl_57, List.forall_mem_cons.mpr ⟨tl_58, List.forall_mem_cons.mpr ⟨tl_59, tc_3⟩⟩⟩⟩⟩⟩⟩⟩⟩⟩⟩⟩⟩⟩⟩⟩⟩⟩⟩⟩
set_option maxRecDepth 100000 in
theorem tc_1 : ∀ w ∈ TsG.drop 20, w ∈ lw_tbl := List.forall_mem_cons.mpr ⟨tl_20, List.forall_mem_cons.mpr ⟨tl_21, List.forall_mem_cons.mpr ⟨tl_22, List.forall_mem_cons.mpr ⟨tl_23, List.forall_mem_cons.mpr ⟨tl_24, List.forall_mem_cons.mpr ⟨tl_25, List.forall_mem_cons.mpr ⟨tl_26, List.forall_mem_cons.mpr ⟨tl_27, List.forall_mem_cons.mpr ⟨tl_28, List.forall_mem_cons.mpr ⟨tl_29, List.forall_mem_cons.mpr ⟨tl_30, List.forall_mem_cons.mpr ⟨tl_31, List.forall_mem_cons.mpr ⟨tl_32, List.forall_mem_cons.mpr ⟨tl_33, List.forall_mem_cons.mpr ⟨tl_34, List.forall_mem_cons.mpr ⟨tl_35, List.forall_mem_cons.mpr ⟨tl_36, List.forall_mem_cons.mpr ⟨tl_37, List.forall_mem_cons.mpr ⟨tl_38, List.forall_mem_cons.mpr ⟨tl_39, tc_2⟩⟩⟩⟩⟩⟩⟩⟩⟩⟩⟩⟩⟩⟩⟩⟩⟩⟩⟩⟩
set_option maxRecDepth 100000 in
theorem tc_0 : ∀ w ∈ TsG.drop 0, w ∈ lw_tbl := List.forall_mem_cons.mpr ⟨tl_0, List.forall_mem_cons.mpr ⟨tl_1, List.forall_mem_cons.mpr ⟨tl_2, List.forall_mem_cons.mpr ⟨tl_3, List.forall_mem_cons.mpr ⟨tl_4, List.forall_mem_cons.mpr ⟨tl_5, List.forall_mem_cons.mpr ⟨tl_6, List.forall_mem_cons.mpr ⟨tl_7, List.forall_mem_cons.mpr ⟨tl_8, List.forall_mem_cons.mpr ⟨tl_9, List.forall_mem_cons.mpr ⟨tl_10, List.forall_mem_cons.mpr ⟨tl_11, List.forall_mem_cons.mpr ⟨tl_12, List.forall_mem_cons.mpr ⟨tl_13, List.forall_mem_cons.mpr ⟨tl_14, List.forall_mem_cons.mpr ⟨tl_15, List.forall_mem_cons.mpr ⟨tl_16, List.forall_mem_cons.mpr ⟨tl_17, List.forall_mem_cons.mpr ⟨tl_18, List.forall_mem_cons.mpr ⟨tl_19, tc_1⟩⟩⟩⟩⟩⟩⟩⟩⟩⟩⟩⟩⟩⟩⟩⟩⟩⟩⟩⟩
theorem tsG_in : ∀ w ∈ TsG, w ∈ lw_tbl := tc_0
set_option maxRecDepth 100000 in
theorem nsG_in : ∀ q ∈ NsG, Cond.methodLinkNest q.1 q.2.1 q.2.2.1 q.2.2.2 ∈ lw_tbl := List.forall_mem_cons.mpr ⟨List.mem_of_getElem? (i := 97) rfl, List.forall_mem_cons.mpr ⟨List.mem_of_getElem? (i := 175) rfl, List.forall_mem_cons.mpr ⟨List.mem_of_getElem? (i := 222) rfl, List.forall_mem_cons.mpr ⟨List.mem_of_getElem? (i := 308) rfl, List.forall_mem_cons.mpr ⟨List.mem_of_getElem? (i := 313) rfl, List.forall_mem_cons.mpr ⟨List.mem_of_getElem? (i := 328) rfl, List.forall_mem_cons.mpr ⟨List.mem_of_getElem? (i := 346) rfl, List.forall_mem_cons.mpr ⟨List.mem_of_getElem? (i := 454) rfl, List.forall_mem_cons.mpr ⟨List.mem_of_getElem? (i := 51) rfl, fun _ h => absurd h List.not_mem_nil⟩⟩⟩⟩⟩⟩⟩⟩⟩
