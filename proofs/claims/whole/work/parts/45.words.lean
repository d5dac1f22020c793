theorem tm_1 {w : Cond} (h : w ∈ tables_1_1) (hg : goodWord w = true) : w ∈ TW := TW_of (List.mem_append_right _ (List.mem_append_left _ h)) hg
theorem tm_2 {w : Cond} (h : w ∈ tables_1_2) (hg : goodWord w = true) : w ∈ TW := TW_of (List.mem_append_right _ (List.mem_append_right _ (List.mem_append_left _ h))) hg
theorem tm_3 {w : Cond} (h : w ∈ tables_1_3) (hg : goodWord w = true) : w ∈ TW := TW_of (List.mem_append_right _ (List.mem_append_right _ (List.mem_append_right _ (List.mem_append_left _ h)))) hg
theorem tm_4 {w : Cond} (h : w ∈ tables_1_4) (hg : goodWord w = true) : w ∈ TW := TW_of (List.mem_append_right _ (List.mem_append_right _ (List.mem_append_right _ (List.mem_append_right _ (List.mem_append_left _ h))))) hg
theorem tm_5 {w : Cond} (h : w ∈ tables_1_5) (hg : goodWord w = true) : w ∈ TW := TW_of (List.mem_append_right _ (List.mem_append_right _ (List.mem_append_right _ (List.mem_append_right _ (List.mem_append_right _ (List.mem_append_left _ h)))))) hg
theorem tm_6 {w : Cond} (h : w ∈ tables_1_6) (hg : goodWord w = true) : w ∈ TW := TW_of (List.mem_append_right _ (List.mem_append_right _ (List.mem_append_right _ (List.mem_append_right _ (List.mem_append_right _ (List.mem_append_right _ (h))))))) hg
theorem tp_0 : Cond.selects "EqualCourt" yX8_refused yX8_refused ∈ TW := TW_of (List.mem_of_getElem? (i := 0) rfl) rfl
theorem tp_1 : Cond.selects "EqualCourt" yX8_madeTerm yX8_madeTerm ∈ TW := TW_of (List.mem_of_getElem? (i := 1) rfl) rfl
theorem tp_2 : Cond.selects "EqualCourt$Partition" yX4_unite yX4_unite ∈ TW := TW_of (List.mem_of_getElem? (i := 2) rfl) rfl
theorem tp_3 : Cond.selects "EqualCourt$Partition" yX4_uniteRows yX4_uniteRows ∈ TW := TW_of (List.mem_of_getElem? (i := 3) rfl) rfl
theorem tp_4 : Cond.selects "EqualCourt$Partition" yX4_review yX4_review ∈ TW := TW_of (List.mem_of_getElem? (i := 4) rfl) rfl
theorem tp_5 : Cond.selects "EqualCourt$Partition" yX4_takeOut yX4_takeOut ∈ TW := TW_of (List.mem_of_getElem? (i := 5) rfl) rfl
theorem tp_6 : Cond.selects "EqualCourt$Partition" yX4_rootOfPart yX4_rootOfPart ∈ TW := TW_of (List.mem_of_getElem? (i := 6) rfl) rfl
theorem tp_7 : Cond.selects "EqualCourt$Partition" yX4_isBuiltAlike yX4_isBuiltAlike ∈ TW := TW_of (List.mem_of_getElem? (i := 7) rfl) rfl
theorem tp_8 : Cond.selects "EqualCourt" yX8_done yX8_done ∈ TW := TW_of (List.mem_of_getElem? (i := 8) rfl) rfl
theorem tp_9 : Cond.selects "EqualCourt$Court" yX2_addToTrial yX2_addToTrial ∈ TW := TW_of (List.mem_of_getElem? (i := 9) rfl) rfl
theorem tp_10 : Cond.selects "EqualCourt$Court" yX2_isReached yX2_isReached ∈ TW := TW_of (List.mem_of_getElem? (i := 10) rfl) rfl
theorem tp_11 : Cond.selects "EqualCourt$Court" yX2_fillPool yX2_fillPool ∈ TW := TW_of (List.mem_of_getElem? (i := 11) rfl) rfl
theorem tp_12 : Cond.selects "EqualCourt$Court" yX2_isOneByPicks yX2_isOneByPicks ∈ TW := TW_of (List.mem_of_getElem? (i := 12) rfl) rfl
theorem tp_13 : Cond.selects "EqualCourt$Court" yX2_pickNext yX2_pickNext ∈ TW := TW_of (List.mem_of_getElem? (i := 13) rfl) rfl
theorem tp_14 : Cond.selects "EqualCourt" yX8_freeInt yX8_freeInt ∈ TW := TW_of (List.mem_of_getElem? (i := 14) rfl) rfl
theorem tp_15 : Cond.selects "EqualCourt" yX8_madeInstance yX8_madeInstance ∈ TW := TW_of (List.mem_of_getElem? (i := 15) rfl) rfl
theorem tp_16 : Cond.selects "EqualCourt$Maker" yX3_isKnown yX3_isKnown ∈ TW := TW_of (List.mem_of_getElem? (i := 16) rfl) rfl
theorem tp_17 : Cond.selects "EqualCourt$Maker" yX3_openPart yX3_openPart ∈ TW := TW_of (List.mem_of_getElem? (i := 17) rfl) rfl
theorem tp_18 : Cond.selects "EqualCourt$Maker" yX3_makeImage yX3_makeImage ∈ TW := TW_of (List.mem_of_getElem? (i := 18) rfl) rfl
theorem tp_19 : Cond.selects "EqualCourt$Maker" yX3_imageOf yX3_imageOf ∈ TW := TW_of (List.mem_of_getElem? (i := 19) rfl) rfl
theorem tp_20 : Cond.selects "EqualCourt" yX8_gatherHeads yX8_gatherHeads ∈ TW := TW_of (List.mem_of_getElem? (i := 20) rfl) rfl
theorem tp_21 : Cond.selects "EqualCourt" yX8_applyLaw yX8_applyLaw ∈ TW := TW_of (List.mem_of_getElem? (i := 21) rfl) rfl
theorem tp_22 : Cond.selects "EqualCourt$Steps" yX6_isSaid yX6_isSaid ∈ TW := TW_of (List.mem_of_getElem? (i := 22) rfl) rfl
theorem tp_23 : Cond.selects "EqualCourt$Steps" yX6_isChained yX6_isChained ∈ TW := TW_of (List.mem_of_getElem? (i := 23) rfl) rfl
theorem tp_24 : Cond.selects "EqualCourt$Steps" yX6_isByParts yX6_isByParts ∈ TW := TW_of (List.mem_of_getElem? (i := 24) rfl) rfl
theorem tp_25 : Cond.selects "EqualCourt$Steps" yX6_isSameBefore yX6_isSameBefore ∈ TW := TW_of (List.mem_of_getElem? (i := 25) rfl) rfl
theorem tp_26 : Cond.selects "EqualCourt$Steps" yX6_isOfRows yX6_isOfRows ∈ TW := TW_of (List.mem_of_getElem? (i := 26) rfl) rfl
theorem tp_27 : Cond.selects "EqualCourtModel" yX9_refuse yX9_refuse ∈ TW := TW_of (List.mem_of_getElem? (i := 27) rfl) rfl
theorem tp_28 : Cond.selects "EqualCourtModel" yX9_made yX9_made ∈ TW := TW_of (List.mem_of_getElem? (i := 28) rfl) rfl
theorem tp_29 : Cond.selects "EqualCourtModel" yX9_findTerm yX9_findTerm ∈ TW := TW_of (List.mem_of_getElem? (i := 29) rfl) rfl
theorem tp_30 : Cond.selects "EqualCourtModel" yX9_answer yX9_answer ∈ TW := TW_of (List.mem_of_getElem? (i := 30) rfl) rfl
theorem tp_31 : Cond.selects "EqualCourtModel" yX9_done yX9_done ∈ TW := TW_of (List.mem_of_getElem? (i := 31) rfl) rfl
theorem tp_32 : Cond.selects "EqualCourtModel" yX9_isTerm yX9_isTerm ∈ TW := TW_of (List.mem_of_getElem? (i := 32) rfl) rfl
theorem tp_33 : Cond.selects "EqualCourtModel" yX9_taken yX9_taken ∈ TW := TW_of (List.mem_of_getElem? (i := 33) rfl) rfl
theorem tp_34 : Cond.selects "EqualCourtModel" yX9_classes yX9_classes ∈ TW := TW_of (List.mem_of_getElem? (i := 34) rfl) rfl
theorem tp_35 : Cond.selects "EqualCourtModel" yX9_court yX9_court ∈ TW := TW_of (List.mem_of_getElem? (i := 35) rfl) rfl
theorem tp_36 : Cond.selects "EqualCourtModel" yX9_takeCourt yX9_takeCourt ∈ TW := TW_of (List.mem_of_getElem? (i := 36) rfl) rfl
theorem tp_37 : Cond.selects "EqualCourtModel" yX9_findOnes yX9_findOnes ∈ TW := TW_of (List.mem_of_getElem? (i := 37) rfl) rfl
theorem tp_38 : Cond.selects "EqualCourtModel" yX9_merge yX9_merge ∈ TW := TW_of (List.mem_of_getElem? (i := 38) rfl) rfl
theorem tp_39 : Cond.selects "EqualCourtModel" yX9_looks yX9_looks ∈ TW := TW_of (List.mem_of_getElem? (i := 39) rfl) rfl
theorem tp_40 : Cond.selects "EqualCourtModel" yX9_isByParts yX9_isByParts ∈ TW := TW_of (List.mem_of_getElem? (i := 40) rfl) rfl
theorem tp_41 : Cond.selects "EqualCourtModel" yX9_isPart yX9_isPart ∈ TW := TW_of (List.mem_of_getElem? (i := 41) rfl) rfl
theorem tp_42 : Cond.selects "EqualCourtModel" yX9_saidNow yX9_saidNow ∈ TW := TW_of (List.mem_of_getElem? (i := 42) rfl) rfl
theorem tp_43 : Cond.selects "EqualCourtModel" yX9_wouldClash yX9_wouldClash ∈ TW := TW_of (List.mem_of_getElem? (i := 43) rfl) rfl
theorem tp_44 : Cond.selects "EqualCourtModel" yX9_add yX9_add ∈ TW := TW_of (List.mem_of_getElem? (i := 44) rfl) rfl
theorem tp_45 : Cond.selects "EqualCourtModel" yX9_clashes yX9_clashes ∈ TW := TW_of (List.mem_of_getElem? (i := 45) rfl) rfl
theorem tp_46 : Cond.selects "EqualCourtModel" yX9_thin yX9_thin ∈ TW := TW_of (List.mem_of_getElem? (i := 46) rfl) rfl
theorem tp_47 : Cond.selects "EqualCourtModel" yX9_does yX9_does ∈ TW := TW_of (List.mem_of_getElem? (i := 47) rfl) rfl
theorem tp_48 : Cond.selects "EqualCourtModel" yX9_take yX9_take ∈ TW := TW_of (List.mem_of_getElem? (i := 48) rfl) rfl
theorem tp_49 : Cond.selects "EqualCourtModel" yX9_areOne yX9_areOne ∈ TW := TW_of (List.mem_of_getElem? (i := 49) rfl) rfl
theorem tp_50 : Cond.selects "EqualCourtModel" yX9_isEnough yX9_isEnough ∈ TW := TW_of (List.mem_of_getElem? (i := 50) rfl) rfl
theorem tp_51 : Cond.selects "EqualCourtModel" yX9_nextSet yX9_nextSet ∈ TW := TW_of (List.mem_of_getElem? (i := 51) rfl) rfl
theorem tp_52 : Cond.selects "EqualCourtModel" yX9_usesOne yX9_usesOne ∈ TW := TW_of (List.mem_of_getElem? (i := 52) rfl) rfl
theorem tp_53 : Cond.selects "EqualCourtModel" yX9_numberOf yX9_numberOf ∈ TW := TW_of (List.mem_of_getElem? (i := 53) rfl) rfl
theorem tp_54 : Cond.selects "EqualCourtModel" yX9_isNumber yX9_isNumber ∈ TW := TW_of (List.mem_of_getElem? (i := 54) rfl) rfl
theorem tp_55 : Cond.selects "EqualCourtModel" yX9_instanceOf yX9_instanceOf ∈ TW := TW_of (List.mem_of_getElem? (i := 55) rfl) rfl
theorem tp_56 : Cond.selects "EqualCourtModel" yX9_rebuilt yX9_rebuilt ∈ TW := TW_of (List.mem_of_getElem? (i := 56) rfl) rfl
theorem tp_57 : Cond.selects "EqualCourtModel" yX9_isHole yX9_isHole ∈ TW := TW_of (List.mem_of_getElem? (i := 57) rfl) rfl
theorem tp_58 : Cond.selects "EqualCourtModel" yX9_findHeads yX9_findHeads ∈ TW := TW_of (List.mem_of_getElem? (i := 58) rfl) rfl
theorem tp_59 : Cond.selects "EqualCourtModel" yX9_lookForHoles yX9_lookForHoles ∈ TW := TW_of (List.mem_of_getElem? (i := 59) rfl) rfl
theorem tp_60 : Cond.selects "EqualCourtModel" yX9_followAll yX9_followAll ∈ TW := TW_of (List.mem_of_getElem? (i := 60) rfl) rfl
theorem tp_61 : Cond.selects "EqualCourtModel" yX9_goOn yX9_goOn ∈ TW := TW_of (List.mem_of_getElem? (i := 61) rfl) rfl
theorem tp_62 : Cond.selects "EqualCourtModel" yX9_isRight yX9_isRight ∈ TW := TW_of (List.mem_of_getElem? (i := 62) rfl) rfl
theorem tp_63 : Cond.selects "EqualCourtModel" yX9_isStep yX9_isStep ∈ TW := TW_of (List.mem_of_getElem? (i := 63) rfl) rfl
theorem tp_64 : Cond.selects "EqualCourtModel" yX9_isRightByParts yX9_isRightByParts ∈ TW := TW_of (List.mem_of_getElem? (i := 64) rfl) rfl
theorem tp_65 : Cond.selects "EqualCourtModel" yX9_isKnown yX9_isKnown ∈ TW := TW_of (List.mem_of_getElem? (i := 65) rfl) rfl
theorem tp_66 : Cond.selects "EqualCourtModel" yX9_isOfRows yX9_isOfRows ∈ TW := TW_of (List.mem_of_getElem? (i := 66) rfl) rfl
theorem tw_0 : Cond.initialized "EqualCourtLaw" ∈ TW := tm_1 (List.mem_of_getElem? (i := 0) rfl) rfl
theorem tw_1 : Cond.initialized "EqualCourt" ∈ TW := tm_1 (List.mem_of_getElem? (i := 1) rfl) rfl
theorem tw_2 : Cond.initialized "EqualCourt$Terms" ∈ TW := tm_1 (List.mem_of_getElem? (i := 2) rfl) rfl
theorem tw_3 : Cond.initialized "java/util/Arrays" ∈ TW := tm_1 (List.mem_of_getElem? (i := 3) rfl) rfl
theorem tw_4 : Cond.initialized "EqualCourt$Sayings" ∈ TW := tm_1 (List.mem_of_getElem? (i := 4) rfl) rfl
theorem tw_5 : Cond.initialized "EqualCourt$Court" ∈ TW := tm_1 (List.mem_of_getElem? (i := 5) rfl) rfl
theorem tw_6 : Cond.initialized "EqualCourt$Core" ∈ TW := tm_1 (List.mem_of_getElem? (i := 6) rfl) rfl
theorem tw_7 : Cond.initialized "EqualCourt$Agenda" ∈ TW := tm_1 (List.mem_of_getElem? (i := 7) rfl) rfl
theorem tw_8 : Cond.initialized "EqualCourt$Partition" ∈ TW := tm_1 (List.mem_of_getElem? (i := 8) rfl) rfl
theorem tw_9 : Cond.initialized "EqualCourt$Maker" ∈ TW := tm_1 (List.mem_of_getElem? (i := 9) rfl) rfl
theorem tw_10 : Cond.initialized "EqualCourt$Steps" ∈ TW := tm_1 (List.mem_of_getElem? (i := 10) rfl) rfl
theorem tw_11 : Cond.initialized "EqualCourtModel" ∈ TW := tm_1 (List.mem_of_getElem? (i := 11) rfl) rfl
theorem tw_12 : Cond.initialized "java/lang/Math" ∈ TW := tm_1 (List.mem_of_getElem? (i := 12) rfl) rfl
theorem tw_13 : Cond.initialized "java/lang/System" ∈ TW := tm_1 (List.mem_of_getElem? (i := 13) rfl) rfl
theorem tw_14 : Cond.classLink "EqualCourtLaw" 7 "EqualCourt" ∈ TW := tm_1 (List.mem_of_getElem? (i := 14) rfl) rfl
theorem tw_15 : Cond.instantiable "EqualCourt" 13 ∈ TW := tm_1 (List.mem_of_getElem? (i := 15) rfl) rfl
theorem tw_16 : Cond.methodLink "EqualCourtLaw" 9 yX8_init ∈ TW := tm_1 (List.mem_of_getElem? (i := 16) rfl) rfl
theorem tw_17 : Cond.instanceMethod yX8_init ∈ TW := tm_1 (List.mem_of_getElem? (i := 17) rfl) rfl
theorem tw_18 : Cond.code yX8_init prog_1_method_1_code 1 (Option.none : Option Jvm.ClassFile.FieldType) ∈ TW := tm_1 (List.mem_of_getElem? (i := 18) rfl) rfl
theorem tw_19 : Cond.methodLink "EqualCourt" 1 ({ cls := "java/lang/Object", name := "<init>", desc := "()V" } : Jvm.MethodName) ∈ TW := tm_1 (List.mem_of_getElem? (i := 19) rfl) rfl
theorem tw_20 : Cond.instanceMethod ({ cls := "java/lang/Object", name := "<init>", desc := "()V" } : Jvm.MethodName) ∈ TW := tm_1 (List.mem_of_getElem? (i := 20) rfl) rfl
theorem tw_21 : Cond.code ({ cls := "java/lang/Object", name := "<init>", desc := "()V" } : Jvm.MethodName) object_method_1_code 1 (Option.none : Option Jvm.ClassFile.FieldType) ∈ TW := tm_1 (List.mem_of_getElem? (i := 21) rfl) rfl
theorem tw_22 : Cond.classLink "EqualCourt" 7 "EqualCourt$Terms" ∈ TW := tm_1 (List.mem_of_getElem? (i := 22) rfl) rfl
theorem tw_23 : Cond.instantiable "EqualCourt$Terms" 10 ∈ TW := tm_1 (List.mem_of_getElem? (i := 23) rfl) rfl
theorem tw_24 : Cond.methodLink "EqualCourt" 9 yX7_init ∈ TW := tm_1 (List.mem_of_getElem? (i := 24) rfl) rfl
theorem tw_25 : Cond.instanceMethod yX7_init ∈ TW := tm_1 (List.mem_of_getElem? (i := 25) rfl) rfl
theorem tw_26 : Cond.code yX7_init prog_9_method_1_code 1 (Option.none : Option Jvm.ClassFile.FieldType) ∈ TW := tm_1 (List.mem_of_getElem? (i := 26) rfl) rfl
theorem tw_27 : Cond.methodLink "EqualCourt$Terms" 3 ({ cls := "java/lang/Object", name := "<init>", desc := "()V" } : Jvm.MethodName) ∈ TW := tm_1 (List.mem_of_getElem? (i := 27) rfl) rfl
theorem tw_28 : Cond.methodLink "EqualCourt$Terms" 39 yJ7_fill_53178 ∈ TW := tm_1 (List.mem_of_getElem? (i := 28) rfl) rfl
theorem tw_29 : Cond.static yJ7_fill_53178 ∈ TW := tm_1 (List.mem_of_getElem? (i := 29) rfl) rfl
theorem tw_30 : Cond.code yJ7_fill_53178 prog_14_method_103_code 4 (Option.none : Option Jvm.ClassFile.FieldType) ∈ TW := tm_1 (List.mem_of_getElem? (i := 30) rfl) rfl
theorem tw_31 : Cond.fieldLink "EqualCourt$Terms" 9 "EqualCourt$Terms" "kinds" "[I" ∈ TW := tm_1 (List.mem_of_getElem? (i := 31) rfl) rfl
theorem tw_33 : Cond.fieldLink "EqualCourt$Terms" 15 "EqualCourt$Terms" "shown" "[I" ∈ TW := tm_1 (List.mem_of_getElem? (i := 33) rfl) rfl
theorem tw_35 : Cond.fieldLink "EqualCourt$Terms" 18 "EqualCourt$Terms" "sizes" "[I" ∈ TW := tm_1 (List.mem_of_getElem? (i := 35) rfl) rfl
theorem tw_37 : Cond.fieldLink "EqualCourt$Terms" 21 "EqualCourt$Terms" "parts" "[I" ∈ TW := tm_1 (List.mem_of_getElem? (i := 37) rfl) rfl
theorem tw_39 : Cond.fieldLink "EqualCourt$Terms" 24 "EqualCourt$Terms" "holes" "[I" ∈ TW := tm_1 (List.mem_of_getElem? (i := 39) rfl) rfl
theorem tw_40 : Cond.fieldLink "EqualCourt$Terms" 27 "EqualCourt$Terms" "buckets" "[I" ∈ TW := tm_1 (List.mem_of_getElem? (i := 40) rfl) rfl
theorem tw_41 : Cond.fieldLink "EqualCourt$Terms" 30 "EqualCourt$Terms" "chain" "[I" ∈ TW := tm_1 (List.mem_of_getElem? (i := 41) rfl) rfl
theorem tw_42 : Cond.fieldLink "EqualCourt$Terms" 33 "EqualCourt$Terms" "firstPlace" "[I" ∈ TW := tm_1 (List.mem_of_getElem? (i := 42) rfl) rfl
theorem tw_44 : Cond.fieldLink "EqualCourt$Terms" 36 "EqualCourt$Terms" "nextPlace" "[I" ∈ TW := tm_1 (List.mem_of_getElem? (i := 44) rfl) rfl
theorem tw_46 : Cond.fieldLink "EqualCourt$Terms" 45 "EqualCourt$Terms" "count" "I" ∈ TW := tm_1 (List.mem_of_getElem? (i := 46) rfl) rfl
theorem tw_68 : Cond.arrayClass Jvm.ClassFile.FieldType.int ∈ TW := tm_1 (List.mem_of_getElem? (i := 68) rfl) rfl
theorem tw_69 : Cond.classLink "EqualCourt" 16 "EqualCourt$Sayings" ∈ TW := tm_1 (List.mem_of_getElem? (i := 69) rfl) rfl
theorem tw_70 : Cond.instantiable "EqualCourt$Sayings" 8 ∈ TW := tm_1 (List.mem_of_getElem? (i := 70) rfl) rfl
theorem tw_72 : Cond.instanceMethod yX5_init ∈ TW := tm_1 (List.mem_of_getElem? (i := 72) rfl) rfl
theorem tw_73 : Cond.code yX5_init prog_7_method_1_code 1 (Option.none : Option Jvm.ClassFile.FieldType) ∈ TW := tm_1 (List.mem_of_getElem? (i := 73) rfl) rfl
theorem tw_74 : Cond.methodLink "EqualCourt$Sayings" 3 ({ cls := "java/lang/Object", name := "<init>", desc := "()V" } : Jvm.MethodName) ∈ TW := tm_1 (List.mem_of_getElem? (i := 74) rfl) rfl
theorem tw_75 : Cond.fieldLink "EqualCourt$Sayings" 9 "EqualCourt$Sayings" "same" "[Z" ∈ TW := tm_1 (List.mem_of_getElem? (i := 75) rfl) rfl
theorem tw_76 : Cond.fieldLink "EqualCourt$Sayings" 15 "EqualCourt$Sayings" "lefts" "[I" ∈ TW := tm_1 (List.mem_of_getElem? (i := 76) rfl) rfl
theorem tw_77 : Cond.fieldLink "EqualCourt$Sayings" 19 "EqualCourt$Sayings" "rights" "[I" ∈ TW := tm_1 (List.mem_of_getElem? (i := 77) rfl) rfl
theorem tw_78 : Cond.fieldLink "EqualCourt$Sayings" 22 "EqualCourt$Sayings" "taken" "[I" ∈ TW := tm_1 (List.mem_of_getElem? (i := 78) rfl) rfl
theorem tw_79 : Cond.fieldLink "EqualCourt$Sayings" 25 "EqualCourt$Sayings" "remembered" "[I" ∈ TW := tm_1 (List.mem_of_getElem? (i := 79) rfl) rfl
theorem tw_80 : Cond.fieldLink "EqualCourt$Sayings" 28 "EqualCourt$Sayings" "count" "I" ∈ TW := tm_1 (List.mem_of_getElem? (i := 80) rfl) rfl
theorem tw_81 : Cond.fieldLink "EqualCourt$Sayings" 32 "EqualCourt$Sayings" "takenCount" "I" ∈ TW := tm_1 (List.mem_of_getElem? (i := 81) rfl) rfl
theorem tw_82 : Cond.fieldLink "EqualCourt$Sayings" 35 "EqualCourt$Sayings" "levels" "I" ∈ TW := tm_1 (List.mem_of_getElem? (i := 82) rfl) rfl
theorem tw_100 : Cond.arrayClass Jvm.ClassFile.FieldType.boolean ∈ TW := tm_1 (List.mem_of_getElem? (i := 100) rfl) rfl
theorem tw_101 : Cond.classLink "EqualCourt" 23 "EqualCourt$Court" ∈ TW := tm_1 (List.mem_of_getElem? (i := 101) rfl) rfl
theorem tw_102 : Cond.instantiable "EqualCourt$Court" 9 ∈ TW := tm_1 (List.mem_of_getElem? (i := 102) rfl) rfl
theorem tw_103 : Cond.methodLink "EqualCourt" 25 yX2_init ∈ TW := tm_1 (List.mem_of_getElem? (i := 103) rfl) rfl
theorem tw_104 : Cond.instanceMethod yX2_init ∈ TW := tm_1 (List.mem_of_getElem? (i := 104) rfl) rfl
theorem tw_105 : Cond.code yX2_init prog_4_method_1_code 4 (Option.none : Option Jvm.ClassFile.FieldType) ∈ TW := tm_1 (List.mem_of_getElem? (i := 105) rfl) rfl
theorem tw_106 : Cond.methodLink "EqualCourt$Court" 3 ({ cls := "java/lang/Object", name := "<init>", desc := "()V" } : Jvm.MethodName) ∈ TW := tm_1 (List.mem_of_getElem? (i := 106) rfl) rfl
theorem tw_107 : Cond.classLink "EqualCourt$Court" 9 "EqualCourt$Core" ∈ TW := tm_1 (List.mem_of_getElem? (i := 107) rfl) rfl
theorem tw_108 : Cond.instantiable "EqualCourt$Core" 2 ∈ TW := tm_1 (List.mem_of_getElem? (i := 108) rfl) rfl
theorem tw_110 : Cond.instanceMethod yX1_init ∈ TW := tm_1 (List.mem_of_getElem? (i := 110) rfl) rfl
theorem tw_111 : Cond.code yX1_init prog_3_method_1_code 1 (Option.none : Option Jvm.ClassFile.FieldType) ∈ TW := tm_1 (List.mem_of_getElem? (i := 111) rfl) rfl
theorem tw_112 : Cond.methodLink "EqualCourt$Core" 3 ({ cls := "java/lang/Object", name := "<init>", desc := "()V" } : Jvm.MethodName) ∈ TW := tm_1 (List.mem_of_getElem? (i := 112) rfl) rfl
theorem tw_113 : Cond.fieldLink "EqualCourt$Core" 9 "EqualCourt$Core" "items" "[I" ∈ TW := tm_1 (List.mem_of_getElem? (i := 113) rfl) rfl
theorem tw_114 : Cond.fieldLink "EqualCourt$Core" 15 "EqualCourt$Core" "count" "I" ∈ TW := tm_1 (List.mem_of_getElem? (i := 114) rfl) rfl
theorem tw_120 : Cond.classLink "EqualCourt$Court" 37 "EqualCourt$Agenda" ∈ TW := tm_1 (List.mem_of_getElem? (i := 120) rfl) rfl
theorem tw_121 : Cond.instantiable "EqualCourt$Agenda" 6 ∈ TW := tm_1 (List.mem_of_getElem? (i := 121) rfl) rfl
theorem tw_123 : Cond.instanceMethod yX0_init ∈ TW := tm_1 (List.mem_of_getElem? (i := 123) rfl) rfl
theorem tw_124 : Cond.code yX0_init prog_2_method_1_code 1 (Option.none : Option Jvm.ClassFile.FieldType) ∈ TW := tm_1 (List.mem_of_getElem? (i := 124) rfl) rfl
theorem tw_125 : Cond.methodLink "EqualCourt$Agenda" 3 ({ cls := "java/lang/Object", name := "<init>", desc := "()V" } : Jvm.MethodName) ∈ TW := tm_1 (List.mem_of_getElem? (i := 125) rfl) rfl
theorem tw_126 : Cond.fieldLink "EqualCourt$Agenda" 11 "EqualCourt$Agenda" "lefts" "[I" ∈ TW := tm_1 (List.mem_of_getElem? (i := 126) rfl) rfl
theorem tw_127 : Cond.fieldLink "EqualCourt$Agenda" 15 "EqualCourt$Agenda" "rights" "[I" ∈ TW := tm_1 (List.mem_of_getElem? (i := 127) rfl) rfl
theorem tw_128 : Cond.fieldLink "EqualCourt$Agenda" 18 "EqualCourt$Agenda" "changed" "[I" ∈ TW := tm_1 (List.mem_of_getElem? (i := 128) rfl) rfl
theorem tw_129 : Cond.fieldLink "EqualCourt$Agenda" 21 "EqualCourt$Agenda" "waits" "[Z" ∈ TW := tm_1 (List.mem_of_getElem? (i := 129) rfl) rfl
theorem tw_130 : Cond.fieldLink "EqualCourt$Agenda" 25 "EqualCourt$Agenda" "pairCount" "I" ∈ TW := tm_1 (List.mem_of_getElem? (i := 130) rfl) rfl
theorem tw_131 : Cond.fieldLink "EqualCourt$Agenda" 29 "EqualCourt$Agenda" "changedCount" "I" ∈ TW := tm_1 (List.mem_of_getElem? (i := 131) rfl) rfl
theorem tw_145 : Cond.classLink "EqualCourt$Court" 40 "EqualCourt$Partition" ∈ TW := tm_1 (List.mem_of_getElem? (i := 145) rfl) rfl
theorem tw_146 : Cond.instantiable "EqualCourt$Partition" 14 ∈ TW := tm_1 (List.mem_of_getElem? (i := 146) rfl) rfl
theorem tw_147 : Cond.methodLink "EqualCourt$Court" 42 yX4_init ∈ TW := tm_1 (List.mem_of_getElem? (i := 147) rfl) rfl
theorem tw_148 : Cond.instanceMethod yX4_init ∈ TW := tm_1 (List.mem_of_getElem? (i := 148) rfl) rfl
theorem tw_149 : Cond.code yX4_init prog_6_method_1_code 3 (Option.none : Option Jvm.ClassFile.FieldType) ∈ TW := tm_1 (List.mem_of_getElem? (i := 149) rfl) rfl
theorem tw_150 : Cond.methodLink "EqualCourt$Partition" 3 ({ cls := "java/lang/Object", name := "<init>", desc := "()V" } : Jvm.MethodName) ∈ TW := tm_1 (List.mem_of_getElem? (i := 150) rfl) rfl
theorem tw_151 : Cond.methodLink "EqualCourt$Partition" 47 yJ7_fill_53178 ∈ TW := tm_1 (List.mem_of_getElem? (i := 151) rfl) rfl
theorem tw_152 : Cond.fieldLink "EqualCourt$Partition" 39 "EqualCourt$Partition" "terms" "LEqualCourt$Terms;" ∈ TW := tm_1 (List.mem_of_getElem? (i := 152) rfl) rfl
theorem tw_153 : Cond.fieldLink "EqualCourt$Partition" 43 "EqualCourt$Partition" "agenda" "LEqualCourt$Agenda;" ∈ TW := tm_1 (List.mem_of_getElem? (i := 153) rfl) rfl
theorem tw_154 : Cond.fieldLink "EqualCourt$Partition" 9 "EqualCourt$Partition" "root" "[I" ∈ TW := tm_1 (List.mem_of_getElem? (i := 154) rfl) rfl
theorem tw_155 : Cond.fieldLink "EqualCourt$Partition" 15 "EqualCourt$Partition" "next" "[I" ∈ TW := tm_1 (List.mem_of_getElem? (i := 155) rfl) rfl
theorem tw_156 : Cond.fieldLink "EqualCourt$Partition" 18 "EqualCourt$Partition" "size" "[I" ∈ TW := tm_1 (List.mem_of_getElem? (i := 156) rfl) rfl
theorem tw_157 : Cond.fieldLink "EqualCourt$Partition" 21 "EqualCourt$Partition" "least" "[I" ∈ TW := tm_1 (List.mem_of_getElem? (i := 157) rfl) rfl
theorem tw_158 : Cond.fieldLink "EqualCourt$Partition" 24 "EqualCourt$Partition" "number" "[I" ∈ TW := tm_1 (List.mem_of_getElem? (i := 158) rfl) rfl
theorem tw_159 : Cond.fieldLink "EqualCourt$Partition" 27 "EqualCourt$Partition" "aRow" "[I" ∈ TW := tm_1 (List.mem_of_getElem? (i := 159) rfl) rfl
theorem tw_160 : Cond.fieldLink "EqualCourt$Partition" 30 "EqualCourt$Partition" "buckets" "[I" ∈ TW := tm_1 (List.mem_of_getElem? (i := 160) rfl) rfl
theorem tw_161 : Cond.fieldLink "EqualCourt$Partition" 33 "EqualCourt$Partition" "chain" "[I" ∈ TW := tm_1 (List.mem_of_getElem? (i := 161) rfl) rfl
theorem tw_162 : Cond.fieldLink "EqualCourt$Partition" 36 "EqualCourt$Partition" "slot" "[I" ∈ TW := tm_1 (List.mem_of_getElem? (i := 162) rfl) rfl
theorem tw_163 : Cond.fieldLink "EqualCourt$Partition" 81 "EqualCourt$Partition" "known" "I" ∈ TW := tm_1 (List.mem_of_getElem? (i := 163) rfl) rfl
theorem tw_164 : Cond.fieldLink "EqualCourt$Partition" 53 "EqualCourt$Partition" "classes" "I" ∈ TW := tm_1 (List.mem_of_getElem? (i := 164) rfl) rfl
theorem tw_165 : Cond.fieldLink "EqualCourt$Partition" 57 "EqualCourt$Partition" "torn" "Z" ∈ TW := tm_1 (List.mem_of_getElem? (i := 165) rfl) rfl
theorem tw_195 : Cond.fieldLink "EqualCourt$Court" 29 "EqualCourt$Court" "terms" "LEqualCourt$Terms;" ∈ TW := tm_1 (List.mem_of_getElem? (i := 195) rfl) rfl
theorem tw_196 : Cond.fieldLink "EqualCourt$Court" 33 "EqualCourt$Court" "sayings" "LEqualCourt$Sayings;" ∈ TW := tm_1 (List.mem_of_getElem? (i := 196) rfl) rfl
theorem tw_197 : Cond.fieldLink "EqualCourt$Court" 45 "EqualCourt$Court" "bare" "LEqualCourt$Partition;" ∈ TW := tm_1 (List.mem_of_getElem? (i := 197) rfl) rfl
theorem tw_198 : Cond.fieldLink "EqualCourt$Court" 49 "EqualCourt$Court" "standing" "LEqualCourt$Partition;" ∈ TW := tm_1 (List.mem_of_getElem? (i := 198) rfl) rfl
theorem tw_199 : Cond.fieldLink "EqualCourt$Court" 52 "EqualCourt$Court" "trial" "LEqualCourt$Partition;" ∈ TW := tm_1 (List.mem_of_getElem? (i := 199) rfl) rfl
theorem tw_200 : Cond.fieldLink "EqualCourt$Court" 12 "EqualCourt$Court" "unlikes" "LEqualCourt$Core;" ∈ TW := tm_1 (List.mem_of_getElem? (i := 200) rfl) rfl
theorem tw_201 : Cond.fieldLink "EqualCourt$Court" 18 "EqualCourt$Court" "pool" "[I" ∈ TW := tm_1 (List.mem_of_getElem? (i := 201) rfl) rfl
theorem tw_202 : Cond.fieldLink "EqualCourt$Court" 22 "EqualCourt$Court" "helps" "[Z" ∈ TW := tm_1 (List.mem_of_getElem? (i := 202) rfl) rfl
theorem tw_203 : Cond.fieldLink "EqualCourt$Court" 26 "EqualCourt$Court" "picks" "[I" ∈ TW := tm_1 (List.mem_of_getElem? (i := 203) rfl) rfl
theorem tw_223 : Cond.classLink "EqualCourt" 32 "EqualCourt$Maker" ∈ TW := tm_1 (List.mem_of_getElem? (i := 223) rfl) rfl
theorem tw_224 : Cond.instantiable "EqualCourt$Maker" 6 ∈ TW := tm_1 (List.mem_of_getElem? (i := 224) rfl) rfl
theorem tw_225 : Cond.methodLink "EqualCourt" 34 yX3_init ∈ TW := tm_1 (List.mem_of_getElem? (i := 225) rfl) rfl
theorem tw_226 : Cond.instanceMethod yX3_init ∈ TW := tm_1 (List.mem_of_getElem? (i := 226) rfl) rfl
theorem tw_227 : Cond.code yX3_init prog_5_method_1_code 2 (Option.none : Option Jvm.ClassFile.FieldType) ∈ TW := tm_1 (List.mem_of_getElem? (i := 227) rfl) rfl
theorem tw_228 : Cond.methodLink "EqualCourt$Maker" 3 ({ cls := "java/lang/Object", name := "<init>", desc := "()V" } : Jvm.MethodName) ∈ TW := tm_1 (List.mem_of_getElem? (i := 228) rfl) rfl
theorem tw_229 : Cond.fieldLink "EqualCourt$Maker" 24 "EqualCourt$Maker" "terms" "LEqualCourt$Terms;" ∈ TW := tm_1 (List.mem_of_getElem? (i := 229) rfl) rfl
theorem tw_230 : Cond.fieldLink "EqualCourt$Maker" 9 "EqualCourt$Maker" "images" "[I" ∈ TW := tm_1 (List.mem_of_getElem? (i := 230) rfl) rfl
theorem tw_231 : Cond.fieldLink "EqualCourt$Maker" 15 "EqualCourt$Maker" "turnOfImage" "[I" ∈ TW := tm_1 (List.mem_of_getElem? (i := 231) rfl) rfl
theorem tw_232 : Cond.fieldLink "EqualCourt$Maker" 18 "EqualCourt$Maker" "path" "[I" ∈ TW := tm_1 (List.mem_of_getElem? (i := 232) rfl) rfl
theorem tw_233 : Cond.fieldLink "EqualCourt$Maker" 21 "EqualCourt$Maker" "fillings" "[I" ∈ TW := tm_1 (List.mem_of_getElem? (i := 233) rfl) rfl
theorem tw_234 : Cond.fieldLink "EqualCourt$Maker" 34 "EqualCourt$Maker" "turn" "I" ∈ TW := tm_1 (List.mem_of_getElem? (i := 234) rfl) rfl
theorem tw_248 : Cond.classLink "EqualCourt" 41 "EqualCourt$Steps" ∈ TW := tm_2 (List.mem_of_getElem? (i := 8) rfl) rfl
theorem tw_249 : Cond.instantiable "EqualCourt$Steps" 8 ∈ TW := tm_2 (List.mem_of_getElem? (i := 9) rfl) rfl
theorem tw_250 : Cond.methodLink "EqualCourt" 43 yX6_init ∈ TW := tm_2 (List.mem_of_getElem? (i := 10) rfl) rfl
theorem tw_251 : Cond.instanceMethod yX6_init ∈ TW := tm_2 (List.mem_of_getElem? (i := 11) rfl) rfl
theorem tw_252 : Cond.code yX6_init prog_8_method_1_code 3 (Option.none : Option Jvm.ClassFile.FieldType) ∈ TW := tm_2 (List.mem_of_getElem? (i := 12) rfl) rfl
theorem tw_253 : Cond.methodLink "EqualCourt$Steps" 3 ({ cls := "java/lang/Object", name := "<init>", desc := "()V" } : Jvm.MethodName) ∈ TW := tm_2 (List.mem_of_getElem? (i := 13) rfl) rfl
theorem tw_254 : Cond.fieldLink "EqualCourt$Steps" 27 "EqualCourt$Steps" "terms" "LEqualCourt$Terms;" ∈ TW := tm_2 (List.mem_of_getElem? (i := 14) rfl) rfl
theorem tw_255 : Cond.fieldLink "EqualCourt$Steps" 31 "EqualCourt$Steps" "sayings" "LEqualCourt$Sayings;" ∈ TW := tm_2 (List.mem_of_getElem? (i := 15) rfl) rfl
theorem tw_256 : Cond.fieldLink "EqualCourt$Steps" 9 "EqualCourt$Steps" "reasons" "[I" ∈ TW := tm_2 (List.mem_of_getElem? (i := 16) rfl) rfl
theorem tw_257 : Cond.fieldLink "EqualCourt$Steps" 15 "EqualCourt$Steps" "lefts" "[I" ∈ TW := tm_2 (List.mem_of_getElem? (i := 17) rfl) rfl
theorem tw_258 : Cond.fieldLink "EqualCourt$Steps" 18 "EqualCourt$Steps" "rights" "[I" ∈ TW := tm_2 (List.mem_of_getElem? (i := 18) rfl) rfl
theorem tw_259 : Cond.fieldLink "EqualCourt$Steps" 21 "EqualCourt$Steps" "is" "[I" ∈ TW := tm_2 (List.mem_of_getElem? (i := 19) rfl) rfl
theorem tw_260 : Cond.fieldLink "EqualCourt$Steps" 24 "EqualCourt$Steps" "js" "[I" ∈ TW := tm_2 (List.mem_of_getElem? (i := 20) rfl) rfl
theorem tw_261 : Cond.fieldLink "EqualCourt$Steps" 35 "EqualCourt$Steps" "count" "I" ∈ TW := tm_2 (List.mem_of_getElem? (i := 21) rfl) rfl
theorem tw_279 : Cond.classLink "EqualCourt" 48 "EqualCourt$Core" ∈ TW := tm_2 (List.mem_of_getElem? (i := 39) rfl) rfl
theorem tw_281 : Cond.fieldLink "EqualCourt" 10 "EqualCourt" "terms" "LEqualCourt$Terms;" ∈ TW := tm_2 (List.mem_of_getElem? (i := 41) rfl) rfl
theorem tw_282 : Cond.fieldLink "EqualCourt" 19 "EqualCourt" "sayings" "LEqualCourt$Sayings;" ∈ TW := tm_2 (List.mem_of_getElem? (i := 42) rfl) rfl
theorem tw_283 : Cond.fieldLink "EqualCourt" 28 "EqualCourt" "court" "LEqualCourt$Court;" ∈ TW := tm_2 (List.mem_of_getElem? (i := 43) rfl) rfl
theorem tw_284 : Cond.fieldLink "EqualCourt" 37 "EqualCourt" "maker" "LEqualCourt$Maker;" ∈ TW := tm_2 (List.mem_of_getElem? (i := 44) rfl) rfl
theorem tw_285 : Cond.fieldLink "EqualCourt" 44 "EqualCourt" "steps" "LEqualCourt$Steps;" ∈ TW := tm_2 (List.mem_of_getElem? (i := 45) rfl) rfl
theorem tw_286 : Cond.fieldLink "EqualCourt" 51 "EqualCourt" "clashCore" "LEqualCourt$Core;" ∈ TW := tm_2 (List.mem_of_getElem? (i := 46) rfl) rfl
theorem tw_287 : Cond.fieldLink "EqualCourt" 55 "EqualCourt" "causes" "LEqualCourt$Core;" ∈ TW := tm_2 (List.mem_of_getElem? (i := 47) rfl) rfl
theorem tw_288 : Cond.fieldLink "EqualCourt" 58 "EqualCourt" "lawLefts" "[I" ∈ TW := tm_2 (List.mem_of_getElem? (i := 48) rfl) rfl
theorem tw_289 : Cond.fieldLink "EqualCourt" 62 "EqualCourt" "lawRights" "[I" ∈ TW := tm_2 (List.mem_of_getElem? (i := 49) rfl) rfl
theorem tw_290 : Cond.fieldLink "EqualCourt" 65 "EqualCourt" "goneOver" "[I" ∈ TW := tm_2 (List.mem_of_getElem? (i := 50) rfl) rfl
theorem tw_291 : Cond.fieldLink "EqualCourt" 68 "EqualCourt" "lawCount" "I" ∈ TW := tm_2 (List.mem_of_getElem? (i := 51) rfl) rfl
theorem tw_292 : Cond.fieldLink "EqualCourt" 72 "EqualCourt" "endedBy" "I" ∈ TW := tm_2 (List.mem_of_getElem? (i := 52) rfl) rfl
theorem tw_293 : Cond.fieldLink "EqualCourt" 75 "EqualCourt" "finding" "I" ∈ TW := tm_2 (List.mem_of_getElem? (i := 53) rfl) rfl
theorem tw_321 : Cond.methodLink "EqualCourtLaw" 13 yX8_name ∈ TW := tm_2 (List.mem_of_getElem? (i := 81) rfl) rfl
theorem tw_322 : Cond.instanceMethod yX8_name ∈ TW := tm_2 (List.mem_of_getElem? (i := 82) rfl) rfl
theorem tw_323 : Cond.selects "EqualCourt" yX8_name yX8_name ∈ TW := tm_2 (List.mem_of_getElem? (i := 83) rfl) rfl
theorem tw_324 : Cond.code yX8_name prog_1_method_2_code 2 (Option.some Jvm.ClassFile.FieldType.int) ∈ TW := tm_2 (List.mem_of_getElem? (i := 84) rfl) rfl
theorem tw_325 : Cond.methodLink "EqualCourt" 78 yX8_refused ∈ TW := tm_2 (List.mem_of_getElem? (i := 85) rfl) rfl
theorem tw_327 : Cond.instanceMethod yX8_refused ∈ TW := tm_2 (List.mem_of_getElem? (i := 87) rfl) rfl
theorem tw_328 : Cond.code yX8_refused prog_1_method_34_code 2 (Option.some Jvm.ClassFile.FieldType.int) ∈ TW := tm_2 (List.mem_of_getElem? (i := 88) rfl) rfl
theorem tw_329 : Cond.methodLink "EqualCourt" 82 yX8_madeTerm ∈ TW := tm_2 (List.mem_of_getElem? (i := 89) rfl) rfl
theorem tw_331 : Cond.instanceMethod yX8_madeTerm ∈ TW := tm_2 (List.mem_of_getElem? (i := 91) rfl) rfl
theorem tw_332 : Cond.code yX8_madeTerm prog_1_method_36_code 8 (Option.some Jvm.ClassFile.FieldType.int) ∈ TW := tm_2 (List.mem_of_getElem? (i := 92) rfl) rfl
theorem tw_333 : Cond.methodLink "EqualCourt" 106 yX7_count ∈ TW := tm_2 (List.mem_of_getElem? (i := 93) rfl) rfl
theorem tw_334 : Cond.instanceMethod yX7_count ∈ TW := tm_2 (List.mem_of_getElem? (i := 94) rfl) rfl
theorem tw_335 : Cond.selects "EqualCourt$Terms" yX7_count yX7_count ∈ TW := tm_2 (List.mem_of_getElem? (i := 95) rfl) rfl
theorem tw_336 : Cond.code yX7_count prog_9_method_2_code 1 (Option.some Jvm.ClassFile.FieldType.int) ∈ TW := tm_2 (List.mem_of_getElem? (i := 96) rfl) rfl
theorem tw_337 : Cond.methodLink "EqualCourt" 225 yX7_findOrMake ∈ TW := tm_2 (List.mem_of_getElem? (i := 97) rfl) rfl
theorem tw_338 : Cond.instanceMethod yX7_findOrMake ∈ TW := tm_2 (List.mem_of_getElem? (i := 98) rfl) rfl
theorem tw_339 : Cond.selects "EqualCourt$Terms" yX7_findOrMake yX7_findOrMake ∈ TW := tm_2 (List.mem_of_getElem? (i := 99) rfl) rfl
theorem tw_340 : Cond.code yX7_findOrMake prog_9_method_11_code 10 (Option.some Jvm.ClassFile.FieldType.int) ∈ TW := tm_2 (List.mem_of_getElem? (i := 100) rfl) rfl
theorem tw_341 : Cond.methodLink "EqualCourt$Terms" 53 yX7_find ∈ TW := tm_2 (List.mem_of_getElem? (i := 101) rfl) rfl
theorem tw_342 : Cond.instanceMethod yX7_find ∈ TW := tm_2 (List.mem_of_getElem? (i := 102) rfl) rfl
theorem tw_343 : Cond.selects "EqualCourt$Terms" yX7_find yX7_find ∈ TW := tm_2 (List.mem_of_getElem? (i := 103) rfl) rfl
theorem tw_344 : Cond.code yX7_find prog_9_method_10_code 9 (Option.some Jvm.ClassFile.FieldType.int) ∈ TW := tm_2 (List.mem_of_getElem? (i := 104) rfl) rfl
theorem tw_346 : Cond.static yX8_slotFor ∈ TW := tm_2 (List.mem_of_getElem? (i := 106) rfl) rfl
theorem tw_347 : Cond.code yX8_slotFor prog_1_method_41_code 6 (Option.some Jvm.ClassFile.FieldType.int) ∈ TW := tm_2 (List.mem_of_getElem? (i := 107) rfl) rfl
theorem tw_348 : Cond.constant "EqualCourt" 240 (-1640531535 : Int32) ∈ TW := tm_2 (List.mem_of_getElem? (i := 108) rfl) rfl
theorem tw_349 : Cond.methodLink "EqualCourt$Terms" 56 yX7_isHole ∈ TW := tm_2 (List.mem_of_getElem? (i := 109) rfl) rfl
theorem tw_350 : Cond.instanceMethod yX7_isHole ∈ TW := tm_2 (List.mem_of_getElem? (i := 110) rfl) rfl
theorem tw_351 : Cond.selects "EqualCourt$Terms" yX7_isHole yX7_isHole ∈ TW := tm_2 (List.mem_of_getElem? (i := 111) rfl) rfl
theorem tw_352 : Cond.code yX7_isHole prog_9_method_9_code 2 (Option.some Jvm.ClassFile.FieldType.boolean) ∈ TW := tm_2 (List.mem_of_getElem? (i := 112) rfl) rfl
theorem tw_353 : Cond.methodLink "EqualCourt" 228 yX2_admitFrom ∈ TW := tm_2 (List.mem_of_getElem? (i := 113) rfl) rfl
theorem tw_354 : Cond.instanceMethod yX2_admitFrom ∈ TW := tm_2 (List.mem_of_getElem? (i := 114) rfl) rfl
theorem tw_355 : Cond.selects "EqualCourt$Court" yX2_admitFrom yX2_admitFrom ∈ TW := tm_2 (List.mem_of_getElem? (i := 115) rfl) rfl
theorem tw_356 : Cond.code yX2_admitFrom prog_4_method_3_code 3 (Option.none : Option Jvm.ClassFile.FieldType) ∈ TW := tm_2 (List.mem_of_getElem? (i := 116) rfl) rfl
theorem tw_357 : Cond.methodLink "EqualCourt$Court" 55 yX7_count ∈ TW := tm_2 (List.mem_of_getElem? (i := 117) rfl) rfl
theorem tw_358 : Cond.methodLink "EqualCourt$Court" 61 yX4_admit ∈ TW := tm_2 (List.mem_of_getElem? (i := 118) rfl) rfl
theorem tw_359 : Cond.instanceMethod yX4_admit ∈ TW := tm_2 (List.mem_of_getElem? (i := 119) rfl) rfl
theorem tw_360 : Cond.selects "EqualCourt$Partition" yX4_admit yX4_admit ∈ TW := tm_2 (List.mem_of_getElem? (i := 120) rfl) rfl
theorem tw_361 : Cond.code yX4_admit prog_6_method_10_code 2 (Option.none : Option Jvm.ClassFile.FieldType) ∈ TW := tm_2 (List.mem_of_getElem? (i := 121) rfl) rfl
theorem tw_362 : Cond.methodLink "EqualCourt$Partition" 90 yX7_kindOf ∈ TW := tm_2 (List.mem_of_getElem? (i := 122) rfl) rfl
theorem tw_363 : Cond.instanceMethod yX7_kindOf ∈ TW := tm_2 (List.mem_of_getElem? (i := 123) rfl) rfl
theorem tw_364 : Cond.selects "EqualCourt$Terms" yX7_kindOf yX7_kindOf ∈ TW := tm_2 (List.mem_of_getElem? (i := 124) rfl) rfl
theorem tw_365 : Cond.code yX7_kindOf prog_9_method_4_code 2 (Option.some Jvm.ClassFile.FieldType.int) ∈ TW := tm_2 (List.mem_of_getElem? (i := 125) rfl) rfl
theorem tw_366 : Cond.methodLink "EqualCourt$Partition" 68 yX7_sizeOf ∈ TW := tm_2 (List.mem_of_getElem? (i := 126) rfl) rfl
theorem tw_367 : Cond.instanceMethod yX7_sizeOf ∈ TW := tm_2 (List.mem_of_getElem? (i := 127) rfl) rfl
theorem tw_368 : Cond.selects "EqualCourt$Terms" yX7_sizeOf yX7_sizeOf ∈ TW := tm_2 (List.mem_of_getElem? (i := 128) rfl) rfl
theorem tw_369 : Cond.code yX7_sizeOf prog_9_method_6_code 2 (Option.some Jvm.ClassFile.FieldType.int) ∈ TW := tm_2 (List.mem_of_getElem? (i := 129) rfl) rfl
theorem tw_370 : Cond.methodLink "EqualCourt$Partition" 93 yX0_putChanged ∈ TW := tm_2 (List.mem_of_getElem? (i := 130) rfl) rfl
theorem tw_371 : Cond.instanceMethod yX0_putChanged ∈ TW := tm_2 (List.mem_of_getElem? (i := 131) rfl) rfl
theorem tw_372 : Cond.selects "EqualCourt$Agenda" yX0_putChanged yX0_putChanged ∈ TW := tm_2 (List.mem_of_getElem? (i := 132) rfl) rfl
theorem tw_373 : Cond.code yX0_putChanged prog_2_method_7_code 2 (Option.none : Option Jvm.ClassFile.FieldType) ∈ TW := tm_2 (List.mem_of_getElem? (i := 133) rfl) rfl
theorem tw_374 : Cond.methodLink "EqualCourt$Partition" 99 yX4_join ∈ TW := tm_2 (List.mem_of_getElem? (i := 134) rfl) rfl
theorem tw_375 : Cond.instanceMethod yX4_join ∈ TW := tm_2 (List.mem_of_getElem? (i := 135) rfl) rfl
theorem tw_376 : Cond.selects "EqualCourt$Partition" yX4_join yX4_join ∈ TW := tm_2 (List.mem_of_getElem? (i := 136) rfl) rfl
theorem tw_377 : Cond.code yX4_join prog_6_method_11_code 7 (Option.none : Option Jvm.ClassFile.FieldType) ∈ TW := tm_2 (List.mem_of_getElem? (i := 137) rfl) rfl
theorem tw_378 : Cond.methodLink "EqualCourt$Partition" 103 yX0_putPair ∈ TW := tm_2 (List.mem_of_getElem? (i := 138) rfl) rfl
theorem tw_379 : Cond.instanceMethod yX0_putPair ∈ TW := tm_2 (List.mem_of_getElem? (i := 139) rfl) rfl
theorem tw_380 : Cond.selects "EqualCourt$Agenda" yX0_putPair yX0_putPair ∈ TW := tm_2 (List.mem_of_getElem? (i := 140) rfl) rfl
theorem tw_381 : Cond.code yX0_putPair prog_2_method_2_code 3 (Option.none : Option Jvm.ClassFile.FieldType) ∈ TW := tm_2 (List.mem_of_getElem? (i := 141) rfl) rfl
theorem tw_382 : Cond.constant "EqualCourt$Partition" 106 (1000000 : Int32) ∈ TW := tm_2 (List.mem_of_getElem? (i := 142) rfl) rfl
theorem tw_383 : Cond.methodLink "EqualCourt$Partition" 107 yX0_hasPair ∈ TW := tm_2 (List.mem_of_getElem? (i := 143) rfl) rfl
theorem tw_384 : Cond.instanceMethod yX0_hasPair ∈ TW := tm_2 (List.mem_of_getElem? (i := 144) rfl) rfl
theorem tw_385 : Cond.selects "EqualCourt$Agenda" yX0_hasPair yX0_hasPair ∈ TW := tm_2 (List.mem_of_getElem? (i := 145) rfl) rfl
theorem tw_386 : Cond.code yX0_hasPair prog_2_method_3_code 1 (Option.some Jvm.ClassFile.FieldType.boolean) ∈ TW := tm_2 (List.mem_of_getElem? (i := 146) rfl) rfl
theorem tw_387 : Cond.methodLink "EqualCourt$Partition" 111 yX0_lastLeft ∈ TW := tm_2 (List.mem_of_getElem? (i := 147) rfl) rfl
theorem tw_388 : Cond.instanceMethod yX0_lastLeft ∈ TW := tm_2 (List.mem_of_getElem? (i := 148) rfl) rfl
theorem tw_389 : Cond.selects "EqualCourt$Agenda" yX0_lastLeft yX0_lastLeft ∈ TW := tm_2 (List.mem_of_getElem? (i := 149) rfl) rfl
theorem tw_390 : Cond.code yX0_lastLeft prog_2_method_4_code 1 (Option.some Jvm.ClassFile.FieldType.int) ∈ TW := tm_2 (List.mem_of_getElem? (i := 150) rfl) rfl
theorem tw_391 : Cond.methodLink "EqualCourt$Partition" 115 yX0_lastRight ∈ TW := tm_2 (List.mem_of_getElem? (i := 151) rfl) rfl
theorem tw_392 : Cond.instanceMethod yX0_lastRight ∈ TW := tm_2 (List.mem_of_getElem? (i := 152) rfl) rfl
theorem tw_393 : Cond.selects "EqualCourt$Agenda" yX0_lastRight yX0_lastRight ∈ TW := tm_2 (List.mem_of_getElem? (i := 153) rfl) rfl
theorem tw_394 : Cond.code yX0_lastRight prog_2_method_5_code 1 (Option.some Jvm.ClassFile.FieldType.int) ∈ TW := tm_2 (List.mem_of_getElem? (i := 154) rfl) rfl
theorem tw_395 : Cond.methodLink "EqualCourt$Partition" 118 yX0_removePair ∈ TW := tm_2 (List.mem_of_getElem? (i := 155) rfl) rfl
theorem tw_396 : Cond.instanceMethod yX0_removePair ∈ TW := tm_2 (List.mem_of_getElem? (i := 156) rfl) rfl
theorem tw_397 : Cond.selects "EqualCourt$Agenda" yX0_removePair yX0_removePair ∈ TW := tm_2 (List.mem_of_getElem? (i := 157) rfl) rfl
theorem tw_398 : Cond.code yX0_removePair prog_2_method_6_code 1 (Option.none : Option Jvm.ClassFile.FieldType) ∈ TW := tm_2 (List.mem_of_getElem? (i := 158) rfl) rfl
theorem tw_399 : Cond.methodLink "EqualCourt$Partition" 121 yX4_unite ∈ TW := tm_2 (List.mem_of_getElem? (i := 159) rfl) rfl
theorem tw_401 : Cond.instanceMethod yX4_unite ∈ TW := tm_2 (List.mem_of_getElem? (i := 161) rfl) rfl
theorem tw_402 : Cond.code yX4_unite prog_6_method_12_code 7 (Option.none : Option Jvm.ClassFile.FieldType) ∈ TW := tm_2 (List.mem_of_getElem? (i := 162) rfl) rfl
theorem tw_403 : Cond.methodLink "EqualCourt$Partition" 145 yJ9_min_7cf53 ∈ TW := tm_2 (List.mem_of_getElem? (i := 163) rfl) rfl
theorem tw_404 : Cond.static yJ9_min_7cf53 ∈ TW := tm_2 (List.mem_of_getElem? (i := 164) rfl) rfl
theorem tw_405 : Cond.code yJ9_min_7cf53 prog_12_method_69_code 2 (Option.some Jvm.ClassFile.FieldType.int) ∈ TW := tm_2 (List.mem_of_getElem? (i := 165) rfl) rfl
theorem tw_406 : Cond.methodLink "EqualCourt$Partition" 124 yX4_uniteRows ∈ TW := tm_2 (List.mem_of_getElem? (i := 166) rfl) rfl
theorem tw_408 : Cond.instanceMethod yX4_uniteRows ∈ TW := tm_2 (List.mem_of_getElem? (i := 168) rfl) rfl
theorem tw_409 : Cond.code yX4_uniteRows prog_6_method_13_code 5 (Option.none : Option Jvm.ClassFile.FieldType) ∈ TW := tm_2 (List.mem_of_getElem? (i := 169) rfl) rfl
theorem tw_410 : Cond.methodLink "EqualCourt$Partition" 127 yX0_hasChanged ∈ TW := tm_2 (List.mem_of_getElem? (i := 170) rfl) rfl
theorem tw_411 : Cond.instanceMethod yX0_hasChanged ∈ TW := tm_2 (List.mem_of_getElem? (i := 171) rfl) rfl
theorem tw_412 : Cond.selects "EqualCourt$Agenda" yX0_hasChanged yX0_hasChanged ∈ TW := tm_2 (List.mem_of_getElem? (i := 172) rfl) rfl
theorem tw_413 : Cond.code yX0_hasChanged prog_2_method_8_code 1 (Option.some Jvm.ClassFile.FieldType.boolean) ∈ TW := tm_2 (List.mem_of_getElem? (i := 173) rfl) rfl
theorem tw_414 : Cond.methodLink "EqualCourt$Partition" 130 yX0_takeChanged ∈ TW := tm_2 (List.mem_of_getElem? (i := 174) rfl) rfl
theorem tw_415 : Cond.instanceMethod yX0_takeChanged ∈ TW := tm_2 (List.mem_of_getElem? (i := 175) rfl) rfl
theorem tw_416 : Cond.selects "EqualCourt$Agenda" yX0_takeChanged yX0_takeChanged ∈ TW := tm_2 (List.mem_of_getElem? (i := 176) rfl) rfl
theorem tw_417 : Cond.code yX0_takeChanged prog_2_method_9_code 2 (Option.some Jvm.ClassFile.FieldType.int) ∈ TW := tm_2 (List.mem_of_getElem? (i := 177) rfl) rfl
theorem tw_418 : Cond.methodLink "EqualCourt$Partition" 133 yX4_review ∈ TW := tm_2 (List.mem_of_getElem? (i := 178) rfl) rfl
theorem tw_420 : Cond.instanceMethod yX4_review ∈ TW := tm_2 (List.mem_of_getElem? (i := 180) rfl) rfl
theorem tw_421 : Cond.code yX4_review prog_6_method_14_code 8 (Option.none : Option Jvm.ClassFile.FieldType) ∈ TW := tm_2 (List.mem_of_getElem? (i := 181) rfl) rfl
theorem tw_422 : Cond.methodLink "EqualCourt$Partition" 153 yX4_takeOut ∈ TW := tm_2 (List.mem_of_getElem? (i := 182) rfl) rfl
theorem tw_424 : Cond.instanceMethod yX4_takeOut ∈ TW := tm_2 (List.mem_of_getElem? (i := 184) rfl) rfl
theorem tw_425 : Cond.code yX4_takeOut prog_6_method_17_code 5 (Option.none : Option Jvm.ClassFile.FieldType) ∈ TW := tm_2 (List.mem_of_getElem? (i := 185) rfl) rfl
theorem tw_426 : Cond.methodLink "EqualCourt$Partition" 156 yX4_rootOfPart ∈ TW := tm_2 (List.mem_of_getElem? (i := 186) rfl) rfl
theorem tw_428 : Cond.instanceMethod yX4_rootOfPart ∈ TW := tm_2 (List.mem_of_getElem? (i := 188) rfl) rfl
theorem tw_429 : Cond.code yX4_rootOfPart prog_6_method_15_code 3 (Option.some Jvm.ClassFile.FieldType.int) ∈ TW := tm_2 (List.mem_of_getElem? (i := 189) rfl) rfl
theorem tw_431 : Cond.methodLink "EqualCourt$Partition" 169 yX4_isBuiltAlike ∈ TW := tm_2 (List.mem_of_getElem? (i := 191) rfl) rfl
theorem tw_433 : Cond.instanceMethod yX4_isBuiltAlike ∈ TW := tm_2 (List.mem_of_getElem? (i := 193) rfl) rfl
theorem tw_434 : Cond.code yX4_isBuiltAlike prog_6_method_16_code 8 (Option.some Jvm.ClassFile.FieldType.boolean) ∈ TW := tm_2 (List.mem_of_getElem? (i := 194) rfl) rfl
theorem tw_435 : Cond.methodLink "EqualCourt$Partition" 136 yX0_clear ∈ TW := tm_2 (List.mem_of_getElem? (i := 195) rfl) rfl
theorem tw_436 : Cond.instanceMethod yX0_clear ∈ TW := tm_2 (List.mem_of_getElem? (i := 196) rfl) rfl
theorem tw_437 : Cond.selects "EqualCourt$Agenda" yX0_clear yX0_clear ∈ TW := tm_2 (List.mem_of_getElem? (i := 197) rfl) rfl
theorem tw_438 : Cond.code yX0_clear prog_2_method_10_code 2 (Option.none : Option Jvm.ClassFile.FieldType) ∈ TW := tm_2 (List.mem_of_getElem? (i := 198) rfl) rfl
theorem tw_439 : Cond.methodLink "EqualCourt" 100 yX8_done ∈ TW := tm_2 (List.mem_of_getElem? (i := 199) rfl) rfl
theorem tw_441 : Cond.instanceMethod yX8_done ∈ TW := tm_2 (List.mem_of_getElem? (i := 201) rfl) rfl
theorem tw_442 : Cond.code yX8_done prog_1_method_35_code 2 (Option.some Jvm.ClassFile.FieldType.int) ∈ TW := tm_2 (List.mem_of_getElem? (i := 202) rfl) rfl
theorem tw_443 : Cond.methodLink "EqualCourtLaw" 18 yX8_number ∈ TW := tm_2 (List.mem_of_getElem? (i := 203) rfl) rfl
theorem tw_444 : Cond.instanceMethod yX8_number ∈ TW := tm_2 (List.mem_of_getElem? (i := 204) rfl) rfl
theorem tw_445 : Cond.selects "EqualCourt" yX8_number yX8_number ∈ TW := tm_2 (List.mem_of_getElem? (i := 205) rfl) rfl
theorem tw_446 : Cond.code yX8_number prog_1_method_3_code 2 (Option.some Jvm.ClassFile.FieldType.int) ∈ TW := tm_2 (List.mem_of_getElem? (i := 206) rfl) rfl
theorem tw_447 : Cond.methodLink "EqualCourtLaw" 22 yX8_built ∈ TW := tm_2 (List.mem_of_getElem? (i := 207) rfl) rfl
theorem tw_448 : Cond.instanceMethod yX8_built ∈ TW := tm_2 (List.mem_of_getElem? (i := 208) rfl) rfl
theorem tw_449 : Cond.selects "EqualCourt" yX8_built yX8_built ∈ TW := tm_2 (List.mem_of_getElem? (i := 209) rfl) rfl
theorem tw_450 : Cond.code yX8_built prog_1_method_4_code 6 (Option.some Jvm.ClassFile.FieldType.int) ∈ TW := tm_2 (List.mem_of_getElem? (i := 210) rfl) rfl
theorem tw_451 : Cond.methodLink "EqualCourt" 86 yX7_has ∈ TW := tm_2 (List.mem_of_getElem? (i := 211) rfl) rfl
theorem tw_452 : Cond.instanceMethod yX7_has ∈ TW := tm_2 (List.mem_of_getElem? (i := 212) rfl) rfl
theorem tw_453 : Cond.selects "EqualCourt$Terms" yX7_has yX7_has ∈ TW := tm_2 (List.mem_of_getElem? (i := 213) rfl) rfl
theorem tw_454 : Cond.code yX7_has prog_9_method_3_code 2 (Option.some Jvm.ClassFile.FieldType.boolean) ∈ TW := tm_2 (List.mem_of_getElem? (i := 214) rfl) rfl
theorem tw_455 : Cond.methodLink "EqualCourtLaw" 27 yX8_row ∈ TW := tm_2 (List.mem_of_getElem? (i := 215) rfl) rfl
theorem tw_456 : Cond.instanceMethod yX8_row ∈ TW := tm_2 (List.mem_of_getElem? (i := 216) rfl) rfl
theorem tw_457 : Cond.selects "EqualCourt" yX8_row yX8_row ∈ TW := tm_2 (List.mem_of_getElem? (i := 217) rfl) rfl
theorem tw_458 : Cond.code yX8_row prog_1_method_5_code 3 (Option.some Jvm.ClassFile.FieldType.int) ∈ TW := tm_2 (List.mem_of_getElem? (i := 218) rfl) rfl
theorem tw_459 : Cond.methodLink "EqualCourtLaw" 32 yX8_even ∈ TW := tm_2 (List.mem_of_getElem? (i := 219) rfl) rfl
theorem tw_460 : Cond.instanceMethod yX8_even ∈ TW := tm_2 (List.mem_of_getElem? (i := 220) rfl) rfl
theorem tw_461 : Cond.selects "EqualCourt" yX8_even yX8_even ∈ TW := tm_2 (List.mem_of_getElem? (i := 221) rfl) rfl
theorem tw_462 : Cond.code yX8_even prog_1_method_6_code 4 (Option.some Jvm.ClassFile.FieldType.int) ∈ TW := tm_2 (List.mem_of_getElem? (i := 222) rfl) rfl
theorem tw_463 : Cond.methodLink "EqualCourtLaw" 37 yX8_kind ∈ TW := tm_2 (List.mem_of_getElem? (i := 223) rfl) rfl
theorem tw_464 : Cond.instanceMethod yX8_kind ∈ TW := tm_2 (List.mem_of_getElem? (i := 224) rfl) rfl
theorem tw_465 : Cond.selects "EqualCourt" yX8_kind yX8_kind ∈ TW := tm_2 (List.mem_of_getElem? (i := 225) rfl) rfl
theorem tw_466 : Cond.code yX8_kind prog_1_method_7_code 2 (Option.some Jvm.ClassFile.FieldType.int) ∈ TW := tm_2 (List.mem_of_getElem? (i := 226) rfl) rfl
theorem tw_467 : Cond.methodLink "EqualCourt" 90 yX7_kindOf ∈ TW := tm_2 (List.mem_of_getElem? (i := 227) rfl) rfl
theorem tw_468 : Cond.methodLink "EqualCourtLaw" 41 yX8_part ∈ TW := tm_2 (List.mem_of_getElem? (i := 228) rfl) rfl
theorem tw_469 : Cond.instanceMethod yX8_part ∈ TW := tm_2 (List.mem_of_getElem? (i := 229) rfl) rfl
theorem tw_470 : Cond.selects "EqualCourt" yX8_part yX8_part ∈ TW := tm_2 (List.mem_of_getElem? (i := 230) rfl) rfl
theorem tw_471 : Cond.code yX8_part prog_1_method_8_code 3 (Option.some Jvm.ClassFile.FieldType.int) ∈ TW := tm_2 (List.mem_of_getElem? (i := 231) rfl) rfl
theorem tw_472 : Cond.methodLink "EqualCourt" 93 yX7_sizeOf ∈ TW := tm_2 (List.mem_of_getElem? (i := 232) rfl) rfl
theorem tw_473 : Cond.methodLink "EqualCourt" 96 yX7_partOf ∈ TW := tm_2 (List.mem_of_getElem? (i := 233) rfl) rfl
theorem tw_474 : Cond.instanceMethod yX7_partOf ∈ TW := tm_2 (List.mem_of_getElem? (i := 234) rfl) rfl
theorem tw_475 : Cond.selects "EqualCourt$Terms" yX7_partOf yX7_partOf ∈ TW := tm_2 (List.mem_of_getElem? (i := 235) rfl) rfl
theorem tw_476 : Cond.code yX7_partOf prog_9_method_7_code 3 (Option.some Jvm.ClassFile.FieldType.int) ∈ TW := tm_2 (List.mem_of_getElem? (i := 236) rfl) rfl
theorem tw_477 : Cond.methodLink "EqualCourtLaw" 45 yX8_shows ∈ TW := tm_2 (List.mem_of_getElem? (i := 237) rfl) rfl
theorem tw_478 : Cond.instanceMethod yX8_shows ∈ TW := tm_2 (List.mem_of_getElem? (i := 238) rfl) rfl
theorem tw_479 : Cond.selects "EqualCourt" yX8_shows yX8_shows ∈ TW := tm_2 (List.mem_of_getElem? (i := 239) rfl) rfl
theorem tw_480 : Cond.code yX8_shows prog_1_method_9_code 2 (Option.some Jvm.ClassFile.FieldType.int) ∈ TW := tm_3 (List.mem_of_getElem? (i := 0) rfl) rfl
theorem tw_481 : Cond.methodLink "EqualCourt" 103 yX7_shownBy ∈ TW := tm_3 (List.mem_of_getElem? (i := 1) rfl) rfl
theorem tw_482 : Cond.instanceMethod yX7_shownBy ∈ TW := tm_3 (List.mem_of_getElem? (i := 2) rfl) rfl
theorem tw_483 : Cond.selects "EqualCourt$Terms" yX7_shownBy yX7_shownBy ∈ TW := tm_3 (List.mem_of_getElem? (i := 3) rfl) rfl
theorem tw_484 : Cond.code yX7_shownBy prog_9_method_5_code 2 (Option.some Jvm.ClassFile.FieldType.int) ∈ TW := tm_3 (List.mem_of_getElem? (i := 4) rfl) rfl
theorem tw_485 : Cond.methodLink "EqualCourtLaw" 49 yX8_many ∈ TW := tm_3 (List.mem_of_getElem? (i := 5) rfl) rfl
theorem tw_486 : Cond.instanceMethod yX8_many ∈ TW := tm_3 (List.mem_of_getElem? (i := 6) rfl) rfl
theorem tw_487 : Cond.selects "EqualCourt" yX8_many yX8_many ∈ TW := tm_3 (List.mem_of_getElem? (i := 7) rfl) rfl
theorem tw_488 : Cond.code yX8_many prog_1_method_10_code 2 (Option.some Jvm.ClassFile.FieldType.int) ∈ TW := tm_3 (List.mem_of_getElem? (i := 8) rfl) rfl
theorem tw_489 : Cond.methodLink "EqualCourt" 110 yX5_count ∈ TW := tm_3 (List.mem_of_getElem? (i := 9) rfl) rfl
theorem tw_490 : Cond.instanceMethod yX5_count ∈ TW := tm_3 (List.mem_of_getElem? (i := 10) rfl) rfl
theorem tw_491 : Cond.selects "EqualCourt$Sayings" yX5_count yX5_count ∈ TW := tm_3 (List.mem_of_getElem? (i := 11) rfl) rfl
theorem tw_492 : Cond.code yX5_count prog_7_method_2_code 1 (Option.some Jvm.ClassFile.FieldType.int) ∈ TW := tm_3 (List.mem_of_getElem? (i := 12) rfl) rfl
theorem tw_493 : Cond.methodLink "EqualCourt" 111 yX5_takenCount ∈ TW := tm_3 (List.mem_of_getElem? (i := 13) rfl) rfl
theorem tw_494 : Cond.instanceMethod yX5_takenCount ∈ TW := tm_3 (List.mem_of_getElem? (i := 14) rfl) rfl
theorem tw_495 : Cond.selects "EqualCourt$Sayings" yX5_takenCount yX5_takenCount ∈ TW := tm_3 (List.mem_of_getElem? (i := 15) rfl) rfl
theorem tw_496 : Cond.code yX5_takenCount prog_7_method_3_code 1 (Option.some Jvm.ClassFile.FieldType.int) ∈ TW := tm_3 (List.mem_of_getElem? (i := 16) rfl) rfl
theorem tw_497 : Cond.methodLink "EqualCourt" 114 yX6_count ∈ TW := tm_3 (List.mem_of_getElem? (i := 17) rfl) rfl
theorem tw_498 : Cond.instanceMethod yX6_count ∈ TW := tm_3 (List.mem_of_getElem? (i := 18) rfl) rfl
theorem tw_499 : Cond.selects "EqualCourt$Steps" yX6_count yX6_count ∈ TW := tm_3 (List.mem_of_getElem? (i := 19) rfl) rfl
theorem tw_500 : Cond.code yX6_count prog_8_method_2_code 1 (Option.some Jvm.ClassFile.FieldType.int) ∈ TW := tm_3 (List.mem_of_getElem? (i := 20) rfl) rfl
theorem tw_501 : Cond.methodLink "EqualCourt" 115 yX5_levels ∈ TW := tm_3 (List.mem_of_getElem? (i := 21) rfl) rfl
theorem tw_502 : Cond.instanceMethod yX5_levels ∈ TW := tm_3 (List.mem_of_getElem? (i := 22) rfl) rfl
theorem tw_503 : Cond.selects "EqualCourt$Sayings" yX5_levels yX5_levels ∈ TW := tm_3 (List.mem_of_getElem? (i := 23) rfl) rfl
theorem tw_504 : Cond.code yX5_levels prog_7_method_4_code 1 (Option.some Jvm.ClassFile.FieldType.int) ∈ TW := tm_3 (List.mem_of_getElem? (i := 24) rfl) rfl
theorem tw_505 : Cond.methodLink "EqualCourt" 118 yX2_standing ∈ TW := tm_3 (List.mem_of_getElem? (i := 25) rfl) rfl
theorem tw_506 : Cond.instanceMethod yX2_standing ∈ TW := tm_3 (List.mem_of_getElem? (i := 26) rfl) rfl
theorem tw_507 : Cond.selects "EqualCourt$Court" yX2_standing yX2_standing ∈ TW := tm_3 (List.mem_of_getElem? (i := 27) rfl) rfl
theorem tw_508 : Cond.code yX2_standing prog_4_method_2_code 1 (Option.some (Jvm.ClassFile.FieldType.object "EqualCourt$Partition")) ∈ TW := tm_3 (List.mem_of_getElem? (i := 28) rfl) rfl
theorem tw_509 : Cond.methodLink "EqualCourt" 122 yX4_classes ∈ TW := tm_3 (List.mem_of_getElem? (i := 29) rfl) rfl
theorem tw_510 : Cond.instanceMethod yX4_classes ∈ TW := tm_3 (List.mem_of_getElem? (i := 30) rfl) rfl
theorem tw_511 : Cond.selects "EqualCourt$Partition" yX4_classes yX4_classes ∈ TW := tm_3 (List.mem_of_getElem? (i := 31) rfl) rfl
theorem tw_512 : Cond.code yX4_classes prog_6_method_2_code 1 (Option.some Jvm.ClassFile.FieldType.int) ∈ TW := tm_3 (List.mem_of_getElem? (i := 32) rfl) rfl
theorem tw_513 : Cond.methodLink "EqualCourtLaw" 53 yX8_say ∈ TW := tm_3 (List.mem_of_getElem? (i := 33) rfl) rfl
theorem tw_514 : Cond.instanceMethod yX8_say ∈ TW := tm_3 (List.mem_of_getElem? (i := 34) rfl) rfl
theorem tw_515 : Cond.selects "EqualCourt" yX8_say yX8_say ∈ TW := tm_3 (List.mem_of_getElem? (i := 35) rfl) rfl
theorem tw_516 : Cond.code yX8_say prog_1_method_11_code 3 (Option.some Jvm.ClassFile.FieldType.int) ∈ TW := tm_3 (List.mem_of_getElem? (i := 36) rfl) rfl
theorem tw_517 : Cond.methodLink "EqualCourt" 127 yX5_isFull ∈ TW := tm_3 (List.mem_of_getElem? (i := 37) rfl) rfl
theorem tw_518 : Cond.instanceMethod yX5_isFull ∈ TW := tm_3 (List.mem_of_getElem? (i := 38) rfl) rfl
theorem tw_519 : Cond.selects "EqualCourt$Sayings" yX5_isFull yX5_isFull ∈ TW := tm_3 (List.mem_of_getElem? (i := 39) rfl) rfl
theorem tw_520 : Cond.code yX5_isFull prog_7_method_6_code 1 (Option.some Jvm.ClassFile.FieldType.boolean) ∈ TW := tm_3 (List.mem_of_getElem? (i := 40) rfl) rfl
theorem tw_521 : Cond.methodLink "EqualCourt" 131 yX2_wouldClash ∈ TW := tm_3 (List.mem_of_getElem? (i := 41) rfl) rfl
theorem tw_522 : Cond.instanceMethod yX2_wouldClash ∈ TW := tm_3 (List.mem_of_getElem? (i := 42) rfl) rfl
theorem tw_523 : Cond.selects "EqualCourt$Court" yX2_wouldClash yX2_wouldClash ∈ TW := tm_3 (List.mem_of_getElem? (i := 43) rfl) rfl
theorem tw_524 : Cond.code yX2_wouldClash prog_4_method_5_code 4 (Option.some Jvm.ClassFile.FieldType.boolean) ∈ TW := tm_3 (List.mem_of_getElem? (i := 44) rfl) rfl
theorem tw_525 : Cond.methodLink "EqualCourt$Court" 65 yX4_copyFrom ∈ TW := tm_3 (List.mem_of_getElem? (i := 45) rfl) rfl
theorem tw_526 : Cond.instanceMethod yX4_copyFrom ∈ TW := tm_3 (List.mem_of_getElem? (i := 46) rfl) rfl
theorem tw_527 : Cond.selects "EqualCourt$Partition" yX4_copyFrom yX4_copyFrom ∈ TW := tm_3 (List.mem_of_getElem? (i := 47) rfl) rfl
theorem tw_528 : Cond.code yX4_copyFrom prog_6_method_9_code 2 (Option.none : Option Jvm.ClassFile.FieldType) ∈ TW := tm_3 (List.mem_of_getElem? (i := 48) rfl) rfl
theorem tw_529 : Cond.methodLink "EqualCourt$Partition" 84 ({ cls := "java/lang/System", name := "arraycopy", desc := "(Ljava/lang/Object;ILjava/lang/Object;II)V" } : Jvm.MethodName) ∈ TW := tm_3 (List.mem_of_getElem? (i := 49) rfl) rfl
theorem tw_530 : Cond.static ({ cls := "java/lang/System", name := "arraycopy", desc := "(Ljava/lang/Object;ILjava/lang/Object;II)V" } : Jvm.MethodName) ∈ TW := tm_3 (List.mem_of_getElem? (i := 50) rfl) rfl
theorem tw_531 : Cond.native ({ cls := "java/lang/System", name := "arraycopy", desc := "(Ljava/lang/Object;ILjava/lang/Object;II)V" } : Jvm.MethodName) ∈ TW := tm_3 (List.mem_of_getElem? (i := 51) rfl) rfl
theorem tw_532 : Cond.methodLink "EqualCourt$Court" 86 yX4_join ∈ TW := tm_3 (List.mem_of_getElem? (i := 52) rfl) rfl
theorem tw_533 : Cond.methodLink "EqualCourt$Court" 90 yX4_isTorn ∈ TW := tm_3 (List.mem_of_getElem? (i := 53) rfl) rfl
theorem tw_534 : Cond.instanceMethod yX4_isTorn ∈ TW := tm_3 (List.mem_of_getElem? (i := 54) rfl) rfl
theorem tw_535 : Cond.selects "EqualCourt$Partition" yX4_isTorn yX4_isTorn ∈ TW := tm_3 (List.mem_of_getElem? (i := 55) rfl) rfl
theorem tw_536 : Cond.code yX4_isTorn prog_6_method_3_code 1 (Option.some Jvm.ClassFile.FieldType.boolean) ∈ TW := tm_3 (List.mem_of_getElem? (i := 56) rfl) rfl
theorem tw_537 : Cond.methodLink "EqualCourt$Court" 69 yX5_count ∈ TW := tm_3 (List.mem_of_getElem? (i := 57) rfl) rfl
theorem tw_538 : Cond.methodLink "EqualCourt$Court" 72 yX5_isTaken ∈ TW := tm_3 (List.mem_of_getElem? (i := 58) rfl) rfl
theorem tw_539 : Cond.instanceMethod yX5_isTaken ∈ TW := tm_3 (List.mem_of_getElem? (i := 59) rfl) rfl
theorem tw_540 : Cond.selects "EqualCourt$Sayings" yX5_isTaken yX5_isTaken ∈ TW := tm_3 (List.mem_of_getElem? (i := 60) rfl) rfl
theorem tw_541 : Cond.code yX5_isTaken prog_7_method_10_code 2 (Option.some Jvm.ClassFile.FieldType.boolean) ∈ TW := tm_3 (List.mem_of_getElem? (i := 61) rfl) rfl
theorem tw_542 : Cond.methodLink "EqualCourt$Court" 76 yX5_isSame ∈ TW := tm_3 (List.mem_of_getElem? (i := 62) rfl) rfl
theorem tw_543 : Cond.instanceMethod yX5_isSame ∈ TW := tm_3 (List.mem_of_getElem? (i := 63) rfl) rfl
theorem tw_544 : Cond.selects "EqualCourt$Sayings" yX5_isSame yX5_isSame ∈ TW := tm_3 (List.mem_of_getElem? (i := 64) rfl) rfl
theorem tw_545 : Cond.code yX5_isSame prog_7_method_7_code 2 (Option.some Jvm.ClassFile.FieldType.boolean) ∈ TW := tm_3 (List.mem_of_getElem? (i := 65) rfl) rfl
theorem tw_546 : Cond.methodLink "EqualCourt$Court" 79 yX5_left ∈ TW := tm_3 (List.mem_of_getElem? (i := 66) rfl) rfl
theorem tw_547 : Cond.instanceMethod yX5_left ∈ TW := tm_3 (List.mem_of_getElem? (i := 67) rfl) rfl
theorem tw_548 : Cond.selects "EqualCourt$Sayings" yX5_left yX5_left ∈ TW := tm_3 (List.mem_of_getElem? (i := 68) rfl) rfl
theorem tw_549 : Cond.code yX5_left prog_7_method_8_code 2 (Option.some Jvm.ClassFile.FieldType.int) ∈ TW := tm_3 (List.mem_of_getElem? (i := 69) rfl) rfl
theorem tw_550 : Cond.methodLink "EqualCourt$Court" 83 yX5_right ∈ TW := tm_3 (List.mem_of_getElem? (i := 70) rfl) rfl
theorem tw_551 : Cond.instanceMethod yX5_right ∈ TW := tm_3 (List.mem_of_getElem? (i := 71) rfl) rfl
theorem tw_552 : Cond.selects "EqualCourt$Sayings" yX5_right yX5_right ∈ TW := tm_3 (List.mem_of_getElem? (i := 72) rfl) rfl
theorem tw_553 : Cond.code yX5_right prog_7_method_9_code 2 (Option.some Jvm.ClassFile.FieldType.int) ∈ TW := tm_3 (List.mem_of_getElem? (i := 73) rfl) rfl
theorem tw_554 : Cond.methodLink "EqualCourt$Court" 94 yX4_isOne ∈ TW := tm_3 (List.mem_of_getElem? (i := 74) rfl) rfl
theorem tw_555 : Cond.instanceMethod yX4_isOne ∈ TW := tm_3 (List.mem_of_getElem? (i := 75) rfl) rfl
theorem tw_556 : Cond.selects "EqualCourt$Partition" yX4_isOne yX4_isOne ∈ TW := tm_3 (List.mem_of_getElem? (i := 76) rfl) rfl
theorem tw_557 : Cond.code yX4_isOne prog_6_method_4_code 3 (Option.some Jvm.ClassFile.FieldType.boolean) ∈ TW := tm_3 (List.mem_of_getElem? (i := 77) rfl) rfl
theorem tw_558 : Cond.methodLink "EqualCourt" 135 yX2_thin ∈ TW := tm_3 (List.mem_of_getElem? (i := 78) rfl) rfl
theorem tw_559 : Cond.instanceMethod yX2_thin ∈ TW := tm_3 (List.mem_of_getElem? (i := 79) rfl) rfl
theorem tw_560 : Cond.selects "EqualCourt$Court" yX2_thin yX2_thin ∈ TW := tm_3 (List.mem_of_getElem? (i := 80) rfl) rfl
theorem tw_561 : Cond.code yX2_thin prog_4_method_7_code 8 (Option.none : Option Jvm.ClassFile.FieldType) ∈ TW := tm_3 (List.mem_of_getElem? (i := 81) rfl) rfl
theorem tw_562 : Cond.methodLink "EqualCourt$Court" 98 yX1_clear ∈ TW := tm_3 (List.mem_of_getElem? (i := 82) rfl) rfl
theorem tw_563 : Cond.instanceMethod yX1_clear ∈ TW := tm_3 (List.mem_of_getElem? (i := 83) rfl) rfl
theorem tw_564 : Cond.selects "EqualCourt$Core" yX1_clear yX1_clear ∈ TW := tm_3 (List.mem_of_getElem? (i := 84) rfl) rfl
theorem tw_565 : Cond.code yX1_clear prog_3_method_5_code 1 (Option.none : Option Jvm.ClassFile.FieldType) ∈ TW := tm_3 (List.mem_of_getElem? (i := 85) rfl) rfl
theorem tw_566 : Cond.methodLink "EqualCourt$Court" 101 yX1_count ∈ TW := tm_3 (List.mem_of_getElem? (i := 86) rfl) rfl
theorem tw_567 : Cond.instanceMethod yX1_count ∈ TW := tm_3 (List.mem_of_getElem? (i := 87) rfl) rfl
theorem tw_568 : Cond.selects "EqualCourt$Core" yX1_count yX1_count ∈ TW := tm_3 (List.mem_of_getElem? (i := 88) rfl) rfl
theorem tw_569 : Cond.code yX1_count prog_3_method_2_code 1 (Option.some Jvm.ClassFile.FieldType.int) ∈ TW := tm_3 (List.mem_of_getElem? (i := 89) rfl) rfl
theorem tw_570 : Cond.methodLink "EqualCourt$Court" 102 yX1_at ∈ TW := tm_3 (List.mem_of_getElem? (i := 90) rfl) rfl
theorem tw_571 : Cond.instanceMethod yX1_at ∈ TW := tm_3 (List.mem_of_getElem? (i := 91) rfl) rfl
theorem tw_572 : Cond.selects "EqualCourt$Core" yX1_at yX1_at ∈ TW := tm_3 (List.mem_of_getElem? (i := 92) rfl) rfl
theorem tw_573 : Cond.code yX1_at prog_3_method_3_code 2 (Option.some Jvm.ClassFile.FieldType.int) ∈ TW := tm_3 (List.mem_of_getElem? (i := 93) rfl) rfl
theorem tw_574 : Cond.methodLink "EqualCourt$Court" 105 yX2_addToTrial ∈ TW := tm_3 (List.mem_of_getElem? (i := 94) rfl) rfl
theorem tw_576 : Cond.instanceMethod yX2_addToTrial ∈ TW := tm_3 (List.mem_of_getElem? (i := 96) rfl) rfl
theorem tw_577 : Cond.code yX2_addToTrial prog_4_method_8_code 2 (Option.some Jvm.ClassFile.FieldType.boolean) ∈ TW := tm_3 (List.mem_of_getElem? (i := 97) rfl) rfl
theorem tw_578 : Cond.methodLink "EqualCourt$Court" 112 yX1_add ∈ TW := tm_3 (List.mem_of_getElem? (i := 98) rfl) rfl
theorem tw_579 : Cond.instanceMethod yX1_add ∈ TW := tm_3 (List.mem_of_getElem? (i := 99) rfl) rfl
theorem tw_580 : Cond.selects "EqualCourt$Core" yX1_add yX1_add ∈ TW := tm_3 (List.mem_of_getElem? (i := 100) rfl) rfl
theorem tw_581 : Cond.code yX1_add prog_3_method_4_code 2 (Option.none : Option Jvm.ClassFile.FieldType) ∈ TW := tm_3 (List.mem_of_getElem? (i := 101) rfl) rfl
theorem tw_582 : Cond.methodLink "EqualCourt$Court" 108 yX2_isReached ∈ TW := tm_3 (List.mem_of_getElem? (i := 102) rfl) rfl
theorem tw_584 : Cond.instanceMethod yX2_isReached ∈ TW := tm_3 (List.mem_of_getElem? (i := 104) rfl) rfl
theorem tw_585 : Cond.code yX2_isReached prog_4_method_9_code 6 (Option.some Jvm.ClassFile.FieldType.boolean) ∈ TW := tm_3 (List.mem_of_getElem? (i := 105) rfl) rfl
theorem tw_586 : Cond.methodLink "EqualCourt" 139 yX2_acceptTrial ∈ TW := tm_3 (List.mem_of_getElem? (i := 106) rfl) rfl
theorem tw_587 : Cond.instanceMethod yX2_acceptTrial ∈ TW := tm_3 (List.mem_of_getElem? (i := 107) rfl) rfl
theorem tw_588 : Cond.selects "EqualCourt$Court" yX2_acceptTrial yX2_acceptTrial ∈ TW := tm_3 (List.mem_of_getElem? (i := 108) rfl) rfl
theorem tw_589 : Cond.code yX2_acceptTrial prog_4_method_6_code 2 (Option.none : Option Jvm.ClassFile.FieldType) ∈ TW := tm_3 (List.mem_of_getElem? (i := 109) rfl) rfl
theorem tw_590 : Cond.methodLink "EqualCourt" 142 yX5_add ∈ TW := tm_3 (List.mem_of_getElem? (i := 110) rfl) rfl
theorem tw_591 : Cond.instanceMethod yX5_add ∈ TW := tm_3 (List.mem_of_getElem? (i := 111) rfl) rfl
theorem tw_592 : Cond.selects "EqualCourt$Sayings" yX5_add yX5_add ∈ TW := tm_3 (List.mem_of_getElem? (i := 112) rfl) rfl
theorem tw_593 : Cond.code yX5_add prog_7_method_11_code 4 (Option.some Jvm.ClassFile.FieldType.int) ∈ TW := tm_3 (List.mem_of_getElem? (i := 113) rfl) rfl
theorem tw_594 : Cond.methodLink "EqualCourtLaw" 57 yX8_unlike ∈ TW := tm_3 (List.mem_of_getElem? (i := 114) rfl) rfl
theorem tw_595 : Cond.instanceMethod yX8_unlike ∈ TW := tm_3 (List.mem_of_getElem? (i := 115) rfl) rfl
theorem tw_596 : Cond.selects "EqualCourt" yX8_unlike yX8_unlike ∈ TW := tm_3 (List.mem_of_getElem? (i := 116) rfl) rfl
theorem tw_597 : Cond.code yX8_unlike prog_1_method_12_code 3 (Option.some Jvm.ClassFile.FieldType.int) ∈ TW := tm_3 (List.mem_of_getElem? (i := 117) rfl) rfl
theorem tw_598 : Cond.methodLink "EqualCourt" 146 yX4_isOne ∈ TW := tm_3 (List.mem_of_getElem? (i := 118) rfl) rfl
theorem tw_599 : Cond.methodLink "EqualCourtLaw" 61 yX8_drop ∈ TW := tm_3 (List.mem_of_getElem? (i := 119) rfl) rfl
theorem tw_600 : Cond.instanceMethod yX8_drop ∈ TW := tm_3 (List.mem_of_getElem? (i := 120) rfl) rfl
theorem tw_601 : Cond.selects "EqualCourt" yX8_drop yX8_drop ∈ TW := tm_3 (List.mem_of_getElem? (i := 121) rfl) rfl
theorem tw_602 : Cond.code yX8_drop prog_1_method_13_code 2 (Option.some Jvm.ClassFile.FieldType.int) ∈ TW := tm_3 (List.mem_of_getElem? (i := 122) rfl) rfl
theorem tw_603 : Cond.methodLink "EqualCourt" 149 yX5_has ∈ TW := tm_3 (List.mem_of_getElem? (i := 123) rfl) rfl
theorem tw_604 : Cond.instanceMethod yX5_has ∈ TW := tm_3 (List.mem_of_getElem? (i := 124) rfl) rfl
theorem tw_605 : Cond.selects "EqualCourt$Sayings" yX5_has yX5_has ∈ TW := tm_3 (List.mem_of_getElem? (i := 125) rfl) rfl
theorem tw_606 : Cond.code yX5_has prog_7_method_5_code 2 (Option.some Jvm.ClassFile.FieldType.boolean) ∈ TW := tm_3 (List.mem_of_getElem? (i := 126) rfl) rfl
theorem tw_607 : Cond.methodLink "EqualCourt" 150 yX5_isTaken ∈ TW := tm_3 (List.mem_of_getElem? (i := 127) rfl) rfl
theorem tw_608 : Cond.methodLink "EqualCourt" 153 yX5_remove ∈ TW := tm_3 (List.mem_of_getElem? (i := 128) rfl) rfl
theorem tw_609 : Cond.instanceMethod yX5_remove ∈ TW := tm_3 (List.mem_of_getElem? (i := 129) rfl) rfl
theorem tw_610 : Cond.selects "EqualCourt$Sayings" yX5_remove yX5_remove ∈ TW := tm_3 (List.mem_of_getElem? (i := 130) rfl) rfl
theorem tw_611 : Cond.code yX5_remove prog_7_method_12_code 2 (Option.none : Option Jvm.ClassFile.FieldType) ∈ TW := tm_3 (List.mem_of_getElem? (i := 131) rfl) rfl
theorem tw_612 : Cond.methodLink "EqualCourt" 157 yX5_isSame ∈ TW := tm_3 (List.mem_of_getElem? (i := 132) rfl) rfl
theorem tw_613 : Cond.methodLink "EqualCourt" 160 yX2_judgeAnew ∈ TW := tm_3 (List.mem_of_getElem? (i := 133) rfl) rfl
theorem tw_614 : Cond.instanceMethod yX2_judgeAnew ∈ TW := tm_3 (List.mem_of_getElem? (i := 134) rfl) rfl
theorem tw_615 : Cond.selects "EqualCourt$Court" yX2_judgeAnew yX2_judgeAnew ∈ TW := tm_3 (List.mem_of_getElem? (i := 135) rfl) rfl
theorem tw_616 : Cond.code yX2_judgeAnew prog_4_method_4_code 2 (Option.none : Option Jvm.ClassFile.FieldType) ∈ TW := tm_3 (List.mem_of_getElem? (i := 136) rfl) rfl
theorem tw_617 : Cond.methodLink "EqualCourtLaw" 65 yX8_said ∈ TW := tm_3 (List.mem_of_getElem? (i := 137) rfl) rfl
theorem tw_618 : Cond.instanceMethod yX8_said ∈ TW := tm_3 (List.mem_of_getElem? (i := 138) rfl) rfl
theorem tw_619 : Cond.selects "EqualCourt" yX8_said yX8_said ∈ TW := tm_3 (List.mem_of_getElem? (i := 139) rfl) rfl
theorem tw_620 : Cond.code yX8_said prog_1_method_14_code 3 (Option.some Jvm.ClassFile.FieldType.int) ∈ TW := tm_3 (List.mem_of_getElem? (i := 140) rfl) rfl
theorem tw_621 : Cond.methodLink "EqualCourt" 163 yX5_left ∈ TW := tm_3 (List.mem_of_getElem? (i := 141) rfl) rfl
theorem tw_622 : Cond.methodLink "EqualCourt" 166 yX5_right ∈ TW := tm_3 (List.mem_of_getElem? (i := 142) rfl) rfl
theorem tw_623 : Cond.methodLink "EqualCourtLaw" 69 yX8_clashed ∈ TW := tm_3 (List.mem_of_getElem? (i := 143) rfl) rfl
theorem tw_624 : Cond.instanceMethod yX8_clashed ∈ TW := tm_3 (List.mem_of_getElem? (i := 144) rfl) rfl
theorem tw_625 : Cond.selects "EqualCourt" yX8_clashed yX8_clashed ∈ TW := tm_3 (List.mem_of_getElem? (i := 145) rfl) rfl
theorem tw_626 : Cond.code yX8_clashed prog_1_method_15_code 2 (Option.some Jvm.ClassFile.FieldType.int) ∈ TW := tm_3 (List.mem_of_getElem? (i := 146) rfl) rfl
theorem tw_627 : Cond.methodLink "EqualCourt" 169 yX1_at ∈ TW := tm_3 (List.mem_of_getElem? (i := 147) rfl) rfl
theorem tw_628 : Cond.methodLink "EqualCourtLaw" 73 yX8_judge ∈ TW := tm_3 (List.mem_of_getElem? (i := 148) rfl) rfl
theorem tw_629 : Cond.instanceMethod yX8_judge ∈ TW := tm_3 (List.mem_of_getElem? (i := 149) rfl) rfl
theorem tw_630 : Cond.selects "EqualCourt" yX8_judge yX8_judge ∈ TW := tm_3 (List.mem_of_getElem? (i := 150) rfl) rfl
theorem tw_631 : Cond.code yX8_judge prog_1_method_16_code 3 (Option.some Jvm.ClassFile.FieldType.int) ∈ TW := tm_3 (List.mem_of_getElem? (i := 151) rfl) rfl
theorem tw_632 : Cond.methodLink "EqualCourtLaw" 77 yX8_why ∈ TW := tm_3 (List.mem_of_getElem? (i := 152) rfl) rfl
theorem tw_633 : Cond.instanceMethod yX8_why ∈ TW := tm_3 (List.mem_of_getElem? (i := 153) rfl) rfl
theorem tw_634 : Cond.selects "EqualCourt" yX8_why yX8_why ∈ TW := tm_3 (List.mem_of_getElem? (i := 154) rfl) rfl
theorem tw_635 : Cond.code yX8_why prog_1_method_17_code 4 (Option.some Jvm.ClassFile.FieldType.int) ∈ TW := tm_3 (List.mem_of_getElem? (i := 155) rfl) rfl
theorem tw_636 : Cond.methodLink "EqualCourt" 172 yX1_count ∈ TW := tm_3 (List.mem_of_getElem? (i := 156) rfl) rfl
theorem tw_637 : Cond.methodLink "EqualCourtLaw" 81 yX8_least ∈ TW := tm_3 (List.mem_of_getElem? (i := 157) rfl) rfl
theorem tw_638 : Cond.instanceMethod yX8_least ∈ TW := tm_3 (List.mem_of_getElem? (i := 158) rfl) rfl
theorem tw_639 : Cond.selects "EqualCourt" yX8_least yX8_least ∈ TW := tm_3 (List.mem_of_getElem? (i := 159) rfl) rfl
theorem tw_640 : Cond.code yX8_least prog_1_method_18_code 4 (Option.some Jvm.ClassFile.FieldType.int) ∈ TW := tm_3 (List.mem_of_getElem? (i := 160) rfl) rfl
theorem tw_641 : Cond.methodLink "EqualCourt" 173 yX2_findFewest ∈ TW := tm_3 (List.mem_of_getElem? (i := 161) rfl) rfl
theorem tw_642 : Cond.instanceMethod yX2_findFewest ∈ TW := tm_3 (List.mem_of_getElem? (i := 162) rfl) rfl
theorem tw_643 : Cond.selects "EqualCourt$Court" yX2_findFewest yX2_findFewest ∈ TW := tm_3 (List.mem_of_getElem? (i := 163) rfl) rfl
theorem tw_644 : Cond.code yX2_findFewest prog_4_method_10_code 10 (Option.some Jvm.ClassFile.FieldType.boolean) ∈ TW := tm_3 (List.mem_of_getElem? (i := 164) rfl) rfl
theorem tw_645 : Cond.methodLink "EqualCourt$Court" 115 yX2_fillPool ∈ TW := tm_3 (List.mem_of_getElem? (i := 165) rfl) rfl
theorem tw_647 : Cond.instanceMethod yX2_fillPool ∈ TW := tm_3 (List.mem_of_getElem? (i := 167) rfl) rfl
theorem tw_648 : Cond.code yX2_fillPool prog_4_method_11_code 3 (Option.some Jvm.ClassFile.FieldType.int) ∈ TW := tm_3 (List.mem_of_getElem? (i := 168) rfl) rfl
theorem tw_649 : Cond.methodLink "EqualCourt$Court" 118 yX2_isOneByPicks ∈ TW := tm_3 (List.mem_of_getElem? (i := 169) rfl) rfl
theorem tw_651 : Cond.instanceMethod yX2_isOneByPicks ∈ TW := tm_3 (List.mem_of_getElem? (i := 171) rfl) rfl
theorem tw_652 : Cond.code yX2_isOneByPicks prog_4_method_12_code 6 (Option.some Jvm.ClassFile.FieldType.boolean) ∈ TW := tm_3 (List.mem_of_getElem? (i := 172) rfl) rfl
theorem tw_653 : Cond.methodLink "EqualCourt$Court" 122 yX2_pickNext ∈ TW := tm_3 (List.mem_of_getElem? (i := 173) rfl) rfl
theorem tw_655 : Cond.instanceMethod yX2_pickNext ∈ TW := tm_3 (List.mem_of_getElem? (i := 175) rfl) rfl
theorem tw_656 : Cond.code yX2_pickNext prog_4_method_13_code 5 (Option.some Jvm.ClassFile.FieldType.boolean) ∈ TW := tm_3 (List.mem_of_getElem? (i := 176) rfl) rfl
theorem tw_657 : Cond.methodLink "EqualCourtLaw" 85 yX8_because ∈ TW := tm_3 (List.mem_of_getElem? (i := 177) rfl) rfl
theorem tw_658 : Cond.instanceMethod yX8_because ∈ TW := tm_3 (List.mem_of_getElem? (i := 178) rfl) rfl
theorem tw_659 : Cond.selects "EqualCourt" yX8_because yX8_because ∈ TW := tm_3 (List.mem_of_getElem? (i := 179) rfl) rfl
theorem tw_660 : Cond.code yX8_because prog_1_method_19_code 2 (Option.some Jvm.ClassFile.FieldType.int) ∈ TW := tm_3 (List.mem_of_getElem? (i := 180) rfl) rfl
theorem tw_661 : Cond.methodLink "EqualCourtLaw" 89 yX8_head ∈ TW := tm_3 (List.mem_of_getElem? (i := 181) rfl) rfl
theorem tw_662 : Cond.instanceMethod yX8_head ∈ TW := tm_3 (List.mem_of_getElem? (i := 182) rfl) rfl
theorem tw_663 : Cond.selects "EqualCourt" yX8_head yX8_head ∈ TW := tm_3 (List.mem_of_getElem? (i := 183) rfl) rfl
theorem tw_664 : Cond.code yX8_head prog_1_method_20_code 2 (Option.some Jvm.ClassFile.FieldType.int) ∈ TW := tm_3 (List.mem_of_getElem? (i := 184) rfl) rfl
theorem tw_665 : Cond.methodLink "EqualCourt" 177 yX4_headOf ∈ TW := tm_3 (List.mem_of_getElem? (i := 185) rfl) rfl
theorem tw_666 : Cond.instanceMethod yX4_headOf ∈ TW := tm_3 (List.mem_of_getElem? (i := 186) rfl) rfl
theorem tw_667 : Cond.selects "EqualCourt$Partition" yX4_headOf yX4_headOf ∈ TW := tm_3 (List.mem_of_getElem? (i := 187) rfl) rfl
theorem tw_668 : Cond.code yX4_headOf prog_6_method_5_code 2 (Option.some Jvm.ClassFile.FieldType.int) ∈ TW := tm_3 (List.mem_of_getElem? (i := 188) rfl) rfl
theorem tw_669 : Cond.methodLink "EqualCourtLaw" 93 yX8_member ∈ TW := tm_3 (List.mem_of_getElem? (i := 189) rfl) rfl
theorem tw_670 : Cond.instanceMethod yX8_member ∈ TW := tm_3 (List.mem_of_getElem? (i := 190) rfl) rfl
theorem tw_671 : Cond.selects "EqualCourt" yX8_member yX8_member ∈ TW := tm_3 (List.mem_of_getElem? (i := 191) rfl) rfl
theorem tw_672 : Cond.code yX8_member prog_1_method_21_code 5 (Option.some Jvm.ClassFile.FieldType.int) ∈ TW := tm_3 (List.mem_of_getElem? (i := 192) rfl) rfl
theorem tw_673 : Cond.methodLink "EqualCourtLaw" 97 yX8_uses ∈ TW := tm_3 (List.mem_of_getElem? (i := 193) rfl) rfl
theorem tw_674 : Cond.instanceMethod yX8_uses ∈ TW := tm_3 (List.mem_of_getElem? (i := 194) rfl) rfl
theorem tw_675 : Cond.selects "EqualCourt" yX8_uses yX8_uses ∈ TW := tm_3 (List.mem_of_getElem? (i := 195) rfl) rfl
theorem tw_676 : Cond.code yX8_uses prog_1_method_22_code 5 (Option.some Jvm.ClassFile.FieldType.int) ∈ TW := tm_3 (List.mem_of_getElem? (i := 196) rfl) rfl
theorem tw_677 : Cond.methodLink "EqualCourt" 180 yX4_hasPartLike ∈ TW := tm_3 (List.mem_of_getElem? (i := 197) rfl) rfl
theorem tw_678 : Cond.instanceMethod yX4_hasPartLike ∈ TW := tm_3 (List.mem_of_getElem? (i := 198) rfl) rfl
theorem tw_679 : Cond.selects "EqualCourt$Partition" yX4_hasPartLike yX4_hasPartLike ∈ TW := tm_3 (List.mem_of_getElem? (i := 199) rfl) rfl
theorem tw_680 : Cond.code yX4_hasPartLike prog_6_method_8_code 4 (Option.some Jvm.ClassFile.FieldType.boolean) ∈ TW := tm_3 (List.mem_of_getElem? (i := 200) rfl) rfl
theorem tw_681 : Cond.methodLink "EqualCourt$Partition" 73 yX7_partOf ∈ TW := tm_3 (List.mem_of_getElem? (i := 201) rfl) rfl
theorem tw_682 : Cond.methodLink "EqualCourt$Partition" 77 yX4_isOne ∈ TW := tm_3 (List.mem_of_getElem? (i := 202) rfl) rfl
theorem tw_683 : Cond.methodLink "EqualCourtLaw" 101 yX8_world ∈ TW := tm_3 (List.mem_of_getElem? (i := 203) rfl) rfl
theorem tw_684 : Cond.instanceMethod yX8_world ∈ TW := tm_3 (List.mem_of_getElem? (i := 204) rfl) rfl
theorem tw_685 : Cond.selects "EqualCourt" yX8_world yX8_world ∈ TW := tm_3 (List.mem_of_getElem? (i := 205) rfl) rfl
theorem tw_686 : Cond.code yX8_world prog_1_method_23_code 4 (Option.some Jvm.ClassFile.FieldType.long) ∈ TW := tm_3 (List.mem_of_getElem? (i := 206) rfl) rfl
theorem tw_687 : Cond.constantLong "EqualCourt" 183 (1099511627776 : Int64) ∈ TW := tm_3 (List.mem_of_getElem? (i := 207) rfl) rfl
theorem tw_688 : Cond.methodLink "EqualCourt" 185 yX4_numberOf ∈ TW := tm_3 (List.mem_of_getElem? (i := 208) rfl) rfl
theorem tw_689 : Cond.instanceMethod yX4_numberOf ∈ TW := tm_3 (List.mem_of_getElem? (i := 209) rfl) rfl
theorem tw_690 : Cond.selects "EqualCourt$Partition" yX4_numberOf yX4_numberOf ∈ TW := tm_3 (List.mem_of_getElem? (i := 210) rfl) rfl
theorem tw_691 : Cond.code yX4_numberOf prog_6_method_6_code 2 (Option.some Jvm.ClassFile.FieldType.int) ∈ TW := tm_3 (List.mem_of_getElem? (i := 211) rfl) rfl
theorem tw_692 : Cond.methodLink "EqualCourt" 188 yX4_unnumberedBelow ∈ TW := tm_3 (List.mem_of_getElem? (i := 212) rfl) rfl
theorem tw_693 : Cond.instanceMethod yX4_unnumberedBelow ∈ TW := tm_3 (List.mem_of_getElem? (i := 213) rfl) rfl
theorem tw_694 : Cond.selects "EqualCourt$Partition" yX4_unnumberedBelow yX4_unnumberedBelow ∈ TW := tm_3 (List.mem_of_getElem? (i := 214) rfl) rfl
theorem tw_695 : Cond.code yX4_unnumberedBelow prog_6_method_7_code 4 (Option.some Jvm.ClassFile.FieldType.int) ∈ TW := tm_3 (List.mem_of_getElem? (i := 215) rfl) rfl
theorem tw_696 : Cond.methodLink "EqualCourt$Partition" 61 yX4_headOf ∈ TW := tm_3 (List.mem_of_getElem? (i := 216) rfl) rfl
theorem tw_697 : Cond.methodLink "EqualCourt$Partition" 65 yX4_numberOf ∈ TW := tm_3 (List.mem_of_getElem? (i := 217) rfl) rfl
theorem tw_698 : Cond.methodLink "EqualCourt" 191 yX8_freeInt ∈ TW := tm_3 (List.mem_of_getElem? (i := 218) rfl) rfl
theorem tw_700 : Cond.instanceMethod yX8_freeInt ∈ TW := tm_3 (List.mem_of_getElem? (i := 220) rfl) rfl
theorem tw_701 : Cond.code yX8_freeInt prog_1_method_38_code 4 (Option.some Jvm.ClassFile.FieldType.int) ∈ TW := tm_3 (List.mem_of_getElem? (i := 221) rfl) rfl
theorem tw_702 : Cond.methodLink "EqualCourt" 234 yX7_find ∈ TW := tm_3 (List.mem_of_getElem? (i := 222) rfl) rfl
theorem tw_703 : Cond.methodLink "EqualCourtLaw" 106 yX8_push ∈ TW := tm_3 (List.mem_of_getElem? (i := 223) rfl) rfl
theorem tw_704 : Cond.instanceMethod yX8_push ∈ TW := tm_3 (List.mem_of_getElem? (i := 224) rfl) rfl
theorem tw_705 : Cond.selects "EqualCourt" yX8_push yX8_push ∈ TW := tm_3 (List.mem_of_getElem? (i := 225) rfl) rfl
theorem tw_706 : Cond.code yX8_push prog_1_method_24_code 1 (Option.some Jvm.ClassFile.FieldType.int) ∈ TW := tm_3 (List.mem_of_getElem? (i := 226) rfl) rfl
theorem tw_707 : Cond.methodLink "EqualCourt" 194 yX5_beginLevel ∈ TW := tm_3 (List.mem_of_getElem? (i := 227) rfl) rfl
theorem tw_708 : Cond.instanceMethod yX5_beginLevel ∈ TW := tm_3 (List.mem_of_getElem? (i := 228) rfl) rfl
theorem tw_709 : Cond.selects "EqualCourt$Sayings" yX5_beginLevel yX5_beginLevel ∈ TW := tm_3 (List.mem_of_getElem? (i := 229) rfl) rfl
theorem tw_710 : Cond.code yX5_beginLevel prog_7_method_13_code 1 (Option.some Jvm.ClassFile.FieldType.int) ∈ TW := tm_3 (List.mem_of_getElem? (i := 230) rfl) rfl
theorem tw_711 : Cond.methodLink "EqualCourt$Sayings" 38 ({ cls := "java/lang/System", name := "arraycopy", desc := "(Ljava/lang/Object;ILjava/lang/Object;II)V" } : Jvm.MethodName) ∈ TW := tm_3 (List.mem_of_getElem? (i := 231) rfl) rfl
theorem tw_712 : Cond.methodLink "EqualCourtLaw" 111 yX8_pop ∈ TW := tm_3 (List.mem_of_getElem? (i := 232) rfl) rfl
theorem tw_713 : Cond.instanceMethod yX8_pop ∈ TW := tm_3 (List.mem_of_getElem? (i := 233) rfl) rfl
theorem tw_714 : Cond.selects "EqualCourt" yX8_pop yX8_pop ∈ TW := tm_3 (List.mem_of_getElem? (i := 234) rfl) rfl
theorem tw_715 : Cond.code yX8_pop prog_1_method_25_code 1 (Option.some Jvm.ClassFile.FieldType.int) ∈ TW := tm_3 (List.mem_of_getElem? (i := 235) rfl) rfl
theorem tw_716 : Cond.methodLink "EqualCourt" 197 yX5_endLevel ∈ TW := tm_3 (List.mem_of_getElem? (i := 236) rfl) rfl
theorem tw_717 : Cond.instanceMethod yX5_endLevel ∈ TW := tm_3 (List.mem_of_getElem? (i := 237) rfl) rfl
theorem tw_718 : Cond.selects "EqualCourt$Sayings" yX5_endLevel yX5_endLevel ∈ TW := tm_3 (List.mem_of_getElem? (i := 238) rfl) rfl
theorem tw_719 : Cond.code yX5_endLevel prog_7_method_14_code 2 (Option.none : Option Jvm.ClassFile.FieldType) ∈ TW := tm_3 (List.mem_of_getElem? (i := 239) rfl) rfl
theorem tw_720 : Cond.methodLink "EqualCourtLaw" 115 yX8_law ∈ TW := tm_4 (List.mem_of_getElem? (i := 0) rfl) rfl
theorem tw_721 : Cond.instanceMethod yX8_law ∈ TW := tm_4 (List.mem_of_getElem? (i := 1) rfl) rfl
theorem tw_722 : Cond.selects "EqualCourt" yX8_law yX8_law ∈ TW := tm_4 (List.mem_of_getElem? (i := 2) rfl) rfl
theorem tw_723 : Cond.code yX8_law prog_1_method_26_code 3 (Option.some Jvm.ClassFile.FieldType.int) ∈ TW := tm_4 (List.mem_of_getElem? (i := 3) rfl) rfl
theorem tw_724 : Cond.methodLink "EqualCourtLaw" 119 yX8_instance ∈ TW := tm_4 (List.mem_of_getElem? (i := 4) rfl) rfl
theorem tw_725 : Cond.instanceMethod yX8_instance ∈ TW := tm_4 (List.mem_of_getElem? (i := 5) rfl) rfl
theorem tw_726 : Cond.selects "EqualCourt" yX8_instance yX8_instance ∈ TW := tm_4 (List.mem_of_getElem? (i := 6) rfl) rfl
theorem tw_727 : Cond.code yX8_instance prog_1_method_27_code 6 (Option.some Jvm.ClassFile.FieldType.int) ∈ TW := tm_4 (List.mem_of_getElem? (i := 7) rfl) rfl
theorem tw_728 : Cond.methodLink "EqualCourt" 200 yX8_madeInstance ∈ TW := tm_4 (List.mem_of_getElem? (i := 8) rfl) rfl
theorem tw_730 : Cond.instanceMethod yX8_madeInstance ∈ TW := tm_4 (List.mem_of_getElem? (i := 10) rfl) rfl
theorem tw_731 : Cond.code yX8_madeInstance prog_1_method_37_code 7 (Option.some Jvm.ClassFile.FieldType.int) ∈ TW := tm_4 (List.mem_of_getElem? (i := 11) rfl) rfl
theorem tw_732 : Cond.methodLink "EqualCourt" 231 yX3_makeInstance ∈ TW := tm_4 (List.mem_of_getElem? (i := 12) rfl) rfl
theorem tw_733 : Cond.instanceMethod yX3_makeInstance ∈ TW := tm_4 (List.mem_of_getElem? (i := 13) rfl) rfl
theorem tw_734 : Cond.selects "EqualCourt$Maker" yX3_makeInstance yX3_makeInstance ∈ TW := tm_4 (List.mem_of_getElem? (i := 14) rfl) rfl
theorem tw_735 : Cond.code yX3_makeInstance prog_5_method_2_code 10 (Option.some Jvm.ClassFile.FieldType.int) ∈ TW := tm_4 (List.mem_of_getElem? (i := 15) rfl) rfl
theorem tw_736 : Cond.methodLink "EqualCourt$Maker" 28 yX7_count ∈ TW := tm_4 (List.mem_of_getElem? (i := 16) rfl) rfl
theorem tw_737 : Cond.constant "EqualCourt$Maker" 38 (1000000 : Int32) ∈ TW := tm_4 (List.mem_of_getElem? (i := 17) rfl) rfl
theorem tw_738 : Cond.methodLink "EqualCourt$Maker" 39 yX3_isKnown ∈ TW := tm_4 (List.mem_of_getElem? (i := 18) rfl) rfl
theorem tw_740 : Cond.instanceMethod yX3_isKnown ∈ TW := tm_4 (List.mem_of_getElem? (i := 20) rfl) rfl
theorem tw_741 : Cond.code yX3_isKnown prog_5_method_3_code 2 (Option.some Jvm.ClassFile.FieldType.boolean) ∈ TW := tm_4 (List.mem_of_getElem? (i := 21) rfl) rfl
theorem tw_742 : Cond.methodLink "EqualCourt$Maker" 57 yX7_holesOf ∈ TW := tm_4 (List.mem_of_getElem? (i := 22) rfl) rfl
theorem tw_743 : Cond.instanceMethod yX7_holesOf ∈ TW := tm_4 (List.mem_of_getElem? (i := 23) rfl) rfl
theorem tw_744 : Cond.selects "EqualCourt$Terms" yX7_holesOf yX7_holesOf ∈ TW := tm_4 (List.mem_of_getElem? (i := 24) rfl) rfl
theorem tw_745 : Cond.code yX7_holesOf prog_9_method_8_code 2 (Option.some Jvm.ClassFile.FieldType.int) ∈ TW := tm_4 (List.mem_of_getElem? (i := 25) rfl) rfl
theorem tw_746 : Cond.methodLink "EqualCourt$Maker" 60 yX7_isHole ∈ TW := tm_4 (List.mem_of_getElem? (i := 26) rfl) rfl
theorem tw_747 : Cond.methodLink "EqualCourt$Maker" 43 yX3_openPart ∈ TW := tm_4 (List.mem_of_getElem? (i := 27) rfl) rfl
theorem tw_749 : Cond.instanceMethod yX3_openPart ∈ TW := tm_4 (List.mem_of_getElem? (i := 29) rfl) rfl
theorem tw_750 : Cond.code yX3_openPart prog_5_method_5_code 3 (Option.some Jvm.ClassFile.FieldType.int) ∈ TW := tm_4 (List.mem_of_getElem? (i := 30) rfl) rfl
theorem tw_751 : Cond.methodLink "EqualCourt$Maker" 66 yX7_sizeOf ∈ TW := tm_4 (List.mem_of_getElem? (i := 31) rfl) rfl
theorem tw_752 : Cond.methodLink "EqualCourt$Maker" 69 yX7_partOf ∈ TW := tm_4 (List.mem_of_getElem? (i := 32) rfl) rfl
theorem tw_753 : Cond.methodLink "EqualCourt$Maker" 47 yX3_makeImage ∈ TW := tm_4 (List.mem_of_getElem? (i := 33) rfl) rfl
theorem tw_755 : Cond.instanceMethod yX3_makeImage ∈ TW := tm_4 (List.mem_of_getElem? (i := 35) rfl) rfl
theorem tw_756 : Cond.code yX3_makeImage prog_5_method_6_code 6 (Option.some Jvm.ClassFile.FieldType.boolean) ∈ TW := tm_4 (List.mem_of_getElem? (i := 36) rfl) rfl
theorem tw_757 : Cond.methodLink "EqualCourt$Maker" 54 yX3_imageOf ∈ TW := tm_4 (List.mem_of_getElem? (i := 37) rfl) rfl
theorem tw_759 : Cond.instanceMethod yX3_imageOf ∈ TW := tm_4 (List.mem_of_getElem? (i := 39) rfl) rfl
theorem tw_760 : Cond.code yX3_imageOf prog_5_method_4_code 2 (Option.some Jvm.ClassFile.FieldType.int) ∈ TW := tm_4 (List.mem_of_getElem? (i := 40) rfl) rfl
theorem tw_761 : Cond.methodLink "EqualCourt$Maker" 63 yX7_shownBy ∈ TW := tm_4 (List.mem_of_getElem? (i := 41) rfl) rfl
theorem tw_762 : Cond.methodLink "EqualCourt$Maker" 73 yX7_kindOf ∈ TW := tm_4 (List.mem_of_getElem? (i := 42) rfl) rfl
theorem tw_763 : Cond.methodLink "EqualCourt$Maker" 76 yX7_findOrMake ∈ TW := tm_4 (List.mem_of_getElem? (i := 43) rfl) rfl
theorem tw_764 : Cond.methodLink "EqualCourt$Maker" 50 yX7_unmakeFrom ∈ TW := tm_4 (List.mem_of_getElem? (i := 44) rfl) rfl
theorem tw_765 : Cond.instanceMethod yX7_unmakeFrom ∈ TW := tm_4 (List.mem_of_getElem? (i := 45) rfl) rfl
theorem tw_766 : Cond.selects "EqualCourt$Terms" yX7_unmakeFrom yX7_unmakeFrom ∈ TW := tm_4 (List.mem_of_getElem? (i := 46) rfl) rfl
theorem tw_767 : Cond.code yX7_unmakeFrom prog_9_method_12_code 5 (Option.none : Option Jvm.ClassFile.FieldType) ∈ TW := tm_4 (List.mem_of_getElem? (i := 47) rfl) rfl
theorem tw_768 : Cond.methodLink "EqualCourtLaw" 124 yX8_follow ∈ TW := tm_4 (List.mem_of_getElem? (i := 48) rfl) rfl
theorem tw_769 : Cond.instanceMethod yX8_follow ∈ TW := tm_4 (List.mem_of_getElem? (i := 49) rfl) rfl
theorem tw_770 : Cond.selects "EqualCourt" yX8_follow yX8_follow ∈ TW := tm_4 (List.mem_of_getElem? (i := 50) rfl) rfl
theorem tw_771 : Cond.code yX8_follow prog_1_method_28_code 13 (Option.some Jvm.ClassFile.FieldType.int) ∈ TW := tm_4 (List.mem_of_getElem? (i := 51) rfl) rfl
theorem tw_772 : Cond.methodLink "EqualCourt" 204 yX8_gatherHeads ∈ TW := tm_4 (List.mem_of_getElem? (i := 52) rfl) rfl
theorem tw_774 : Cond.instanceMethod yX8_gatherHeads ∈ TW := tm_4 (List.mem_of_getElem? (i := 54) rfl) rfl
theorem tw_775 : Cond.code yX8_gatherHeads prog_1_method_39_code 3 (Option.some Jvm.ClassFile.FieldType.int) ∈ TW := tm_4 (List.mem_of_getElem? (i := 55) rfl) rfl
theorem tw_776 : Cond.methodLink "EqualCourt" 237 yX7_isHole ∈ TW := tm_4 (List.mem_of_getElem? (i := 56) rfl) rfl
theorem tw_777 : Cond.methodLink "EqualCourt" 207 yX7_holesOf ∈ TW := tm_4 (List.mem_of_getElem? (i := 57) rfl) rfl
theorem tw_778 : Cond.methodLink "EqualCourt" 210 yX8_applyLaw ∈ TW := tm_4 (List.mem_of_getElem? (i := 58) rfl) rfl
theorem tw_780 : Cond.instanceMethod yX8_applyLaw ∈ TW := tm_4 (List.mem_of_getElem? (i := 60) rfl) rfl
theorem tw_781 : Cond.code yX8_applyLaw prog_1_method_40_code 7 (Option.some Jvm.ClassFile.FieldType.int) ∈ TW := tm_4 (List.mem_of_getElem? (i := 61) rfl) rfl
theorem tw_782 : Cond.methodLink "EqualCourtLaw" 128 yX8_ended ∈ TW := tm_4 (List.mem_of_getElem? (i := 62) rfl) rfl
theorem tw_783 : Cond.instanceMethod yX8_ended ∈ TW := tm_4 (List.mem_of_getElem? (i := 63) rfl) rfl
theorem tw_784 : Cond.selects "EqualCourt" yX8_ended yX8_ended ∈ TW := tm_4 (List.mem_of_getElem? (i := 64) rfl) rfl
theorem tw_785 : Cond.code yX8_ended prog_1_method_29_code 1 (Option.some Jvm.ClassFile.FieldType.int) ∈ TW := tm_4 (List.mem_of_getElem? (i := 65) rfl) rfl
theorem tw_786 : Cond.methodLink "EqualCourtLaw" 132 yX8_claim ∈ TW := tm_4 (List.mem_of_getElem? (i := 66) rfl) rfl
theorem tw_787 : Cond.instanceMethod yX8_claim ∈ TW := tm_4 (List.mem_of_getElem? (i := 67) rfl) rfl
theorem tw_788 : Cond.selects "EqualCourt" yX8_claim yX8_claim ∈ TW := tm_4 (List.mem_of_getElem? (i := 68) rfl) rfl
theorem tw_789 : Cond.code yX8_claim prog_1_method_30_code 6 (Option.some Jvm.ClassFile.FieldType.int) ∈ TW := tm_4 (List.mem_of_getElem? (i := 69) rfl) rfl
theorem tw_790 : Cond.methodLink "EqualCourt" 213 yX6_add ∈ TW := tm_4 (List.mem_of_getElem? (i := 70) rfl) rfl
theorem tw_791 : Cond.instanceMethod yX6_add ∈ TW := tm_4 (List.mem_of_getElem? (i := 71) rfl) rfl
theorem tw_792 : Cond.selects "EqualCourt$Steps" yX6_add yX6_add ∈ TW := tm_4 (List.mem_of_getElem? (i := 72) rfl) rfl
theorem tw_793 : Cond.code yX6_add prog_8_method_3_code 6 (Option.some Jvm.ClassFile.FieldType.int) ∈ TW := tm_4 (List.mem_of_getElem? (i := 73) rfl) rfl
theorem tw_794 : Cond.methodLink "EqualCourtLaw" 136 yX8_unclaim ∈ TW := tm_4 (List.mem_of_getElem? (i := 74) rfl) rfl
theorem tw_795 : Cond.instanceMethod yX8_unclaim ∈ TW := tm_4 (List.mem_of_getElem? (i := 75) rfl) rfl
theorem tw_796 : Cond.selects "EqualCourt" yX8_unclaim yX8_unclaim ∈ TW := tm_4 (List.mem_of_getElem? (i := 76) rfl) rfl
theorem tw_797 : Cond.code yX8_unclaim prog_1_method_31_code 2 (Option.some Jvm.ClassFile.FieldType.int) ∈ TW := tm_4 (List.mem_of_getElem? (i := 77) rfl) rfl
theorem tw_798 : Cond.methodLink "EqualCourt" 215 yX6_forget ∈ TW := tm_4 (List.mem_of_getElem? (i := 78) rfl) rfl
theorem tw_799 : Cond.instanceMethod yX6_forget ∈ TW := tm_4 (List.mem_of_getElem? (i := 79) rfl) rfl
theorem tw_800 : Cond.selects "EqualCourt$Steps" yX6_forget yX6_forget ∈ TW := tm_4 (List.mem_of_getElem? (i := 80) rfl) rfl
theorem tw_801 : Cond.code yX6_forget prog_8_method_4_code 1 (Option.none : Option Jvm.ClassFile.FieldType) ∈ TW := tm_4 (List.mem_of_getElem? (i := 81) rfl) rfl
theorem tw_802 : Cond.methodLink "EqualCourtLaw" 140 yX8_check ∈ TW := tm_4 (List.mem_of_getElem? (i := 82) rfl) rfl
theorem tw_803 : Cond.instanceMethod yX8_check ∈ TW := tm_4 (List.mem_of_getElem? (i := 83) rfl) rfl
theorem tw_804 : Cond.selects "EqualCourt" yX8_check yX8_check ∈ TW := tm_4 (List.mem_of_getElem? (i := 84) rfl) rfl
theorem tw_805 : Cond.code yX8_check prog_1_method_32_code 4 (Option.some Jvm.ClassFile.FieldType.int) ∈ TW := tm_4 (List.mem_of_getElem? (i := 85) rfl) rfl
theorem tw_806 : Cond.methodLink "EqualCourt" 218 yX6_isRight ∈ TW := tm_4 (List.mem_of_getElem? (i := 86) rfl) rfl
theorem tw_807 : Cond.instanceMethod yX6_isRight ∈ TW := tm_4 (List.mem_of_getElem? (i := 87) rfl) rfl
theorem tw_808 : Cond.selects "EqualCourt$Steps" yX6_isRight yX6_isRight ∈ TW := tm_4 (List.mem_of_getElem? (i := 88) rfl) rfl
theorem tw_809 : Cond.code yX6_isRight prog_8_method_6_code 5 (Option.some Jvm.ClassFile.FieldType.boolean) ∈ TW := tm_4 (List.mem_of_getElem? (i := 89) rfl) rfl
theorem tw_810 : Cond.methodLink "EqualCourt$Steps" 39 yX6_isSaid ∈ TW := tm_4 (List.mem_of_getElem? (i := 90) rfl) rfl
theorem tw_812 : Cond.instanceMethod yX6_isSaid ∈ TW := tm_4 (List.mem_of_getElem? (i := 92) rfl) rfl
theorem tw_813 : Cond.code yX6_isSaid prog_8_method_7_code 6 (Option.some Jvm.ClassFile.FieldType.boolean) ∈ TW := tm_4 (List.mem_of_getElem? (i := 93) rfl) rfl
theorem tw_814 : Cond.methodLink "EqualCourt$Steps" 56 yX5_has ∈ TW := tm_4 (List.mem_of_getElem? (i := 94) rfl) rfl
theorem tw_815 : Cond.methodLink "EqualCourt$Steps" 62 yX5_isTaken ∈ TW := tm_4 (List.mem_of_getElem? (i := 95) rfl) rfl
theorem tw_816 : Cond.methodLink "EqualCourt$Steps" 65 yX5_isSame ∈ TW := tm_4 (List.mem_of_getElem? (i := 96) rfl) rfl
theorem tw_817 : Cond.methodLink "EqualCourt$Steps" 68 yX5_left ∈ TW := tm_4 (List.mem_of_getElem? (i := 97) rfl) rfl
theorem tw_818 : Cond.methodLink "EqualCourt$Steps" 72 yX5_right ∈ TW := tm_4 (List.mem_of_getElem? (i := 98) rfl) rfl
theorem tw_819 : Cond.methodLink "EqualCourt$Steps" 43 yX6_says ∈ TW := tm_4 (List.mem_of_getElem? (i := 99) rfl) rfl
theorem tw_820 : Cond.instanceMethod yX6_says ∈ TW := tm_4 (List.mem_of_getElem? (i := 100) rfl) rfl
theorem tw_821 : Cond.selects "EqualCourt$Steps" yX6_says yX6_says ∈ TW := tm_4 (List.mem_of_getElem? (i := 101) rfl) rfl
theorem tw_822 : Cond.code yX6_says prog_8_method_5_code 4 (Option.some Jvm.ClassFile.FieldType.boolean) ∈ TW := tm_4 (List.mem_of_getElem? (i := 102) rfl) rfl
theorem tw_823 : Cond.methodLink "EqualCourt$Steps" 46 yX6_isChained ∈ TW := tm_4 (List.mem_of_getElem? (i := 103) rfl) rfl
theorem tw_825 : Cond.instanceMethod yX6_isChained ∈ TW := tm_4 (List.mem_of_getElem? (i := 105) rfl) rfl
theorem tw_826 : Cond.code yX6_isChained prog_8_method_8_code 4 (Option.some Jvm.ClassFile.FieldType.boolean) ∈ TW := tm_4 (List.mem_of_getElem? (i := 106) rfl) rfl
theorem tw_827 : Cond.methodLink "EqualCourt$Steps" 49 yX6_isByParts ∈ TW := tm_4 (List.mem_of_getElem? (i := 107) rfl) rfl
theorem tw_829 : Cond.instanceMethod yX6_isByParts ∈ TW := tm_4 (List.mem_of_getElem? (i := 109) rfl) rfl
theorem tw_830 : Cond.code yX6_isByParts prog_8_method_9_code 10 (Option.some Jvm.ClassFile.FieldType.boolean) ∈ TW := tm_4 (List.mem_of_getElem? (i := 110) rfl) rfl
theorem tw_831 : Cond.methodLink "EqualCourt$Steps" 75 yX7_kindOf ∈ TW := tm_4 (List.mem_of_getElem? (i := 111) rfl) rfl
theorem tw_832 : Cond.methodLink "EqualCourt$Steps" 80 yX7_sizeOf ∈ TW := tm_4 (List.mem_of_getElem? (i := 112) rfl) rfl
theorem tw_833 : Cond.methodLink "EqualCourt$Steps" 83 yX7_shownBy ∈ TW := tm_4 (List.mem_of_getElem? (i := 113) rfl) rfl
theorem tw_834 : Cond.methodLink "EqualCourt$Steps" 86 yX7_partOf ∈ TW := tm_4 (List.mem_of_getElem? (i := 114) rfl) rfl
theorem tw_835 : Cond.methodLink "EqualCourt$Steps" 90 yX6_isSameBefore ∈ TW := tm_4 (List.mem_of_getElem? (i := 115) rfl) rfl
theorem tw_837 : Cond.instanceMethod yX6_isSameBefore ∈ TW := tm_4 (List.mem_of_getElem? (i := 117) rfl) rfl
theorem tw_838 : Cond.code yX6_isSameBefore prog_8_method_10_code 5 (Option.some Jvm.ClassFile.FieldType.boolean) ∈ TW := tm_4 (List.mem_of_getElem? (i := 118) rfl) rfl
theorem tw_839 : Cond.methodLink "EqualCourt$Steps" 53 yX6_isOfRows ∈ TW := tm_4 (List.mem_of_getElem? (i := 119) rfl) rfl
theorem tw_841 : Cond.instanceMethod yX6_isOfRows ∈ TW := tm_4 (List.mem_of_getElem? (i := 121) rfl) rfl
theorem tw_842 : Cond.code yX6_isOfRows prog_8_method_11_code 4 (Option.some Jvm.ClassFile.FieldType.boolean) ∈ TW := tm_4 (List.mem_of_getElem? (i := 122) rfl) rfl
theorem tw_843 : Cond.methodLink "EqualCourt" 221 yX6_says ∈ TW := tm_4 (List.mem_of_getElem? (i := 123) rfl) rfl
theorem tw_844 : Cond.methodLink "EqualCourtLaw" 144 yX8_status ∈ TW := tm_4 (List.mem_of_getElem? (i := 124) rfl) rfl
theorem tw_845 : Cond.instanceMethod yX8_status ∈ TW := tm_4 (List.mem_of_getElem? (i := 125) rfl) rfl
theorem tw_846 : Cond.selects "EqualCourt" yX8_status yX8_status ∈ TW := tm_4 (List.mem_of_getElem? (i := 126) rfl) rfl
theorem tw_847 : Cond.code yX8_status prog_1_method_33_code 1 (Option.some Jvm.ClassFile.FieldType.int) ∈ TW := tm_4 (List.mem_of_getElem? (i := 127) rfl) rfl
theorem tw_848 : Cond.classLink "EqualCourtLaw" 10 "EqualCourtModel" ∈ TW := tm_4 (List.mem_of_getElem? (i := 128) rfl) rfl
theorem tw_849 : Cond.instantiable "EqualCourtModel" 42 ∈ TW := tm_4 (List.mem_of_getElem? (i := 129) rfl) rfl
theorem tw_850 : Cond.methodLink "EqualCourtLaw" 12 yX9_init ∈ TW := tm_4 (List.mem_of_getElem? (i := 130) rfl) rfl
theorem tw_851 : Cond.instanceMethod yX9_init ∈ TW := tm_4 (List.mem_of_getElem? (i := 131) rfl) rfl
theorem tw_852 : Cond.code yX9_init prog_11_method_1_code 1 (Option.none : Option Jvm.ClassFile.FieldType) ∈ TW := tm_4 (List.mem_of_getElem? (i := 132) rfl) rfl
theorem tw_853 : Cond.methodLink "EqualCourtModel" 1 ({ cls := "java/lang/Object", name := "<init>", desc := "()V" } : Jvm.MethodName) ∈ TW := tm_4 (List.mem_of_getElem? (i := 133) rfl) rfl
theorem tw_854 : Cond.fieldLink "EqualCourtModel" 7 "EqualCourtModel" "kindOf" "[I" ∈ TW := tm_4 (List.mem_of_getElem? (i := 134) rfl) rfl
theorem tw_855 : Cond.fieldLink "EqualCourtModel" 13 "EqualCourtModel" "shown" "[I" ∈ TW := tm_4 (List.mem_of_getElem? (i := 135) rfl) rfl
theorem tw_856 : Cond.fieldLink "EqualCourtModel" 16 "EqualCourtModel" "partMany" "[I" ∈ TW := tm_4 (List.mem_of_getElem? (i := 136) rfl) rfl
theorem tw_857 : Cond.fieldLink "EqualCourtModel" 19 "EqualCourtModel" "partOf" "[I" ∈ TW := tm_4 (List.mem_of_getElem? (i := 137) rfl) rfl
theorem tw_858 : Cond.fieldLink "EqualCourtModel" 108 "EqualCourtModel" "terms" "I" ∈ TW := tm_4 (List.mem_of_getElem? (i := 138) rfl) rfl
theorem tw_859 : Cond.fieldLink "EqualCourtModel" 22 "EqualCourtModel" "sayA" "[I" ∈ TW := tm_4 (List.mem_of_getElem? (i := 139) rfl) rfl
theorem tw_860 : Cond.fieldLink "EqualCourtModel" 25 "EqualCourtModel" "sayB" "[I" ∈ TW := tm_4 (List.mem_of_getElem? (i := 140) rfl) rfl
theorem tw_861 : Cond.fieldLink "EqualCourtModel" 28 "EqualCourtModel" "isSame" "[Z" ∈ TW := tm_4 (List.mem_of_getElem? (i := 141) rfl) rfl
theorem tw_862 : Cond.fieldLink "EqualCourtModel" 32 "EqualCourtModel" "isTaken" "[Z" ∈ TW := tm_4 (List.mem_of_getElem? (i := 142) rfl) rfl
theorem tw_863 : Cond.fieldLink "EqualCourtModel" 155 "EqualCourtModel" "sayings" "I" ∈ TW := tm_4 (List.mem_of_getElem? (i := 143) rfl) rfl
theorem tw_864 : Cond.fieldLink "EqualCourtModel" 35 "EqualCourtModel" "remembered" "[Z" ∈ TW := tm_4 (List.mem_of_getElem? (i := 144) rfl) rfl
theorem tw_865 : Cond.fieldLink "EqualCourtModel" 179 "EqualCourtModel" "levels" "I" ∈ TW := tm_4 (List.mem_of_getElem? (i := 145) rfl) rfl
theorem tw_866 : Cond.fieldLink "EqualCourtModel" 38 "EqualCourtModel" "lawA" "[I" ∈ TW := tm_4 (List.mem_of_getElem? (i := 146) rfl) rfl
theorem tw_867 : Cond.fieldLink "EqualCourtModel" 41 "EqualCourtModel" "lawB" "[I" ∈ TW := tm_4 (List.mem_of_getElem? (i := 147) rfl) rfl
theorem tw_868 : Cond.fieldLink "EqualCourtModel" 173 "EqualCourtModel" "laws" "I" ∈ TW := tm_4 (List.mem_of_getElem? (i := 148) rfl) rfl
theorem tw_869 : Cond.fieldLink "EqualCourtModel" 44 "EqualCourtModel" "reasonOf" "[I" ∈ TW := tm_4 (List.mem_of_getElem? (i := 149) rfl) rfl
theorem tw_870 : Cond.fieldLink "EqualCourtModel" 47 "EqualCourtModel" "stepA" "[I" ∈ TW := tm_4 (List.mem_of_getElem? (i := 150) rfl) rfl
theorem tw_871 : Cond.fieldLink "EqualCourtModel" 50 "EqualCourtModel" "stepB" "[I" ∈ TW := tm_4 (List.mem_of_getElem? (i := 151) rfl) rfl
theorem tw_872 : Cond.fieldLink "EqualCourtModel" 53 "EqualCourtModel" "stepI" "[I" ∈ TW := tm_4 (List.mem_of_getElem? (i := 152) rfl) rfl
theorem tw_873 : Cond.fieldLink "EqualCourtModel" 56 "EqualCourtModel" "stepJ" "[I" ∈ TW := tm_4 (List.mem_of_getElem? (i := 153) rfl) rfl
theorem tw_874 : Cond.fieldLink "EqualCourtModel" 176 "EqualCourtModel" "steps" "I" ∈ TW := tm_4 (List.mem_of_getElem? (i := 154) rfl) rfl
theorem tw_875 : Cond.fieldLink "EqualCourtModel" 59 "EqualCourtModel" "clashRow" "[I" ∈ TW := tm_4 (List.mem_of_getElem? (i := 155) rfl) rfl
theorem tw_876 : Cond.fieldLink "EqualCourtModel" 193 "EqualCourtModel" "clashMany" "I" ∈ TW := tm_4 (List.mem_of_getElem? (i := 156) rfl) rfl
theorem tw_877 : Cond.fieldLink "EqualCourtModel" 62 "EqualCourtModel" "whyRow" "[I" ∈ TW := tm_4 (List.mem_of_getElem? (i := 157) rfl) rfl
theorem tw_878 : Cond.fieldLink "EqualCourtModel" 214 "EqualCourtModel" "whyMany" "I" ∈ TW := tm_4 (List.mem_of_getElem? (i := 158) rfl) rfl
theorem tw_879 : Cond.fieldLink "EqualCourtModel" 65 "EqualCourtModel" "endedBy" "I" ∈ TW := tm_4 (List.mem_of_getElem? (i := 159) rfl) rfl
theorem tw_880 : Cond.fieldLink "EqualCourtModel" 105 "EqualCourtModel" "finding" "I" ∈ TW := tm_4 (List.mem_of_getElem? (i := 160) rfl) rfl
theorem tw_881 : Cond.fieldLink "EqualCourtModel" 69 "EqualCourtModel" "asked" "[I" ∈ TW := tm_4 (List.mem_of_getElem? (i := 161) rfl) rfl
theorem tw_882 : Cond.fieldLink "EqualCourtModel" 72 "EqualCourtModel" "one" "[I" ∈ TW := tm_4 (List.mem_of_getElem? (i := 162) rfl) rfl
theorem tw_883 : Cond.fieldLink "EqualCourtModel" 75 "EqualCourtModel" "isIn" "[Z" ∈ TW := tm_4 (List.mem_of_getElem? (i := 163) rfl) rfl
theorem tw_884 : Cond.fieldLink "EqualCourtModel" 115 "EqualCourtModel" "isFresh" "Z" ∈ TW := tm_4 (List.mem_of_getElem? (i := 164) rfl) rfl
theorem tw_885 : Cond.fieldLink "EqualCourtModel" 78 "EqualCourtModel" "court" "[I" ∈ TW := tm_4 (List.mem_of_getElem? (i := 165) rfl) rfl
theorem tw_886 : Cond.fieldLink "EqualCourtModel" 81 "EqualCourtModel" "chosen" "[I" ∈ TW := tm_4 (List.mem_of_getElem? (i := 166) rfl) rfl
theorem tw_887 : Cond.fieldLink "EqualCourtModel" 84 "EqualCourtModel" "hole" "[I" ∈ TW := tm_4 (List.mem_of_getElem? (i := 167) rfl) rfl
theorem tw_888 : Cond.fieldLink "EqualCourtModel" 87 "EqualCourtModel" "becomes" "[I" ∈ TW := tm_4 (List.mem_of_getElem? (i := 168) rfl) rfl
theorem tw_889 : Cond.fieldLink "EqualCourtModel" 90 "EqualCourtModel" "pile" "[I" ∈ TW := tm_4 (List.mem_of_getElem? (i := 169) rfl) rfl
theorem tw_890 : Cond.fieldLink "EqualCourtModel" 93 "EqualCourtModel" "nextPart" "[I" ∈ TW := tm_4 (List.mem_of_getElem? (i := 170) rfl) rfl
theorem tw_891 : Cond.fieldLink "EqualCourtModel" 96 "EqualCourtModel" "stands" "[Z" ∈ TW := tm_4 (List.mem_of_getElem? (i := 171) rfl) rfl
theorem tw_892 : Cond.fieldLink "EqualCourtModel" 99 "EqualCourtModel" "isSeen" "[Z" ∈ TW := tm_4 (List.mem_of_getElem? (i := 172) rfl) rfl
theorem tw_893 : Cond.fieldLink "EqualCourtModel" 102 "EqualCourtModel" "heads" "[I" ∈ TW := tm_4 (List.mem_of_getElem? (i := 173) rfl) rfl
theorem tw_894 : Cond.fieldLink "EqualCourtModel" 244 "EqualCourtModel" "headMany" "I" ∈ TW := tm_4 (List.mem_of_getElem? (i := 174) rfl) rfl
theorem tw_895 : Cond.fieldLink "EqualCourtModel" 247 "EqualCourtModel" "came" "I" ∈ TW := tm_4 (List.mem_of_getElem? (i := 175) rfl) rfl
theorem tw_981 : Cond.methodLink "EqualCourtLaw" 17 yX9_name ∈ TW := tm_5 (List.mem_of_getElem? (i := 21) rfl) rfl
theorem tw_982 : Cond.instanceMethod yX9_name ∈ TW := tm_5 (List.mem_of_getElem? (i := 22) rfl) rfl
theorem tw_983 : Cond.selects "EqualCourtModel" yX9_name yX9_name ∈ TW := tm_5 (List.mem_of_getElem? (i := 23) rfl) rfl
theorem tw_984 : Cond.code yX9_name prog_11_method_8_code 2 (Option.some Jvm.ClassFile.FieldType.int) ∈ TW := tm_5 (List.mem_of_getElem? (i := 24) rfl) rfl
theorem tw_985 : Cond.methodLink "EqualCourtModel" 119 yX9_refuse ∈ TW := tm_5 (List.mem_of_getElem? (i := 25) rfl) rfl
theorem tw_987 : Cond.instanceMethod yX9_refuse ∈ TW := tm_5 (List.mem_of_getElem? (i := 27) rfl) rfl
theorem tw_988 : Cond.code yX9_refuse prog_11_method_2_code 2 (Option.some Jvm.ClassFile.FieldType.int) ∈ TW := tm_5 (List.mem_of_getElem? (i := 28) rfl) rfl
theorem tw_989 : Cond.methodLink "EqualCourtModel" 126 yX9_made ∈ TW := tm_5 (List.mem_of_getElem? (i := 29) rfl) rfl
theorem tw_991 : Cond.instanceMethod yX9_made ∈ TW := tm_5 (List.mem_of_getElem? (i := 31) rfl) rfl
theorem tw_992 : Cond.code yX9_made prog_11_method_6_code 6 (Option.some Jvm.ClassFile.FieldType.int) ∈ TW := tm_5 (List.mem_of_getElem? (i := 32) rfl) rfl
theorem tw_993 : Cond.methodLink "EqualCourtModel" 111 yX9_findTerm ∈ TW := tm_5 (List.mem_of_getElem? (i := 33) rfl) rfl
theorem tw_995 : Cond.instanceMethod yX9_findTerm ∈ TW := tm_5 (List.mem_of_getElem? (i := 35) rfl) rfl
theorem tw_996 : Cond.code yX9_findTerm prog_11_method_5_code 8 (Option.some Jvm.ClassFile.FieldType.int) ∈ TW := tm_5 (List.mem_of_getElem? (i := 36) rfl) rfl
theorem tw_997 : Cond.methodLink "EqualCourtModel" 129 yX9_answer ∈ TW := tm_5 (List.mem_of_getElem? (i := 37) rfl) rfl
theorem tw_999 : Cond.instanceMethod yX9_answer ∈ TW := tm_5 (List.mem_of_getElem? (i := 39) rfl) rfl
theorem tw_1000 : Cond.code yX9_answer prog_11_method_7_code 2 (Option.some Jvm.ClassFile.FieldType.int) ∈ TW := tm_5 (List.mem_of_getElem? (i := 40) rfl) rfl
theorem tw_1001 : Cond.methodLink "EqualCourtModel" 123 yX9_done ∈ TW := tm_5 (List.mem_of_getElem? (i := 41) rfl) rfl
theorem tw_1003 : Cond.instanceMethod yX9_done ∈ TW := tm_5 (List.mem_of_getElem? (i := 43) rfl) rfl
theorem tw_1004 : Cond.code yX9_done prog_11_method_3_code 2 (Option.some Jvm.ClassFile.FieldType.int) ∈ TW := tm_5 (List.mem_of_getElem? (i := 44) rfl) rfl
theorem tw_1005 : Cond.methodLink "EqualCourtLaw" 21 yX9_number ∈ TW := tm_5 (List.mem_of_getElem? (i := 45) rfl) rfl
theorem tw_1006 : Cond.instanceMethod yX9_number ∈ TW := tm_5 (List.mem_of_getElem? (i := 46) rfl) rfl
theorem tw_1007 : Cond.selects "EqualCourtModel" yX9_number yX9_number ∈ TW := tm_5 (List.mem_of_getElem? (i := 47) rfl) rfl
theorem tw_1008 : Cond.code yX9_number prog_11_method_9_code 2 (Option.some Jvm.ClassFile.FieldType.int) ∈ TW := tm_5 (List.mem_of_getElem? (i := 48) rfl) rfl
theorem tw_1009 : Cond.methodLink "EqualCourtLaw" 26 yX9_built ∈ TW := tm_5 (List.mem_of_getElem? (i := 49) rfl) rfl
theorem tw_1010 : Cond.instanceMethod yX9_built ∈ TW := tm_5 (List.mem_of_getElem? (i := 50) rfl) rfl
theorem tw_1011 : Cond.selects "EqualCourtModel" yX9_built yX9_built ∈ TW := tm_5 (List.mem_of_getElem? (i := 51) rfl) rfl
theorem tw_1012 : Cond.code yX9_built prog_11_method_10_code 6 (Option.some Jvm.ClassFile.FieldType.int) ∈ TW := tm_5 (List.mem_of_getElem? (i := 52) rfl) rfl
theorem tw_1013 : Cond.methodLink "EqualCourtModel" 132 yX9_isTerm ∈ TW := tm_5 (List.mem_of_getElem? (i := 53) rfl) rfl
theorem tw_1015 : Cond.instanceMethod yX9_isTerm ∈ TW := tm_5 (List.mem_of_getElem? (i := 55) rfl) rfl
theorem tw_1016 : Cond.code yX9_isTerm prog_11_method_4_code 2 (Option.some Jvm.ClassFile.FieldType.boolean) ∈ TW := tm_5 (List.mem_of_getElem? (i := 56) rfl) rfl
theorem tw_1017 : Cond.methodLink "EqualCourtLaw" 31 yX9_row ∈ TW := tm_5 (List.mem_of_getElem? (i := 57) rfl) rfl
theorem tw_1018 : Cond.instanceMethod yX9_row ∈ TW := tm_5 (List.mem_of_getElem? (i := 58) rfl) rfl
theorem tw_1019 : Cond.selects "EqualCourtModel" yX9_row yX9_row ∈ TW := tm_5 (List.mem_of_getElem? (i := 59) rfl) rfl
theorem tw_1020 : Cond.code yX9_row prog_11_method_11_code 3 (Option.some Jvm.ClassFile.FieldType.int) ∈ TW := tm_5 (List.mem_of_getElem? (i := 60) rfl) rfl
theorem tw_1021 : Cond.methodLink "EqualCourtLaw" 36 yX9_even ∈ TW := tm_5 (List.mem_of_getElem? (i := 61) rfl) rfl
theorem tw_1022 : Cond.instanceMethod yX9_even ∈ TW := tm_5 (List.mem_of_getElem? (i := 62) rfl) rfl
theorem tw_1023 : Cond.selects "EqualCourtModel" yX9_even yX9_even ∈ TW := tm_5 (List.mem_of_getElem? (i := 63) rfl) rfl
theorem tw_1024 : Cond.code yX9_even prog_11_method_12_code 4 (Option.some Jvm.ClassFile.FieldType.int) ∈ TW := tm_5 (List.mem_of_getElem? (i := 64) rfl) rfl
theorem tw_1025 : Cond.methodLink "EqualCourtLaw" 40 yX9_kind ∈ TW := tm_5 (List.mem_of_getElem? (i := 65) rfl) rfl
theorem tw_1026 : Cond.instanceMethod yX9_kind ∈ TW := tm_5 (List.mem_of_getElem? (i := 66) rfl) rfl
theorem tw_1027 : Cond.selects "EqualCourtModel" yX9_kind yX9_kind ∈ TW := tm_5 (List.mem_of_getElem? (i := 67) rfl) rfl
theorem tw_1028 : Cond.code yX9_kind prog_11_method_13_code 2 (Option.some Jvm.ClassFile.FieldType.int) ∈ TW := tm_5 (List.mem_of_getElem? (i := 68) rfl) rfl
theorem tw_1029 : Cond.methodLink "EqualCourtLaw" 44 yX9_part ∈ TW := tm_5 (List.mem_of_getElem? (i := 69) rfl) rfl
theorem tw_1030 : Cond.instanceMethod yX9_part ∈ TW := tm_5 (List.mem_of_getElem? (i := 70) rfl) rfl
theorem tw_1031 : Cond.selects "EqualCourtModel" yX9_part yX9_part ∈ TW := tm_5 (List.mem_of_getElem? (i := 71) rfl) rfl
theorem tw_1032 : Cond.code yX9_part prog_11_method_14_code 3 (Option.some Jvm.ClassFile.FieldType.int) ∈ TW := tm_5 (List.mem_of_getElem? (i := 72) rfl) rfl
theorem tw_1033 : Cond.methodLink "EqualCourtLaw" 48 yX9_shows ∈ TW := tm_5 (List.mem_of_getElem? (i := 73) rfl) rfl
theorem tw_1034 : Cond.instanceMethod yX9_shows ∈ TW := tm_5 (List.mem_of_getElem? (i := 74) rfl) rfl
theorem tw_1035 : Cond.selects "EqualCourtModel" yX9_shows yX9_shows ∈ TW := tm_5 (List.mem_of_getElem? (i := 75) rfl) rfl
theorem tw_1036 : Cond.code yX9_shows prog_11_method_15_code 2 (Option.some Jvm.ClassFile.FieldType.int) ∈ TW := tm_5 (List.mem_of_getElem? (i := 76) rfl) rfl
theorem tw_1037 : Cond.methodLink "EqualCourtLaw" 52 yX9_many ∈ TW := tm_5 (List.mem_of_getElem? (i := 77) rfl) rfl
theorem tw_1038 : Cond.instanceMethod yX9_many ∈ TW := tm_5 (List.mem_of_getElem? (i := 78) rfl) rfl
theorem tw_1039 : Cond.selects "EqualCourtModel" yX9_many yX9_many ∈ TW := tm_5 (List.mem_of_getElem? (i := 79) rfl) rfl
theorem tw_1040 : Cond.code yX9_many prog_11_method_30_code 2 (Option.some Jvm.ClassFile.FieldType.int) ∈ TW := tm_5 (List.mem_of_getElem? (i := 80) rfl) rfl
theorem tw_1041 : Cond.methodLink "EqualCourtModel" 169 yX9_taken ∈ TW := tm_5 (List.mem_of_getElem? (i := 81) rfl) rfl
theorem tw_1043 : Cond.instanceMethod yX9_taken ∈ TW := tm_5 (List.mem_of_getElem? (i := 83) rfl) rfl
theorem tw_1044 : Cond.code yX9_taken prog_11_method_28_code 3 (Option.some Jvm.ClassFile.FieldType.int) ∈ TW := tm_5 (List.mem_of_getElem? (i := 84) rfl) rfl
theorem tw_1045 : Cond.methodLink "EqualCourtModel" 182 yX9_classes ∈ TW := tm_5 (List.mem_of_getElem? (i := 85) rfl) rfl
theorem tw_1047 : Cond.instanceMethod yX9_classes ∈ TW := tm_5 (List.mem_of_getElem? (i := 87) rfl) rfl
theorem tw_1048 : Cond.code yX9_classes prog_11_method_29_code 3 (Option.some Jvm.ClassFile.FieldType.int) ∈ TW := tm_5 (List.mem_of_getElem? (i := 88) rfl) rfl
theorem tw_1049 : Cond.methodLink "EqualCourtModel" 161 yX9_court ∈ TW := tm_5 (List.mem_of_getElem? (i := 89) rfl) rfl
theorem tw_1051 : Cond.instanceMethod yX9_court ∈ TW := tm_5 (List.mem_of_getElem? (i := 91) rfl) rfl
theorem tw_1052 : Cond.code yX9_court prog_11_method_23_code 1 (Option.none : Option Jvm.ClassFile.FieldType) ∈ TW := tm_5 (List.mem_of_getElem? (i := 92) rfl) rfl
theorem tw_1053 : Cond.methodLink "EqualCourtModel" 158 yX9_takeCourt ∈ TW := tm_5 (List.mem_of_getElem? (i := 93) rfl) rfl
theorem tw_1055 : Cond.instanceMethod yX9_takeCourt ∈ TW := tm_5 (List.mem_of_getElem? (i := 95) rfl) rfl
theorem tw_1056 : Cond.code yX9_takeCourt prog_11_method_22_code 2 (Option.none : Option Jvm.ClassFile.FieldType) ∈ TW := tm_5 (List.mem_of_getElem? (i := 96) rfl) rfl
theorem tw_1057 : Cond.methodLink "EqualCourtModel" 152 yX9_findOnes ∈ TW := tm_5 (List.mem_of_getElem? (i := 97) rfl) rfl
theorem tw_1059 : Cond.instanceMethod yX9_findOnes ∈ TW := tm_5 (List.mem_of_getElem? (i := 99) rfl) rfl
theorem tw_1060 : Cond.code yX9_findOnes prog_11_method_20_code 3 (Option.none : Option Jvm.ClassFile.FieldType) ∈ TW := tm_5 (List.mem_of_getElem? (i := 100) rfl) rfl
theorem tw_1061 : Cond.methodLink "EqualCourtModel" 144 yX9_merge ∈ TW := tm_5 (List.mem_of_getElem? (i := 101) rfl) rfl
theorem tw_1063 : Cond.instanceMethod yX9_merge ∈ TW := tm_5 (List.mem_of_getElem? (i := 103) rfl) rfl
theorem tw_1064 : Cond.code yX9_merge prog_11_method_16_code 6 (Option.none : Option Jvm.ClassFile.FieldType) ∈ TW := tm_5 (List.mem_of_getElem? (i := 104) rfl) rfl
theorem tw_1065 : Cond.methodLink "EqualCourtModel" 148 yX9_looks ∈ TW := tm_5 (List.mem_of_getElem? (i := 105) rfl) rfl
theorem tw_1067 : Cond.instanceMethod yX9_looks ∈ TW := tm_5 (List.mem_of_getElem? (i := 107) rfl) rfl
theorem tw_1068 : Cond.code yX9_looks prog_11_method_19_code 5 (Option.some Jvm.ClassFile.FieldType.boolean) ∈ TW := tm_5 (List.mem_of_getElem? (i := 108) rfl) rfl
theorem tw_1069 : Cond.methodLink "EqualCourtModel" 140 yX9_isByParts ∈ TW := tm_5 (List.mem_of_getElem? (i := 109) rfl) rfl
theorem tw_1071 : Cond.instanceMethod yX9_isByParts ∈ TW := tm_5 (List.mem_of_getElem? (i := 111) rfl) rfl
theorem tw_1072 : Cond.code yX9_isByParts prog_11_method_18_code 5 (Option.some Jvm.ClassFile.FieldType.boolean) ∈ TW := tm_5 (List.mem_of_getElem? (i := 112) rfl) rfl
theorem tw_1073 : Cond.methodLink "EqualCourtModel" 136 yX9_isPart ∈ TW := tm_5 (List.mem_of_getElem? (i := 113) rfl) rfl
theorem tw_1075 : Cond.instanceMethod yX9_isPart ∈ TW := tm_5 (List.mem_of_getElem? (i := 115) rfl) rfl
theorem tw_1076 : Cond.code yX9_isPart prog_11_method_17_code 5 (Option.some Jvm.ClassFile.FieldType.boolean) ∈ TW := tm_5 (List.mem_of_getElem? (i := 116) rfl) rfl
theorem tw_1077 : Cond.methodLink "EqualCourtLaw" 56 yX9_say ∈ TW := tm_5 (List.mem_of_getElem? (i := 117) rfl) rfl
theorem tw_1078 : Cond.instanceMethod yX9_say ∈ TW := tm_5 (List.mem_of_getElem? (i := 118) rfl) rfl
theorem tw_1079 : Cond.selects "EqualCourtModel" yX9_say yX9_say ∈ TW := tm_5 (List.mem_of_getElem? (i := 119) rfl) rfl
theorem tw_1080 : Cond.code yX9_say prog_11_method_34_code 3 (Option.some Jvm.ClassFile.FieldType.int) ∈ TW := tm_5 (List.mem_of_getElem? (i := 120) rfl) rfl
theorem tw_1081 : Cond.methodLink "EqualCourtModel" 204 yX9_saidNow ∈ TW := tm_5 (List.mem_of_getElem? (i := 121) rfl) rfl
theorem tw_1083 : Cond.instanceMethod yX9_saidNow ∈ TW := tm_5 (List.mem_of_getElem? (i := 123) rfl) rfl
theorem tw_1084 : Cond.code yX9_saidNow prog_11_method_33_code 4 (Option.some Jvm.ClassFile.FieldType.int) ∈ TW := tm_5 (List.mem_of_getElem? (i := 124) rfl) rfl
theorem tw_1085 : Cond.methodLink "EqualCourtModel" 196 yX9_wouldClash ∈ TW := tm_5 (List.mem_of_getElem? (i := 125) rfl) rfl
theorem tw_1087 : Cond.instanceMethod yX9_wouldClash ∈ TW := tm_5 (List.mem_of_getElem? (i := 127) rfl) rfl
theorem tw_1088 : Cond.code yX9_wouldClash prog_11_method_31_code 4 (Option.some Jvm.ClassFile.FieldType.boolean) ∈ TW := tm_5 (List.mem_of_getElem? (i := 128) rfl) rfl
theorem tw_1089 : Cond.methodLink "EqualCourtModel" 185 yX9_add ∈ TW := tm_5 (List.mem_of_getElem? (i := 129) rfl) rfl
theorem tw_1091 : Cond.instanceMethod yX9_add ∈ TW := tm_5 (List.mem_of_getElem? (i := 131) rfl) rfl
theorem tw_1092 : Cond.code yX9_add prog_11_method_25_code 4 (Option.none : Option Jvm.ClassFile.FieldType) ∈ TW := tm_5 (List.mem_of_getElem? (i := 132) rfl) rfl
theorem tw_1093 : Cond.methodLink "EqualCourtModel" 163 yX9_clashes ∈ TW := tm_5 (List.mem_of_getElem? (i := 133) rfl) rfl
theorem tw_1095 : Cond.instanceMethod yX9_clashes ∈ TW := tm_5 (List.mem_of_getElem? (i := 135) rfl) rfl
theorem tw_1096 : Cond.code yX9_clashes prog_11_method_21_code 4 (Option.some Jvm.ClassFile.FieldType.boolean) ∈ TW := tm_5 (List.mem_of_getElem? (i := 136) rfl) rfl
theorem tw_1097 : Cond.methodLink "EqualCourtModel" 189 yX9_thin ∈ TW := tm_5 (List.mem_of_getElem? (i := 137) rfl) rfl
theorem tw_1099 : Cond.instanceMethod yX9_thin ∈ TW := tm_5 (List.mem_of_getElem? (i := 139) rfl) rfl
theorem tw_1100 : Cond.code yX9_thin prog_11_method_27_code 6 (Option.some Jvm.ClassFile.FieldType.int) ∈ TW := tm_5 (List.mem_of_getElem? (i := 140) rfl) rfl
theorem tw_1101 : Cond.methodLink "EqualCourtModel" 166 yX9_does ∈ TW := tm_5 (List.mem_of_getElem? (i := 141) rfl) rfl
theorem tw_1103 : Cond.instanceMethod yX9_does ∈ TW := tm_5 (List.mem_of_getElem? (i := 143) rfl) rfl
theorem tw_1104 : Cond.code yX9_does prog_11_method_26_code 3 (Option.some Jvm.ClassFile.FieldType.boolean) ∈ TW := tm_5 (List.mem_of_getElem? (i := 144) rfl) rfl
theorem tw_1105 : Cond.methodLink "EqualCourtModel" 200 yX9_take ∈ TW := tm_5 (List.mem_of_getElem? (i := 145) rfl) rfl
theorem tw_1107 : Cond.instanceMethod yX9_take ∈ TW := tm_5 (List.mem_of_getElem? (i := 147) rfl) rfl
theorem tw_1108 : Cond.code yX9_take prog_11_method_32_code 4 (Option.some Jvm.ClassFile.FieldType.int) ∈ TW := tm_5 (List.mem_of_getElem? (i := 148) rfl) rfl
theorem tw_1109 : Cond.methodLink "EqualCourtLaw" 60 yX9_unlike ∈ TW := tm_5 (List.mem_of_getElem? (i := 149) rfl) rfl
theorem tw_1110 : Cond.instanceMethod yX9_unlike ∈ TW := tm_5 (List.mem_of_getElem? (i := 150) rfl) rfl
theorem tw_1111 : Cond.selects "EqualCourtModel" yX9_unlike yX9_unlike ∈ TW := tm_5 (List.mem_of_getElem? (i := 151) rfl) rfl
theorem tw_1112 : Cond.code yX9_unlike prog_11_method_35_code 3 (Option.some Jvm.ClassFile.FieldType.int) ∈ TW := tm_5 (List.mem_of_getElem? (i := 152) rfl) rfl
theorem tw_1113 : Cond.methodLink "EqualCourtLaw" 64 yX9_drop ∈ TW := tm_5 (List.mem_of_getElem? (i := 153) rfl) rfl
theorem tw_1114 : Cond.instanceMethod yX9_drop ∈ TW := tm_5 (List.mem_of_getElem? (i := 154) rfl) rfl
theorem tw_1115 : Cond.selects "EqualCourtModel" yX9_drop yX9_drop ∈ TW := tm_5 (List.mem_of_getElem? (i := 155) rfl) rfl
theorem tw_1116 : Cond.code yX9_drop prog_11_method_36_code 2 (Option.some Jvm.ClassFile.FieldType.int) ∈ TW := tm_5 (List.mem_of_getElem? (i := 156) rfl) rfl
theorem tw_1117 : Cond.methodLink "EqualCourtLaw" 68 yX9_said ∈ TW := tm_5 (List.mem_of_getElem? (i := 157) rfl) rfl
theorem tw_1118 : Cond.instanceMethod yX9_said ∈ TW := tm_5 (List.mem_of_getElem? (i := 158) rfl) rfl
theorem tw_1119 : Cond.selects "EqualCourtModel" yX9_said yX9_said ∈ TW := tm_5 (List.mem_of_getElem? (i := 159) rfl) rfl
theorem tw_1120 : Cond.code yX9_said prog_11_method_37_code 3 (Option.some Jvm.ClassFile.FieldType.int) ∈ TW := tm_5 (List.mem_of_getElem? (i := 160) rfl) rfl
theorem tw_1121 : Cond.methodLink "EqualCourtLaw" 72 yX9_clashed ∈ TW := tm_5 (List.mem_of_getElem? (i := 161) rfl) rfl
theorem tw_1122 : Cond.instanceMethod yX9_clashed ∈ TW := tm_5 (List.mem_of_getElem? (i := 162) rfl) rfl
theorem tw_1123 : Cond.selects "EqualCourtModel" yX9_clashed yX9_clashed ∈ TW := tm_5 (List.mem_of_getElem? (i := 163) rfl) rfl
theorem tw_1124 : Cond.code yX9_clashed prog_11_method_38_code 2 (Option.some Jvm.ClassFile.FieldType.int) ∈ TW := tm_5 (List.mem_of_getElem? (i := 164) rfl) rfl
theorem tw_1125 : Cond.methodLink "EqualCourtLaw" 76 yX9_judge ∈ TW := tm_5 (List.mem_of_getElem? (i := 165) rfl) rfl
theorem tw_1126 : Cond.instanceMethod yX9_judge ∈ TW := tm_5 (List.mem_of_getElem? (i := 166) rfl) rfl
theorem tw_1127 : Cond.selects "EqualCourtModel" yX9_judge yX9_judge ∈ TW := tm_5 (List.mem_of_getElem? (i := 167) rfl) rfl
theorem tw_1128 : Cond.code yX9_judge prog_11_method_39_code 3 (Option.some Jvm.ClassFile.FieldType.int) ∈ TW := tm_5 (List.mem_of_getElem? (i := 168) rfl) rfl
theorem tw_1129 : Cond.methodLink "EqualCourtModel" 207 yX9_areOne ∈ TW := tm_5 (List.mem_of_getElem? (i := 169) rfl) rfl
theorem tw_1131 : Cond.instanceMethod yX9_areOne ∈ TW := tm_5 (List.mem_of_getElem? (i := 171) rfl) rfl
theorem tw_1132 : Cond.code yX9_areOne prog_11_method_24_code 3 (Option.some Jvm.ClassFile.FieldType.boolean) ∈ TW := tm_5 (List.mem_of_getElem? (i := 172) rfl) rfl
theorem tw_1133 : Cond.methodLink "EqualCourtLaw" 80 yX9_why ∈ TW := tm_5 (List.mem_of_getElem? (i := 173) rfl) rfl
theorem tw_1134 : Cond.instanceMethod yX9_why ∈ TW := tm_5 (List.mem_of_getElem? (i := 174) rfl) rfl
theorem tw_1135 : Cond.selects "EqualCourtModel" yX9_why yX9_why ∈ TW := tm_5 (List.mem_of_getElem? (i := 175) rfl) rfl
theorem tw_1136 : Cond.code yX9_why prog_11_method_40_code 4 (Option.some Jvm.ClassFile.FieldType.int) ∈ TW := tm_5 (List.mem_of_getElem? (i := 176) rfl) rfl
theorem tw_1137 : Cond.methodLink "EqualCourtModel" 210 yX9_judge ∈ TW := tm_5 (List.mem_of_getElem? (i := 177) rfl) rfl
theorem tw_1138 : Cond.methodLink "EqualCourtLaw" 84 yX9_least ∈ TW := tm_5 (List.mem_of_getElem? (i := 178) rfl) rfl
theorem tw_1139 : Cond.instanceMethod yX9_least ∈ TW := tm_5 (List.mem_of_getElem? (i := 179) rfl) rfl
theorem tw_1140 : Cond.selects "EqualCourtModel" yX9_least yX9_least ∈ TW := tm_5 (List.mem_of_getElem? (i := 180) rfl) rfl
theorem tw_1141 : Cond.code yX9_least prog_11_method_43_code 9 (Option.some Jvm.ClassFile.FieldType.int) ∈ TW := tm_5 (List.mem_of_getElem? (i := 181) rfl) rfl
theorem tw_1142 : Cond.methodLink "EqualCourtModel" 217 yX9_isEnough ∈ TW := tm_5 (List.mem_of_getElem? (i := 182) rfl) rfl
theorem tw_1144 : Cond.instanceMethod yX9_isEnough ∈ TW := tm_5 (List.mem_of_getElem? (i := 184) rfl) rfl
theorem tw_1145 : Cond.code yX9_isEnough prog_11_method_42_code 5 (Option.some Jvm.ClassFile.FieldType.boolean) ∈ TW := tm_5 (List.mem_of_getElem? (i := 185) rfl) rfl
theorem tw_1146 : Cond.methodLink "EqualCourtModel" 221 yX9_nextSet ∈ TW := tm_5 (List.mem_of_getElem? (i := 186) rfl) rfl
theorem tw_1148 : Cond.instanceMethod yX9_nextSet ∈ TW := tm_5 (List.mem_of_getElem? (i := 188) rfl) rfl
theorem tw_1149 : Cond.code yX9_nextSet prog_11_method_41_code 5 (Option.some Jvm.ClassFile.FieldType.boolean) ∈ TW := tm_5 (List.mem_of_getElem? (i := 189) rfl) rfl
theorem tw_1150 : Cond.methodLink "EqualCourtLaw" 88 yX9_because ∈ TW := tm_5 (List.mem_of_getElem? (i := 190) rfl) rfl
theorem tw_1151 : Cond.instanceMethod yX9_because ∈ TW := tm_5 (List.mem_of_getElem? (i := 191) rfl) rfl
theorem tw_1152 : Cond.selects "EqualCourtModel" yX9_because yX9_because ∈ TW := tm_5 (List.mem_of_getElem? (i := 192) rfl) rfl
theorem tw_1153 : Cond.code yX9_because prog_11_method_44_code 2 (Option.some Jvm.ClassFile.FieldType.int) ∈ TW := tm_5 (List.mem_of_getElem? (i := 193) rfl) rfl
theorem tw_1154 : Cond.methodLink "EqualCourtLaw" 92 yX9_head ∈ TW := tm_5 (List.mem_of_getElem? (i := 194) rfl) rfl
theorem tw_1155 : Cond.instanceMethod yX9_head ∈ TW := tm_5 (List.mem_of_getElem? (i := 195) rfl) rfl
theorem tw_1156 : Cond.selects "EqualCourtModel" yX9_head yX9_head ∈ TW := tm_5 (List.mem_of_getElem? (i := 196) rfl) rfl
theorem tw_1157 : Cond.code yX9_head prog_11_method_45_code 2 (Option.some Jvm.ClassFile.FieldType.int) ∈ TW := tm_5 (List.mem_of_getElem? (i := 197) rfl) rfl
theorem tw_1158 : Cond.methodLink "EqualCourtLaw" 96 yX9_member ∈ TW := tm_5 (List.mem_of_getElem? (i := 198) rfl) rfl
theorem tw_1159 : Cond.instanceMethod yX9_member ∈ TW := tm_5 (List.mem_of_getElem? (i := 199) rfl) rfl
theorem tw_1160 : Cond.selects "EqualCourtModel" yX9_member yX9_member ∈ TW := tm_5 (List.mem_of_getElem? (i := 200) rfl) rfl
theorem tw_1161 : Cond.code yX9_member prog_11_method_46_code 5 (Option.some Jvm.ClassFile.FieldType.int) ∈ TW := tm_5 (List.mem_of_getElem? (i := 201) rfl) rfl
theorem tw_1162 : Cond.methodLink "EqualCourtLaw" 100 yX9_uses ∈ TW := tm_5 (List.mem_of_getElem? (i := 202) rfl) rfl
theorem tw_1163 : Cond.instanceMethod yX9_uses ∈ TW := tm_5 (List.mem_of_getElem? (i := 203) rfl) rfl
theorem tw_1164 : Cond.selects "EqualCourtModel" yX9_uses yX9_uses ∈ TW := tm_5 (List.mem_of_getElem? (i := 204) rfl) rfl
theorem tw_1165 : Cond.code yX9_uses prog_11_method_48_code 5 (Option.some Jvm.ClassFile.FieldType.int) ∈ TW := tm_5 (List.mem_of_getElem? (i := 205) rfl) rfl
theorem tw_1166 : Cond.methodLink "EqualCourtModel" 224 yX9_usesOne ∈ TW := tm_5 (List.mem_of_getElem? (i := 206) rfl) rfl
theorem tw_1168 : Cond.instanceMethod yX9_usesOne ∈ TW := tm_5 (List.mem_of_getElem? (i := 208) rfl) rfl
theorem tw_1169 : Cond.code yX9_usesOne prog_11_method_47_code 5 (Option.some Jvm.ClassFile.FieldType.boolean) ∈ TW := tm_5 (List.mem_of_getElem? (i := 209) rfl) rfl
theorem tw_1170 : Cond.methodLink "EqualCourtLaw" 105 yX9_world ∈ TW := tm_5 (List.mem_of_getElem? (i := 210) rfl) rfl
theorem tw_1171 : Cond.instanceMethod yX9_world ∈ TW := tm_5 (List.mem_of_getElem? (i := 211) rfl) rfl
theorem tw_1172 : Cond.selects "EqualCourtModel" yX9_world yX9_world ∈ TW := tm_5 (List.mem_of_getElem? (i := 212) rfl) rfl
theorem tw_1173 : Cond.code yX9_world prog_11_method_51_code 5 (Option.some Jvm.ClassFile.FieldType.long) ∈ TW := tm_5 (List.mem_of_getElem? (i := 213) rfl) rfl
theorem tw_1174 : Cond.constantLong "EqualCourtModel" 227 (1099511627776 : Int64) ∈ TW := tm_5 (List.mem_of_getElem? (i := 214) rfl) rfl
theorem tw_1175 : Cond.methodLink "EqualCourtModel" 229 yX9_numberOf ∈ TW := tm_5 (List.mem_of_getElem? (i := 215) rfl) rfl
theorem tw_1177 : Cond.instanceMethod yX9_numberOf ∈ TW := tm_5 (List.mem_of_getElem? (i := 217) rfl) rfl
theorem tw_1178 : Cond.code yX9_numberOf prog_11_method_50_code 4 (Option.some Jvm.ClassFile.FieldType.int) ∈ TW := tm_5 (List.mem_of_getElem? (i := 218) rfl) rfl
theorem tw_1179 : Cond.methodLink "EqualCourtModel" 232 yX9_isNumber ∈ TW := tm_5 (List.mem_of_getElem? (i := 219) rfl) rfl
theorem tw_1181 : Cond.instanceMethod yX9_isNumber ∈ TW := tm_5 (List.mem_of_getElem? (i := 221) rfl) rfl
theorem tw_1182 : Cond.code yX9_isNumber prog_11_method_49_code 4 (Option.some Jvm.ClassFile.FieldType.boolean) ∈ TW := tm_5 (List.mem_of_getElem? (i := 222) rfl) rfl
theorem tw_1183 : Cond.methodLink "EqualCourtLaw" 110 yX9_push ∈ TW := tm_5 (List.mem_of_getElem? (i := 223) rfl) rfl
theorem tw_1184 : Cond.instanceMethod yX9_push ∈ TW := tm_5 (List.mem_of_getElem? (i := 224) rfl) rfl
theorem tw_1185 : Cond.selects "EqualCourtModel" yX9_push yX9_push ∈ TW := tm_5 (List.mem_of_getElem? (i := 225) rfl) rfl
theorem tw_1186 : Cond.code yX9_push prog_11_method_52_code 2 (Option.some Jvm.ClassFile.FieldType.int) ∈ TW := tm_5 (List.mem_of_getElem? (i := 226) rfl) rfl
theorem tw_1187 : Cond.methodLink "EqualCourtLaw" 114 yX9_pop ∈ TW := tm_5 (List.mem_of_getElem? (i := 227) rfl) rfl
theorem tw_1188 : Cond.instanceMethod yX9_pop ∈ TW := tm_5 (List.mem_of_getElem? (i := 228) rfl) rfl
theorem tw_1189 : Cond.selects "EqualCourtModel" yX9_pop yX9_pop ∈ TW := tm_5 (List.mem_of_getElem? (i := 229) rfl) rfl
theorem tw_1190 : Cond.code yX9_pop prog_11_method_53_code 2 (Option.some Jvm.ClassFile.FieldType.int) ∈ TW := tm_5 (List.mem_of_getElem? (i := 230) rfl) rfl
theorem tw_1191 : Cond.methodLink "EqualCourtLaw" 118 yX9_law ∈ TW := tm_5 (List.mem_of_getElem? (i := 231) rfl) rfl
theorem tw_1192 : Cond.instanceMethod yX9_law ∈ TW := tm_5 (List.mem_of_getElem? (i := 232) rfl) rfl
theorem tw_1193 : Cond.selects "EqualCourtModel" yX9_law yX9_law ∈ TW := tm_5 (List.mem_of_getElem? (i := 233) rfl) rfl
theorem tw_1194 : Cond.code yX9_law prog_11_method_54_code 3 (Option.some Jvm.ClassFile.FieldType.int) ∈ TW := tm_5 (List.mem_of_getElem? (i := 234) rfl) rfl
theorem tw_1195 : Cond.methodLink "EqualCourtLaw" 123 yX9_instance ∈ TW := tm_5 (List.mem_of_getElem? (i := 235) rfl) rfl
theorem tw_1196 : Cond.instanceMethod yX9_instance ∈ TW := tm_5 (List.mem_of_getElem? (i := 236) rfl) rfl
theorem tw_1197 : Cond.selects "EqualCourtModel" yX9_instance yX9_instance ∈ TW := tm_5 (List.mem_of_getElem? (i := 237) rfl) rfl
theorem tw_1198 : Cond.code yX9_instance prog_11_method_58_code 5 (Option.some Jvm.ClassFile.FieldType.int) ∈ TW := tm_5 (List.mem_of_getElem? (i := 238) rfl) rfl
theorem tw_1199 : Cond.methodLink "EqualCourtModel" 241 yX9_instanceOf ∈ TW := tm_5 (List.mem_of_getElem? (i := 239) rfl) rfl
theorem tw_1201 : Cond.instanceMethod yX9_instanceOf ∈ TW := tm_6 (List.mem_of_getElem? (i := 1) rfl) rfl
theorem tw_1202 : Cond.code yX9_instanceOf prog_11_method_57_code 6 (Option.some Jvm.ClassFile.FieldType.int) ∈ TW := tm_6 (List.mem_of_getElem? (i := 2) rfl) rfl
theorem tw_1203 : Cond.methodLink "EqualCourtModel" 238 yX9_rebuilt ∈ TW := tm_6 (List.mem_of_getElem? (i := 3) rfl) rfl
theorem tw_1205 : Cond.instanceMethod yX9_rebuilt ∈ TW := tm_6 (List.mem_of_getElem? (i := 5) rfl) rfl
theorem tw_1206 : Cond.code yX9_rebuilt prog_11_method_56_code 4 (Option.some Jvm.ClassFile.FieldType.int) ∈ TW := tm_6 (List.mem_of_getElem? (i := 6) rfl) rfl
theorem tw_1207 : Cond.methodLink "EqualCourtModel" 235 yX9_isHole ∈ TW := tm_6 (List.mem_of_getElem? (i := 7) rfl) rfl
theorem tw_1209 : Cond.instanceMethod yX9_isHole ∈ TW := tm_6 (List.mem_of_getElem? (i := 9) rfl) rfl
theorem tw_1210 : Cond.code yX9_isHole prog_11_method_55_code 2 (Option.some Jvm.ClassFile.FieldType.boolean) ∈ TW := tm_6 (List.mem_of_getElem? (i := 10) rfl) rfl
theorem tw_1211 : Cond.methodLink "EqualCourtLaw" 127 yX9_follow ∈ TW := tm_6 (List.mem_of_getElem? (i := 11) rfl) rfl
theorem tw_1212 : Cond.instanceMethod yX9_follow ∈ TW := tm_6 (List.mem_of_getElem? (i := 12) rfl) rfl
theorem tw_1213 : Cond.selects "EqualCourtModel" yX9_follow yX9_follow ∈ TW := tm_6 (List.mem_of_getElem? (i := 13) rfl) rfl
theorem tw_1214 : Cond.code yX9_follow prog_11_method_63_code 4 (Option.some Jvm.ClassFile.FieldType.int) ∈ TW := tm_6 (List.mem_of_getElem? (i := 14) rfl) rfl
theorem tw_1215 : Cond.methodLink "EqualCourtModel" 253 yX9_findHeads ∈ TW := tm_6 (List.mem_of_getElem? (i := 15) rfl) rfl
theorem tw_1217 : Cond.instanceMethod yX9_findHeads ∈ TW := tm_6 (List.mem_of_getElem? (i := 17) rfl) rfl
theorem tw_1218 : Cond.code yX9_findHeads prog_11_method_60_code 2 (Option.none : Option Jvm.ClassFile.FieldType) ∈ TW := tm_6 (List.mem_of_getElem? (i := 18) rfl) rfl
theorem tw_1219 : Cond.methodLink "EqualCourtModel" 256 yX9_lookForHoles ∈ TW := tm_6 (List.mem_of_getElem? (i := 19) rfl) rfl
theorem tw_1221 : Cond.instanceMethod yX9_lookForHoles ∈ TW := tm_6 (List.mem_of_getElem? (i := 21) rfl) rfl
theorem tw_1222 : Cond.code yX9_lookForHoles prog_11_method_59_code 4 (Option.none : Option Jvm.ClassFile.FieldType) ∈ TW := tm_6 (List.mem_of_getElem? (i := 22) rfl) rfl
theorem tw_1223 : Cond.methodLink "EqualCourtModel" 260 yX9_followAll ∈ TW := tm_6 (List.mem_of_getElem? (i := 23) rfl) rfl
theorem tw_1225 : Cond.instanceMethod yX9_followAll ∈ TW := tm_6 (List.mem_of_getElem? (i := 25) rfl) rfl
theorem tw_1226 : Cond.code yX9_followAll prog_11_method_62_code 10 (Option.some Jvm.ClassFile.FieldType.int) ∈ TW := tm_6 (List.mem_of_getElem? (i := 26) rfl) rfl
theorem tw_1227 : Cond.methodLink "EqualCourtModel" 250 yX9_goOn ∈ TW := tm_6 (List.mem_of_getElem? (i := 27) rfl) rfl
theorem tw_1229 : Cond.instanceMethod yX9_goOn ∈ TW := tm_6 (List.mem_of_getElem? (i := 29) rfl) rfl
theorem tw_1230 : Cond.code yX9_goOn prog_11_method_61_code 6 (Option.some Jvm.ClassFile.FieldType.int) ∈ TW := tm_6 (List.mem_of_getElem? (i := 30) rfl) rfl
theorem tw_1231 : Cond.methodLink "EqualCourtLaw" 131 yX9_ended ∈ TW := tm_6 (List.mem_of_getElem? (i := 31) rfl) rfl
theorem tw_1232 : Cond.instanceMethod yX9_ended ∈ TW := tm_6 (List.mem_of_getElem? (i := 32) rfl) rfl
theorem tw_1233 : Cond.selects "EqualCourtModel" yX9_ended yX9_ended ∈ TW := tm_6 (List.mem_of_getElem? (i := 33) rfl) rfl
theorem tw_1234 : Cond.code yX9_ended prog_11_method_64_code 1 (Option.some Jvm.ClassFile.FieldType.int) ∈ TW := tm_6 (List.mem_of_getElem? (i := 34) rfl) rfl
theorem tw_1235 : Cond.methodLink "EqualCourtLaw" 135 yX9_claim ∈ TW := tm_6 (List.mem_of_getElem? (i := 35) rfl) rfl
theorem tw_1236 : Cond.instanceMethod yX9_claim ∈ TW := tm_6 (List.mem_of_getElem? (i := 36) rfl) rfl
theorem tw_1237 : Cond.selects "EqualCourtModel" yX9_claim yX9_claim ∈ TW := tm_6 (List.mem_of_getElem? (i := 37) rfl) rfl
theorem tw_1238 : Cond.code yX9_claim prog_11_method_65_code 6 (Option.some Jvm.ClassFile.FieldType.int) ∈ TW := tm_6 (List.mem_of_getElem? (i := 38) rfl) rfl
theorem tw_1239 : Cond.methodLink "EqualCourtLaw" 139 yX9_unclaim ∈ TW := tm_6 (List.mem_of_getElem? (i := 39) rfl) rfl
theorem tw_1240 : Cond.instanceMethod yX9_unclaim ∈ TW := tm_6 (List.mem_of_getElem? (i := 40) rfl) rfl
theorem tw_1241 : Cond.selects "EqualCourtModel" yX9_unclaim yX9_unclaim ∈ TW := tm_6 (List.mem_of_getElem? (i := 41) rfl) rfl
theorem tw_1242 : Cond.code yX9_unclaim prog_11_method_66_code 2 (Option.some Jvm.ClassFile.FieldType.int) ∈ TW := tm_6 (List.mem_of_getElem? (i := 42) rfl) rfl
theorem tw_1243 : Cond.methodLink "EqualCourtLaw" 143 yX9_check ∈ TW := tm_6 (List.mem_of_getElem? (i := 43) rfl) rfl
theorem tw_1244 : Cond.instanceMethod yX9_check ∈ TW := tm_6 (List.mem_of_getElem? (i := 44) rfl) rfl
theorem tw_1245 : Cond.selects "EqualCourtModel" yX9_check yX9_check ∈ TW := tm_6 (List.mem_of_getElem? (i := 45) rfl) rfl
theorem tw_1246 : Cond.code yX9_check prog_11_method_72_code 4 (Option.some Jvm.ClassFile.FieldType.int) ∈ TW := tm_6 (List.mem_of_getElem? (i := 46) rfl) rfl
theorem tw_1247 : Cond.methodLink "EqualCourtModel" 275 yX9_isRight ∈ TW := tm_6 (List.mem_of_getElem? (i := 47) rfl) rfl
theorem tw_1249 : Cond.instanceMethod yX9_isRight ∈ TW := tm_6 (List.mem_of_getElem? (i := 49) rfl) rfl
theorem tw_1250 : Cond.code yX9_isRight prog_11_method_70_code 6 (Option.some Jvm.ClassFile.FieldType.boolean) ∈ TW := tm_6 (List.mem_of_getElem? (i := 50) rfl) rfl
theorem tw_1251 : Cond.methodLink "EqualCourtModel" 266 yX9_isStep ∈ TW := tm_6 (List.mem_of_getElem? (i := 51) rfl) rfl
theorem tw_1253 : Cond.instanceMethod yX9_isStep ∈ TW := tm_6 (List.mem_of_getElem? (i := 53) rfl) rfl
theorem tw_1254 : Cond.code yX9_isStep prog_11_method_67_code 3 (Option.some Jvm.ClassFile.FieldType.boolean) ∈ TW := tm_6 (List.mem_of_getElem? (i := 54) rfl) rfl
theorem tw_1255 : Cond.methodLink "EqualCourtModel" 269 yX9_isRightByParts ∈ TW := tm_6 (List.mem_of_getElem? (i := 55) rfl) rfl
theorem tw_1257 : Cond.instanceMethod yX9_isRightByParts ∈ TW := tm_6 (List.mem_of_getElem? (i := 57) rfl) rfl
theorem tw_1258 : Cond.code yX9_isRightByParts prog_11_method_69_code 7 (Option.some Jvm.ClassFile.FieldType.boolean) ∈ TW := tm_6 (List.mem_of_getElem? (i := 58) rfl) rfl
theorem tw_1259 : Cond.methodLink "EqualCourtModel" 263 yX9_isKnown ∈ TW := tm_6 (List.mem_of_getElem? (i := 59) rfl) rfl
theorem tw_1261 : Cond.instanceMethod yX9_isKnown ∈ TW := tm_6 (List.mem_of_getElem? (i := 61) rfl) rfl
theorem tw_1262 : Cond.code yX9_isKnown prog_11_method_68_code 6 (Option.some Jvm.ClassFile.FieldType.boolean) ∈ TW := tm_6 (List.mem_of_getElem? (i := 62) rfl) rfl
theorem tw_1263 : Cond.methodLink "EqualCourtModel" 272 yX9_isOfRows ∈ TW := tm_6 (List.mem_of_getElem? (i := 63) rfl) rfl
theorem tw_1265 : Cond.instanceMethod yX9_isOfRows ∈ TW := tm_6 (List.mem_of_getElem? (i := 65) rfl) rfl
theorem tw_1266 : Cond.code yX9_isOfRows prog_11_method_71_code 7 (Option.some Jvm.ClassFile.FieldType.boolean) ∈ TW := tm_6 (List.mem_of_getElem? (i := 66) rfl) rfl
theorem tw_1267 : Cond.methodLink "EqualCourtLaw" 147 yX9_status ∈ TW := tm_6 (List.mem_of_getElem? (i := 67) rfl) rfl
theorem tw_1268 : Cond.instanceMethod yX9_status ∈ TW := tm_6 (List.mem_of_getElem? (i := 68) rfl) rfl
theorem tw_1269 : Cond.selects "EqualCourtModel" yX9_status yX9_status ∈ TW := tm_6 (List.mem_of_getElem? (i := 69) rfl) rfl
theorem tw_1270 : Cond.code yX9_status prog_11_method_73_code 1 (Option.some Jvm.ClassFile.FieldType.int) ∈ TW := tm_6 (List.mem_of_getElem? (i := 70) rfl) rfl
