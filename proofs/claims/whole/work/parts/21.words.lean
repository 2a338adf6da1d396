/-! ===== words: what the tables say, by places ===== -/
def gU : List Cond := lw_tbl.filter goodWord
theorem gU_good : ∀ w ∈ gU, goodWord w = true := fun _ h => (List.mem_filter.mp h).2
theorem gU_tbl : ∀ w ∈ gU, w ∈ lw_tbl := fun _ h => (List.mem_filter.mp h).1
theorem gmU {w : Cond} (h : w ∈ lw_tbl) (g : goodWord w = true) : w ∈ gU := List.mem_filter.mpr ⟨h, g⟩
theorem gtS : ∀ w ∈ k2_sels lw_privs, w ∈ lw_tbl := fun _ h => List.mem_append_left _ h
theorem gt1 : ∀ w ∈ tables_1_1, w ∈ lw_tbl := fun _ h => List.mem_append_right _ (List.mem_append_left _ h)
theorem gt2 : ∀ w ∈ tables_1_2, w ∈ lw_tbl := fun _ h => List.mem_append_right _ (List.mem_append_right _ (List.mem_append_left _ h))
theorem gt3 : ∀ w ∈ tables_1_3, w ∈ lw_tbl := fun _ h => List.mem_append_right _ (List.mem_append_right _ (List.mem_append_right _ (List.mem_append_left _ h)))
theorem gt4 : ∀ w ∈ tables_1_4, w ∈ lw_tbl := fun _ h => List.mem_append_right _ (List.mem_append_right _ (List.mem_append_right _ (List.mem_append_right _ (List.mem_append_left _ h))))
theorem gt5 : ∀ w ∈ tables_1_5, w ∈ lw_tbl := fun _ h => List.mem_append_right _ (List.mem_append_right _ (List.mem_append_right _ (List.mem_append_right _ (List.mem_append_right _ (List.mem_append_left _ h)))))
theorem gt6 : ∀ w ∈ tables_1_6, w ∈ lw_tbl := fun _ h => List.mem_append_right _ (List.mem_append_right _ (List.mem_append_right _ (List.mem_append_right _ (List.mem_append_right _ (List.mem_append_right _ (List.mem_append_left _ h))))))
theorem gt7 : ∀ w ∈ tables_1_7, w ∈ lw_tbl := fun _ h => List.mem_append_right _ (List.mem_append_right _ (List.mem_append_right _ (List.mem_append_right _ (List.mem_append_right _ (List.mem_append_right _ (List.mem_append_right _ (List.mem_append_left _ h)))))))
theorem gt8 : ∀ w ∈ tables_1_8, w ∈ lw_tbl := fun _ h => List.mem_append_right _ (List.mem_append_right _ (List.mem_append_right _ (List.mem_append_right _ (List.mem_append_right _ (List.mem_append_right _ (List.mem_append_right _ (List.mem_append_right _ (h))))))))
set_option maxRecDepth 20000 in
theorem wf_RX0_18 : Cond.fieldLink RX0 18 "CommaState$Book" "size" "I" ∈ gU := gmU (gt1 _ (List.mem_of_getElem? (i := 193) rfl)) rfl
set_option maxRecDepth 20000 in
theorem wf_RX0_22 : Cond.fieldLink RX0 22 "CommaState$Book" "listed" "I" ∈ gU := gmU (gt1 _ (List.mem_of_getElem? (i := 195) rfl)) rfl
set_option maxRecDepth 20000 in
theorem wm_RX0_25 : Cond.methodLink RX0 25 yX0_clear ∈ gU := gmU (gt4 _ (List.mem_of_getElem? (i := 130) rfl)) rfl
set_option maxRecDepth 20000 in
theorem wm_RX0_28 : Cond.methodLink RX0 28 yX7_sound ∈ gU := gmU (gt4 _ (List.mem_of_getElem? (i := 131) rfl)) rfl
set_option maxRecDepth 20000 in
theorem wf_RX0_34 : Cond.fieldLink RX0 34 "CommaState$Tape" "kind" "I" ∈ gU := gmU (gt1 _ (List.mem_of_getElem? (i := 46) rfl)) rfl
set_option maxRecDepth 20000 in
theorem wm_RX0_37 : Cond.methodLink RX0 37 yX0_readLine ∈ gU := gmU (gt4 _ (List.mem_of_getElem? (i := 132) rfl)) rfl
set_option maxRecDepth 20000 in
theorem wm_RX0_41 : Cond.methodLink RX0 41 yX7_numberHere ∈ gU := gmU (gt4 _ (List.mem_of_getElem? (i := 136) rfl)) rfl
set_option maxRecDepth 20000 in
theorem wm_RX0_45 : Cond.methodLink RX0 45 yX0_holds ∈ gU := gmU (gt4 _ (List.mem_of_getElem? (i := 137) rfl)) rfl
set_option maxRecDepth 20000 in
theorem wm_RX0_49 : Cond.methodLink RX0 49 yX7_fail ∈ gU := gmU (gt4 _ (List.mem_of_getElem? (i := 141) rfl)) rfl
set_option maxRecDepth 20000 in
theorem wm_RX0_53 : Cond.methodLink RX0 53 yX7_advance ∈ gU := gmU (gt4 _ (List.mem_of_getElem? (i := 142) rfl)) rfl
set_option maxRecDepth 20000 in
theorem wf_RX0_9 : Cond.fieldLink RX0 9 "CommaState$Book" "told" "[I" ∈ gU := gmU (gt1 _ (List.mem_of_getElem? (i := 191) rfl)) rfl
set_option maxRecDepth 20000 in
theorem wm_RX0_56 : Cond.methodLink RX0 56 yX7_number ∈ gU := gmU (gt4 _ (List.mem_of_getElem? (i := 143) rfl)) rfl
set_option maxRecDepth 20000 in
theorem wm_RX0_59 : Cond.methodLink RX0 59 yX7_sign ∈ gU := gmU (gt4 _ (List.mem_of_getElem? (i := 144) rfl)) rfl
set_option maxRecDepth 20000 in
theorem wf_RX0_62 : Cond.fieldLink RX0 62 "CommaState$Land" "towns" "I" ∈ gU := gmU (gt1 _ (List.mem_of_getElem? (i := 84) rfl)) rfl
set_option maxRecDepth 20000 in
theorem wm_RX0_67 : Cond.methodLink RX0 67 yX0_sideThen ∈ gU := gmU (gt5 _ (List.mem_of_getElem? (i := 81) rfl)) rfl
set_option maxRecDepth 20000 in
theorem wm_RX0_71 : Cond.methodLink RX0 71 yX8_shifted ∈ gU := gmU (gt5 _ (List.mem_of_getElem? (i := 85) rfl)) rfl
set_option maxRecDepth 20000 in
theorem wf_RX0_76 : Cond.fieldLink RX0 76 "CommaState$World" "voters" "[I" ∈ gU := gmU (gt1 _ (List.mem_of_getElem? (i := 121) rfl)) rfl
set_option maxRecDepth 20000 in
theorem wm_RX0_79 : Cond.methodLink RX0 79 yX8_sideBy ∈ gU := gmU (gt5 _ (List.mem_of_getElem? (i := 86) rfl)) rfl
set_option maxRecDepth 20000 in
theorem wf_RX0_82 : Cond.fieldLink RX0 82 "CommaState$Book" "fitting" "I" ∈ gU := gmU (gt1 _ (List.mem_of_getElem? (i := 196) rfl)) rfl
set_option maxRecDepth 20000 in
theorem wf_RX0_85 : Cond.fieldLink RX0 85 "CommaState$Book" "least" "I" ∈ gU := gmU (gt1 _ (List.mem_of_getElem? (i := 198) rfl)) rfl
set_option maxRecDepth 20000 in
theorem wf_RX0_88 : Cond.fieldLink RX0 88 "CommaState$Book" "greatest" "I" ∈ gU := gmU (gt1 _ (List.mem_of_getElem? (i := 200) rfl)) rfl
set_option maxRecDepth 20000 in
theorem wf_RX0_15 : Cond.fieldLink RX0 15 "CommaState$Book" "left" "[I" ∈ gU := gmU (gt1 _ (List.mem_of_getElem? (i := 192) rfl)) rfl
set_option maxRecDepth 20000 in
theorem wm_RX0_91 : Cond.methodLink RX0 91 yX0_fits ∈ gU := gmU (gt5 _ (List.mem_of_getElem? (i := 77) rfl)) rfl
set_option maxRecDepth 20000 in
theorem wm_RX0_95 : Cond.methodLink RX0 95 Lib.Math.max.name ∈ gU := gmU (gt5 _ (List.mem_of_getElem? (i := 102) rfl)) rfl
set_option maxRecDepth 20000 in
theorem wstatic_Lib_Math_max_name : Cond.static Lib.Math.max.name ∈ gU := gmU (gt4 _ (List.mem_of_getElem? (i := 67) rfl)) rfl
set_option maxRecDepth 20000 in
theorem wi_java_lang_Math : Cond.initialized "java/lang/Math" ∈ gU := gmU (gt1 _ (List.mem_of_getElem? (i := 12) rfl)) rfl
set_option maxRecDepth 20000 in
theorem wc_Lib_Math_max_name : Cond.code Lib.Math.max.name Lib.Math.max.code 2 (some .int) ∈ gU := gmU (gt4 _ (List.mem_of_getElem? (i := 68) rfl)) rfl
set_option maxRecDepth 20000 in
theorem wm_RX0_100 : Cond.methodLink RX0 100 yX0_worst ∈ gU := gmU (gt5 _ (List.mem_of_getElem? (i := 98) rfl)) rfl
set_option maxRecDepth 20000 in
theorem wf_RX1_24 : Cond.fieldLink RX1 24 "CommaState$Deeds" "size" "I" ∈ gU := gmU (gt1 _ (List.mem_of_getElem? (i := 227) rfl)) rfl
set_option maxRecDepth 20000 in
theorem wm_RX1_28 : Cond.methodLink RX1 28 yX7_sound ∈ gU := gmU (gt4 _ (List.mem_of_getElem? (i := 21) rfl)) rfl
set_option maxRecDepth 20000 in
theorem wf_RX1_34 : Cond.fieldLink RX1 34 "CommaState$Tape" "kind" "I" ∈ gU := gmU (gt1 _ (List.mem_of_getElem? (i := 44) rfl)) rfl
set_option maxRecDepth 20000 in
theorem wm_RX1_37 : Cond.methodLink RX1 37 yX1_readStep ∈ gU := gmU (gt4 _ (List.mem_of_getElem? (i := 22) rfl)) rfl
set_option maxRecDepth 20000 in
theorem wm_RX1_43 : Cond.methodLink RX1 43 yX7_wordHere ∈ gU := gmU (gt4 _ (List.mem_of_getElem? (i := 27) rfl)) rfl
set_option maxRecDepth 20000 in
theorem wm_RX1_47 : Cond.methodLink RX1 47 yX7_fail ∈ gU := gmU (gt4 _ (List.mem_of_getElem? (i := 28) rfl)) rfl
set_option maxRecDepth 20000 in
theorem wm_RX1_51 : Cond.methodLink RX1 51 yX7_advance ∈ gU := gmU (gt4 _ (List.mem_of_getElem? (i := 29) rfl)) rfl
set_option maxRecDepth 20000 in
theorem wf_RX1_11 : Cond.fieldLink RX1 11 "CommaState$Deeds" "step" "[I" ∈ gU := gmU (gt1 _ (List.mem_of_getElem? (i := 223) rfl)) rfl
set_option maxRecDepth 20000 in
theorem wf_RX1_15 : Cond.fieldLink RX1 15 "CommaState$Deeds" "first" "[I" ∈ gU := gmU (gt1 _ (List.mem_of_getElem? (i := 224) rfl)) rfl
set_option maxRecDepth 20000 in
theorem wm_RX1_54 : Cond.methodLink RX1 54 yX7_number ∈ gU := gmU (gt4 _ (List.mem_of_getElem? (i := 30) rfl)) rfl
set_option maxRecDepth 20000 in
theorem wf_RX1_18 : Cond.fieldLink RX1 18 "CommaState$Deeds" "second" "[I" ∈ gU := gmU (gt1 _ (List.mem_of_getElem? (i := 225) rfl)) rfl
set_option maxRecDepth 20000 in
theorem wf_RX1_21 : Cond.fieldLink RX1 21 "CommaState$Deeds" "third" "[I" ∈ gU := gmU (gt1 _ (List.mem_of_getElem? (i := 226) rfl)) rfl
set_option maxRecDepth 20000 in
theorem wm_RX1_58 : Cond.methodLink RX1 58 yX1_readHeld ∈ gU := gmU (gt4 _ (List.mem_of_getElem? (i := 31) rfl)) rfl
set_option maxRecDepth 20000 in
theorem wm_RX1_61 : Cond.methodLink RX1 61 yX7_sign ∈ gU := gmU (gt4 _ (List.mem_of_getElem? (i := 35) rfl)) rfl
set_option maxRecDepth 20000 in
theorem wm_RX1_64 : Cond.methodLink RX1 64 yX7_atSign ∈ gU := gmU (gt4 _ (List.mem_of_getElem? (i := 36) rfl)) rfl
set_option maxRecDepth 20000 in
theorem wf_RX1_68 : Cond.fieldLink RX1 68 "CommaState$Deeds" "begun" "I" ∈ gU := gmU (gt1 _ (List.mem_of_getElem? (i := 229) rfl)) rfl
set_option maxRecDepth 20000 in
theorem wf_RX1_71 : Cond.fieldLink RX1 71 "CommaState$Deeds" "done" "I" ∈ gU := gmU (gt1 _ (List.mem_of_getElem? (i := 230) rfl)) rfl
set_option maxRecDepth 20000 in
theorem wf_RX1_74 : Cond.fieldLink RX1 74 "CommaState$Deeds" "refused" "I" ∈ gU := gmU (gt1 _ (List.mem_of_getElem? (i := 232) rfl)) rfl
set_option maxRecDepth 20000 in
theorem wm_RX1_77 : Cond.methodLink RX1 77 yX1_enactStep ∈ gU := gmU (gt4 _ (List.mem_of_getElem? (i := 49) rfl)) rfl
set_option maxRecDepth 20000 in
theorem wm_RX1_81 : Cond.methodLink RX1 81 yX1_enact ∈ gU := gmU (gt4 _ (List.mem_of_getElem? (i := 117) rfl)) rfl
set_option maxRecDepth 20000 in
theorem wm_RX1_85 : Cond.methodLink RX1 85 Lib.Math.max.name ∈ gU := gmU (gt4 _ (List.mem_of_getElem? (i := 118) rfl)) rfl
set_option maxRecDepth 20000 in
theorem wm_RX1_90 : Cond.methodLink RX1 90 yX8_move ∈ gU := gmU (gt4 _ (List.mem_of_getElem? (i := 53) rfl)) rfl
set_option maxRecDepth 20000 in
theorem wf_RX1_96 : Cond.fieldLink RX1 96 "CommaState$World" "schools" "I" ∈ gU := gmU (gt1 _ (List.mem_of_getElem? (i := 130) rfl)) rfl
set_option maxRecDepth 20000 in
theorem wm_RX1_99 : Cond.methodLink RX1 99 yX8_flip ∈ gU := gmU (gt4 _ (List.mem_of_getElem? (i := 69) rfl)) rfl
set_option maxRecDepth 20000 in
theorem wm_RX1_102 : Cond.methodLink RX1 102 yX8_holdVote ∈ gU := gmU (gt4 _ (List.mem_of_getElem? (i := 73) rfl)) rfl
set_option maxRecDepth 20000 in
theorem wm_RX1_106 : Cond.methodLink RX1 106 yX8_nextYear ∈ gU := gmU (gt4 _ (List.mem_of_getElem? (i := 113) rfl)) rfl
set_option maxRecDepth 20000 in
theorem wf_RX2_12 : Cond.fieldLink RX2 12 "CommaState$Fate" "later" "LCommaState$World;" ∈ gU := gmU (gt2 _ (List.mem_of_getElem? (i := 69) rfl)) rfl
set_option maxRecDepth 20000 in
theorem wm_RX2_18 : Cond.methodLink RX2 18 yX8_copy ∈ gU := gmU (gt5 _ (List.mem_of_getElem? (i := 6) rfl)) rfl
set_option maxRecDepth 20000 in
theorem wm_RX2_22 : Cond.methodLink RX2 22 yX8_holdVote ∈ gU := gmU (gt5 _ (List.mem_of_getElem? (i := 7) rfl)) rfl
set_option maxRecDepth 20000 in
theorem wf_RX2_26 : Cond.fieldLink RX2 26 "CommaState$World" "party" "I" ∈ gU := gmU (gt1 _ (List.mem_of_getElem? (i := 137) rfl)) rfl
set_option maxRecDepth 20000 in
theorem wf_RX2_30 : Cond.fieldLink RX2 30 "CommaState$Fate" "seedNow" "I" ∈ gU := gmU (gt2 _ (List.mem_of_getElem? (i := 71) rfl)) rfl
set_option maxRecDepth 20000 in
theorem wk_RX2_33 : Cond.constant RX2 33 1103515245 ∈ gU := gmU (gt6 _ (List.mem_of_getElem? (i := 25) rfl)) rfl
set_option maxRecDepth 20000 in
theorem wf_RX2_34 : Cond.fieldLink RX2 34 "CommaState$Fate" "votesHeld" "I" ∈ gU := gmU (gt2 _ (List.mem_of_getElem? (i := 72) rfl)) rfl
set_option maxRecDepth 20000 in
theorem wf_RX2_37 : Cond.fieldLink RX2 37 "CommaState$Fate" "changes" "I" ∈ gU := gmU (gt2 _ (List.mem_of_getElem? (i := 74) rfl)) rfl
set_option maxRecDepth 20000 in
theorem wf_RX2_40 : Cond.fieldLink RX2 40 "CommaState$Land" "towns" "I" ∈ gU := gmU (gt1 _ (List.mem_of_getElem? (i := 83) rfl)) rfl
set_option maxRecDepth 20000 in
theorem wm_RX2_45 : Cond.methodLink RX2 45 yX2_liveDay ∈ gU := gmU (gt6 _ (List.mem_of_getElem? (i := 17) rfl)) rfl
set_option maxRecDepth 20000 in
theorem wm_RX2_49 : Cond.methodLink RX2 49 yX2_draw ∈ gU := gmU (gt6 _ (List.mem_of_getElem? (i := 21) rfl)) rfl
set_option maxRecDepth 20000 in
theorem wf_RX2_53 : Cond.fieldLink RX2 53 "CommaState$World" "breathe" "[I" ∈ gU := gmU (gt1 _ (List.mem_of_getElem? (i := 125) rfl)) rfl
set_option maxRecDepth 20000 in
theorem wm_RX2_57 : Cond.methodLink RX2 57 yX8_shifted ∈ gU := gmU (gt6 _ (List.mem_of_getElem? (i := 26) rfl)) rfl
set_option maxRecDepth 20000 in
theorem wm_RX2_61 : Cond.methodLink RX2 61 yX8_flip ∈ gU := gmU (gt6 _ (List.mem_of_getElem? (i := 27) rfl)) rfl
set_option maxRecDepth 20000 in
theorem wf_RX3_24 : Cond.fieldLink RX3 24 "CommaState$Land" "towns" "I" ∈ gU := gmU (gt1 _ (List.mem_of_getElem? (i := 80) rfl)) rfl
set_option maxRecDepth 20000 in
theorem wf_RX3_28 : Cond.fieldLink RX3 28 "CommaState$Land" "roads" "I" ∈ gU := gmU (gt1 _ (List.mem_of_getElem? (i := 86) rfl)) rfl
set_option maxRecDepth 20000 in
theorem wm_RX3_31 : Cond.methodLink RX3 31 yX7_sound ∈ gU := gmU (gt3 _ (List.mem_of_getElem? (i := 108) rfl)) rfl
set_option maxRecDepth 20000 in
theorem wf_RX3_37 : Cond.fieldLink RX3 37 "CommaState$Tape" "kind" "I" ∈ gU := gmU (gt1 _ (List.mem_of_getElem? (i := 45) rfl)) rfl
set_option maxRecDepth 20000 in
theorem wm_RX3_40 : Cond.methodLink RX3 40 yX3_readClause ∈ gU := gmU (gt3 _ (List.mem_of_getElem? (i := 112) rfl)) rfl
set_option maxRecDepth 20000 in
theorem wm_RX3_46 : Cond.methodLink RX3 46 yX7_wordHere ∈ gU := gmU (gt3 _ (List.mem_of_getElem? (i := 117) rfl)) rfl
set_option maxRecDepth 20000 in
theorem wm_RX3_50 : Cond.methodLink RX3 50 yX7_fail ∈ gU := gmU (gt3 _ (List.mem_of_getElem? (i := 173) rfl)) rfl
set_option maxRecDepth 20000 in
theorem wm_RX3_54 : Cond.methodLink RX3 54 yX7_advance ∈ gU := gmU (gt3 _ (List.mem_of_getElem? (i := 174) rfl)) rfl
set_option maxRecDepth 20000 in
theorem wm_RX3_57 : Cond.methodLink RX3 57 yX3_readTown ∈ gU := gmU (gt3 _ (List.mem_of_getElem? (i := 175) rfl)) rfl
set_option maxRecDepth 20000 in
theorem wm_RX3_61 : Cond.methodLink RX3 61 yX3_readRoad ∈ gU := gmU (gt3 _ (List.mem_of_getElem? (i := 187) rfl)) rfl
set_option maxRecDepth 20000 in
theorem wm_RX3_65 : Cond.methodLink RX3 65 yX7_number ∈ gU := gmU (gt3 _ (List.mem_of_getElem? (i := 179) rfl)) rfl
set_option maxRecDepth 20000 in
theorem wf_RX3_69 : Cond.fieldLink RX3 69 "CommaState$World" "comma" "I" ∈ gU := gmU (gt1 _ (List.mem_of_getElem? (i := 132) rfl)) rfl
set_option maxRecDepth 20000 in
theorem wm_RX3_74 : Cond.methodLink RX3 74 yX7_sign ∈ gU := gmU (gt3 _ (List.mem_of_getElem? (i := 192) rfl)) rfl
set_option maxRecDepth 20000 in
theorem wf_RX3_77 : Cond.fieldLink RX3 77 "CommaState$World" "voters" "[I" ∈ gU := gmU (gt1 _ (List.mem_of_getElem? (i := 120) rfl)) rfl
set_option maxRecDepth 20000 in
theorem wf_RX3_80 : Cond.fieldLink RX3 80 "CommaState$World" "breathe" "[I" ∈ gU := gmU (gt1 _ (List.mem_of_getElem? (i := 124) rfl)) rfl
set_option maxRecDepth 20000 in
theorem wf_RX3_9 : Cond.fieldLink RX3 9 "CommaState$Land" "chairs" "[I" ∈ gU := gmU (gt1 _ (List.mem_of_getElem? (i := 88) rfl)) rfl
set_option maxRecDepth 20000 in
theorem wf_RX3_15 : Cond.fieldLink RX3 15 "CommaState$Land" "near" "[I" ∈ gU := gmU (gt1 _ (List.mem_of_getElem? (i := 92) rfl)) rfl
set_option maxRecDepth 20000 in
theorem wm_RX3_83 : Cond.methodLink RX3 83 yX7_numberHere ∈ gU := gmU (gt3 _ (List.mem_of_getElem? (i := 191) rfl)) rfl
set_option maxRecDepth 20000 in
theorem wf_RX3_18 : Cond.fieldLink RX3 18 "CommaState$Land" "from" "[I" ∈ gU := gmU (gt1 _ (List.mem_of_getElem? (i := 95) rfl)) rfl
set_option maxRecDepth 20000 in
theorem wf_RX3_21 : Cond.fieldLink RX3 21 "CommaState$Land" "to" "[I" ∈ gU := gmU (gt1 _ (List.mem_of_getElem? (i := 97) rfl)) rfl
set_option maxRecDepth 20000 in
theorem wm_RX3_86 : Cond.methodLink RX3 86 yX3_everyTown ∈ gU := gmU (gt2 _ (List.mem_of_getElem? (i := 189) rfl)) rfl
set_option maxRecDepth 20000 in
theorem wm_RX3_90 : Cond.methodLink RX3 90 yX3_seatsIn ∈ gU := gmU (gt4 _ (List.mem_of_getElem? (i := 164) rfl)) rfl
set_option maxRecDepth 20000 in
theorem wm_RX3_94 : Cond.methodLink RX3 94 yX3_reached ∈ gU := gmU (gt2 _ (List.mem_of_getElem? (i := 193) rfl)) rfl
set_option maxRecDepth 20000 in
theorem wm_RX3_98 : Cond.methodLink RX3 98 yX3_pieces ∈ gU := gmU (gt2 _ (List.mem_of_getElem? (i := 205) rfl)) rfl
set_option maxRecDepth 20000 in
theorem wm_RX3_101 : Cond.methodLink RX3 101 yJ6_bitCount_0f7a4 ∈ gU := gmU (gt5 _ (List.mem_of_getElem? (i := 65) rfl)) rfl
set_option maxRecDepth 20000 in
theorem wf_RX4_24 : Cond.fieldLink RX4 24 "CommaState$Law" "size" "I" ∈ gU := gmU (gt1 _ (List.mem_of_getElem? (i := 175) rfl)) rfl
set_option maxRecDepth 20000 in
theorem wm_RX4_28 : Cond.methodLink RX4 28 yX4_emit ∈ gU := gmU (gt1 _ (List.mem_of_getElem? (i := 168) rfl)) rfl
set_option maxRecDepth 20000 in
theorem wf_RX4_9 : Cond.fieldLink RX4 9 "CommaState$Law" "code" "[I" ∈ gU := gmU (gt1 _ (List.mem_of_getElem? (i := 172) rfl)) rfl
set_option maxRecDepth 20000 in
theorem wm_RX4_32 : Cond.methodLink RX4 32 yX4_readSum ∈ gU := gmU (gt3 _ (List.mem_of_getElem? (i := 229) rfl)) rfl
set_option maxRecDepth 20000 in
theorem wf_RX4_36 : Cond.fieldLink RX4 36 "CommaState$Tape" "kind" "I" ∈ gU := gmU (gt1 _ (List.mem_of_getElem? (i := 47) rfl)) rfl
set_option maxRecDepth 20000 in
theorem wm_RX4_41 : Cond.methodLink RX4 41 yX7_fail ∈ gU := gmU (gt4 _ (List.mem_of_getElem? (i := 4) rfl)) rfl
set_option maxRecDepth 20000 in
theorem wm_RX4_44 : Cond.methodLink RX4 44 yX4_readProduct ∈ gU := gmU (gt3 _ (List.mem_of_getElem? (i := 233) rfl)) rfl
set_option maxRecDepth 20000 in
theorem wm_RX4_47 : Cond.methodLink RX4 47 yX7_sound ∈ gU := gmU (gt4 _ (List.mem_of_getElem? (i := 5) rfl)) rfl
set_option maxRecDepth 20000 in
theorem wm_RX4_51 : Cond.methodLink RX4 51 yX7_atSign ∈ gU := gmU (gt4 _ (List.mem_of_getElem? (i := 3) rfl)) rfl
set_option maxRecDepth 20000 in
theorem wf_RX4_55 : Cond.fieldLink RX4 55 "CommaState$Tape" "value" "I" ∈ gU := gmU (gt1 _ (List.mem_of_getElem? (i := 49) rfl)) rfl
set_option maxRecDepth 20000 in
theorem wm_RX4_58 : Cond.methodLink RX4 58 yX7_advance ∈ gU := gmU (gt4 _ (List.mem_of_getElem? (i := 7) rfl)) rfl
set_option maxRecDepth 20000 in
theorem wm_RX4_61 : Cond.methodLink RX4 61 yX4_readUnit ∈ gU := gmU (gt3 _ (List.mem_of_getElem? (i := 237) rfl)) rfl
set_option maxRecDepth 20000 in
theorem wm_RX4_66 : Cond.methodLink RX4 66 yX7_wordHere ∈ gU := gmU (gt4 _ (List.mem_of_getElem? (i := 2) rfl)) rfl
set_option maxRecDepth 20000 in
theorem wm_RX4_70 : Cond.methodLink RX4 70 yX7_number ∈ gU := gmU (gt4 _ (List.mem_of_getElem? (i := 6) rfl)) rfl
set_option maxRecDepth 20000 in
theorem wm_RX4_74 : Cond.methodLink RX4 74 yX7_sign ∈ gU := gmU (gt4 _ (List.mem_of_getElem? (i := 8) rfl)) rfl
set_option maxRecDepth 20000 in
theorem wf_RX4_15 : Cond.fieldLink RX4 15 "CommaState$Law" "facts" "[I" ∈ gU := gmU (gt1 _ (List.mem_of_getElem? (i := 173) rfl)) rfl
set_option maxRecDepth 20000 in
theorem wf_RX4_18 : Cond.fieldLink RX4 18 "CommaState$Law" "stack" "[I" ∈ gU := gmU (gt1 _ (List.mem_of_getElem? (i := 174) rfl)) rfl
set_option maxRecDepth 20000 in
theorem wm_RX4_77 : Cond.methodLink RX4 77 yX4_join ∈ gU := gmU (gt4 _ (List.mem_of_getElem? (i := 103) rfl)) rfl
set_option maxRecDepth 20000 in
theorem wm_RX4_81 : Cond.methodLink RX4 81 Lib.Math.min.name ∈ gU := gmU (gt4 _ (List.mem_of_getElem? (i := 106) rfl)) rfl
set_option maxRecDepth 20000 in
theorem wstatic_Lib_Math_min_name : Cond.static Lib.Math.min.name ∈ gU := gmU (gt3 _ (List.mem_of_getElem? (i := 10) rfl)) rfl
set_option maxRecDepth 20000 in
theorem wc_Lib_Math_min_name : Cond.code Lib.Math.min.name Lib.Math.min.code 2 (some .int) ∈ gU := gmU (gt3 _ (List.mem_of_getElem? (i := 11) rfl)) rfl
set_option maxRecDepth 20000 in
theorem wm_RX4_86 : Cond.methodLink RX4 86 Lib.Math.max.name ∈ gU := gmU (gt4 _ (List.mem_of_getElem? (i := 107) rfl)) rfl
set_option maxRecDepth 20000 in
theorem wf_RX5_20 : Cond.fieldLink RX5 20 "CommaState$Past" "works" "I" ∈ gU := gmU (gt2 _ (List.mem_of_getElem? (i := 19) rfl)) rfl
set_option maxRecDepth 20000 in
theorem wf_RX5_24 : Cond.fieldLink RX5 24 "CommaState$Past" "images" "I" ∈ gU := gmU (gt2 _ (List.mem_of_getElem? (i := 21) rfl)) rfl
set_option maxRecDepth 20000 in
theorem wf_RX5_13 : Cond.fieldLink RX5 13 "CommaState$Past" "workRows" "[I" ∈ gU := gmU (gt2 _ (List.mem_of_getElem? (i := 17) rfl)) rfl
set_option maxRecDepth 20000 in
theorem wm_RX5_27 : Cond.methodLink RX5 27 yX8_save ∈ gU := gmU (gt2 _ (List.mem_of_getElem? (i := 214) rfl)) rfl
set_option maxRecDepth 20000 in
theorem wm_RX5_31 : Cond.methodLink RX5 31 yX8_load ∈ gU := gmU (gt2 _ (List.mem_of_getElem? (i := 154) rfl)) rfl
set_option maxRecDepth 20000 in
theorem wf_RX5_17 : Cond.fieldLink RX5 17 "CommaState$Past" "imageRows" "[I" ∈ gU := gmU (gt2 _ (List.mem_of_getElem? (i := 18) rfl)) rfl
set_option maxRecDepth 20000 in
theorem wm_RX5_34 : Cond.methodLink RX5 34 arraycopyName ∈ gU := gmU (gt2 _ (List.mem_of_getElem? (i := 218) rfl)) rfl
set_option maxRecDepth 20000 in
theorem wnative_arraycopyName : Cond.native arraycopyName ∈ gU := gmU (gt2 _ (List.mem_of_getElem? (i := 220) rfl)) rfl
set_option maxRecDepth 20000 in
theorem wstatic_arraycopyName : Cond.static arraycopyName ∈ gU := gmU (gt2 _ (List.mem_of_getElem? (i := 219) rfl)) rfl
set_option maxRecDepth 20000 in
theorem wi_java_lang_System : Cond.initialized "java/lang/System" ∈ gU := gmU (gt1 _ (List.mem_of_getElem? (i := 23) rfl)) rfl
set_option maxRecDepth 20000 in
theorem wf_RX6_21 : Cond.fieldLink RX6 21 "CommaState$Land" "towns" "I" ∈ gU := gmU (gt1 _ (List.mem_of_getElem? (i := 81) rfl)) rfl
set_option maxRecDepth 20000 in
theorem wm_RX6_27 : Cond.methodLink RX6 27 yX8_apart ∈ gU := gmU (gt5 _ (List.mem_of_getElem? (i := 185) rfl)) rfl
set_option maxRecDepth 20000 in
theorem wf_RX6_33 : Cond.fieldLink RX6 33 "CommaState$World" "voters" "[I" ∈ gU := gmU (gt1 _ (List.mem_of_getElem? (i := 119) rfl)) rfl
set_option maxRecDepth 20000 in
theorem wf_RX6_36 : Cond.fieldLink RX6 36 "CommaState$Land" "chairs" "[I" ∈ gU := gmU (gt1 _ (List.mem_of_getElem? (i := 89) rfl)) rfl
set_option maxRecDepth 20000 in
theorem wm_RX6_39 : Cond.methodLink RX6 39 yX8_sideBits ∈ gU := gmU (gt5 _ (List.mem_of_getElem? (i := 19) rfl)) rfl
set_option maxRecDepth 20000 in
theorem wm_RX6_43 : Cond.methodLink RX6 43 yX3_everyTown ∈ gU := gmU (gt5 _ (List.mem_of_getElem? (i := 20) rfl)) rfl
set_option maxRecDepth 20000 in
theorem wm_RX6_47 : Cond.methodLink RX6 47 yX3_seatsIn ∈ gU := gmU (gt5 _ (List.mem_of_getElem? (i := 21) rfl)) rfl
set_option maxRecDepth 20000 in
theorem wm_RX6_50 : Cond.methodLink RX6 50 yX6_turnCost ∈ gU := gmU (gt5 _ (List.mem_of_getElem? (i := 22) rfl)) rfl
set_option maxRecDepth 20000 in
theorem wf_RX6_54 : Cond.fieldLink RX6 54 "CommaState$World" "breathe" "[I" ∈ gU := gmU (gt1 _ (List.mem_of_getElem? (i := 126) rfl)) rfl
set_option maxRecDepth 20000 in
theorem wm_RX6_57 : Cond.methodLink RX6 57 yX3_allSeats ∈ gU := gmU (gt5 _ (List.mem_of_getElem? (i := 38) rfl)) rfl
set_option maxRecDepth 20000 in
theorem wf_RX6_9 : Cond.fieldLink RX6 9 "CommaState$Polls" "gifts" "[I" ∈ gU := gmU (gt2 _ (List.mem_of_getElem? (i := 38) rfl)) rfl
set_option maxRecDepth 20000 in
theorem wf_RX6_15 : Cond.fieldLink RX6 15 "CommaState$Polls" "paidFirst" "[I" ∈ gU := gmU (gt2 _ (List.mem_of_getElem? (i := 40) rfl)) rfl
set_option maxRecDepth 20000 in
theorem wm_RX6_60 : Cond.methodLink RX6 60 yX6_paid ∈ gU := gmU (gt5 _ (List.mem_of_getElem? (i := 144) rfl)) rfl
set_option maxRecDepth 20000 in
theorem wf_RX6_18 : Cond.fieldLink RX6 18 "CommaState$Polls" "paidOther" "[I" ∈ gU := gmU (gt2 _ (List.mem_of_getElem? (i := 41) rfl)) rfl
set_option maxRecDepth 20000 in
theorem wf_RX6_64 : Cond.fieldLink RX6 64 "CommaState$Polls" "rests" "I" ∈ gU := gmU (gt2 _ (List.mem_of_getElem? (i := 42) rfl)) rfl
set_option maxRecDepth 20000 in
theorem wf_RX6_67 : Cond.fieldLink RX6 67 "CommaState$Polls" "firstRest" "I" ∈ gU := gmU (gt2 _ (List.mem_of_getElem? (i := 44) rfl)) rfl
set_option maxRecDepth 20000 in
theorem wf_RX6_70 : Cond.fieldLink RX6 70 "CommaState$Polls" "restSeats" "I" ∈ gU := gmU (gt2 _ (List.mem_of_getElem? (i := 46) rfl)) rfl
set_option maxRecDepth 20000 in
theorem wm_RX6_73 : Cond.methodLink RX6 73 yX6_isRest ∈ gU := gmU (gt5 _ (List.mem_of_getElem? (i := 150) rfl)) rfl
set_option maxRecDepth 20000 in
theorem wm_RX6_77 : Cond.methodLink RX6 77 yX6_noteRest ∈ gU := gmU (gt5 _ (List.mem_of_getElem? (i := 154) rfl)) rfl
set_option maxRecDepth 20000 in
theorem wm_RX6_81 : Cond.methodLink RX6 81 yX8_shifted ∈ gU := gmU (gt5 _ (List.mem_of_getElem? (i := 148) rfl)) rfl
set_option maxRecDepth 20000 in
theorem wm_RX6_85 : Cond.methodLink RX6 85 yX8_sideBy ∈ gU := gmU (gt5 _ (List.mem_of_getElem? (i := 149) rfl)) rfl
set_option maxRecDepth 20000 in
theorem wm_RX6_88 : Cond.methodLink RX6 88 yX6_breadGiven ∈ gU := gmU (gt5 _ (List.mem_of_getElem? (i := 169) rfl)) rfl
set_option maxRecDepth 20000 in
theorem wm_RX6_91 : Cond.methodLink RX6 91 Lib.Math.min.name ∈ gU := gmU (gt5 _ (List.mem_of_getElem? (i := 173) rfl)) rfl
set_option maxRecDepth 20000 in
theorem wm_RX6_96 : Cond.methodLink RX6 96 yX6_choose ∈ gU := gmU (gt5 _ (List.mem_of_getElem? (i := 124) rfl)) rfl
set_option maxRecDepth 20000 in
theorem wm_RX6_100 : Cond.methodLink RX6 100 yX6_power ∈ gU := gmU (gt5 _ (List.mem_of_getElem? (i := 125) rfl)) rfl
set_option maxRecDepth 20000 in
theorem wf_RX7_19 : Cond.fieldLink RX7 19 "CommaState$Tape" "length" "I" ∈ gU := gmU (gt1 _ (List.mem_of_getElem? (i := 40) rfl)) rfl
set_option maxRecDepth 20000 in
theorem wf_RX7_9 : Cond.fieldLink RX7 9 "CommaState$Tape" "bytes" "[I" ∈ gU := gmU (gt1 _ (List.mem_of_getElem? (i := 38) rfl)) rfl
set_option maxRecDepth 20000 in
theorem wf_RX7_22 : Cond.fieldLink RX7 22 "CommaState$Tape" "faultKind" "I" ∈ gU := gmU (gt1 _ (List.mem_of_getElem? (i := 51) rfl)) rfl
set_option maxRecDepth 20000 in
theorem wf_RX7_15 : Cond.fieldLink RX7 15 "CommaState$Tape" "faultPlace" "I" ∈ gU := gmU (gt1 _ (List.mem_of_getElem? (i := 52) rfl)) rfl
set_option maxRecDepth 20000 in
theorem wm_RX7_25 : Cond.methodLink RX7 25 Lib.Math.min.name ∈ gU := gmU (gt3 _ (List.mem_of_getElem? (i := 90) rfl)) rfl
set_option maxRecDepth 20000 in
theorem wf_RX7_31 : Cond.fieldLink RX7 31 "CommaState$Tape" "end" "I" ∈ gU := gmU (gt1 _ (List.mem_of_getElem? (i := 41) rfl)) rfl
set_option maxRecDepth 20000 in
theorem wm_RX7_34 : Cond.methodLink RX7 34 yX7_drop ∈ gU := gmU (gt3 _ (List.mem_of_getElem? (i := 91) rfl)) rfl
set_option maxRecDepth 20000 in
theorem wf_RX7_37 : Cond.fieldLink RX7 37 "CommaState$Tape" "pos" "I" ∈ gU := gmU (gt1 _ (List.mem_of_getElem? (i := 42) rfl)) rfl
set_option maxRecDepth 20000 in
theorem wm_RX7_40 : Cond.methodLink RX7 40 yX7_advance ∈ gU := gmU (gt3 _ (List.mem_of_getElem? (i := 95) rfl)) rfl
set_option maxRecDepth 20000 in
theorem wf_RX7_43 : Cond.fieldLink RX7 43 "CommaState$Tape" "start" "I" ∈ gU := gmU (gt1 _ (List.mem_of_getElem? (i := 43) rfl)) rfl
set_option maxRecDepth 20000 in
theorem wf_RX7_46 : Cond.fieldLink RX7 46 "CommaState$Tape" "value" "I" ∈ gU := gmU (gt1 _ (List.mem_of_getElem? (i := 50) rfl)) rfl
set_option maxRecDepth 20000 in
theorem wf_RX7_49 : Cond.fieldLink RX7 49 "CommaState$Tape" "kind" "I" ∈ gU := gmU (gt1 _ (List.mem_of_getElem? (i := 48) rfl)) rfl
set_option maxRecDepth 20000 in
theorem wk_RX7_52 : Cond.constant RX7 52 100000 ∈ gU := gmU (gt3 _ (List.mem_of_getElem? (i := 99) rfl)) rfl
set_option maxRecDepth 20000 in
theorem wm_RX7_53 : Cond.methodLink RX7 53 yX7_atSign ∈ gU := gmU (gt3 _ (List.mem_of_getElem? (i := 196) rfl)) rfl
set_option maxRecDepth 20000 in
theorem wm_RX7_57 : Cond.methodLink RX7 57 yX7_fail ∈ gU := gmU (gt3 _ (List.mem_of_getElem? (i := 169) rfl)) rfl
set_option maxRecDepth 20000 in
theorem wm_RX7_61 : Cond.methodLink RX7 61 yX7_numberHere ∈ gU := gmU (gt3 _ (List.mem_of_getElem? (i := 183) rfl)) rfl
set_option maxRecDepth 20000 in
theorem wm_RX7_64 : Cond.methodLink RX7 64 yJ0_length_8abf5 ∈ gU := gmU (gt3 _ (List.mem_of_getElem? (i := 121) rfl)) rfl
set_option maxRecDepth 20000 in
theorem wm_RX7_69 : Cond.methodLink RX7 69 yJ0_charAt_5068e ∈ gU := gmU (gt3 _ (List.mem_of_getElem? (i := 131) rfl)) rfl
set_option maxRecDepth 20000 in
theorem wf_RX8_28 : Cond.fieldLink RX8 28 "CommaState$World" "schools" "I" ∈ gU := gmU (gt1 _ (List.mem_of_getElem? (i := 129) rfl)) rfl
set_option maxRecDepth 20000 in
theorem wf_RX8_21 : Cond.fieldLink RX8 21 "CommaState$World" "comma" "I" ∈ gU := gmU (gt1 _ (List.mem_of_getElem? (i := 131) rfl)) rfl
set_option maxRecDepth 20000 in
theorem wf_RX8_31 : Cond.fieldLink RX8 31 "CommaState$World" "votes" "I" ∈ gU := gmU (gt1 _ (List.mem_of_getElem? (i := 134) rfl)) rfl
set_option maxRecDepth 20000 in
theorem wf_RX8_25 : Cond.fieldLink RX8 25 "CommaState$World" "party" "I" ∈ gU := gmU (gt1 _ (List.mem_of_getElem? (i := 136) rfl)) rfl
set_option maxRecDepth 20000 in
theorem wf_RX8_34 : Cond.fieldLink RX8 34 "CommaState$World" "year" "I" ∈ gU := gmU (gt1 _ (List.mem_of_getElem? (i := 139) rfl)) rfl
set_option maxRecDepth 20000 in
theorem wf_RX8_9 : Cond.fieldLink RX8 9 "CommaState$World" "voters" "[I" ∈ gU := gmU (gt1 _ (List.mem_of_getElem? (i := 118) rfl)) rfl
set_option maxRecDepth 20000 in
theorem wf_RX8_15 : Cond.fieldLink RX8 15 "CommaState$World" "breathe" "[I" ∈ gU := gmU (gt1 _ (List.mem_of_getElem? (i := 123) rfl)) rfl
set_option maxRecDepth 20000 in
theorem wm_RX8_37 : Cond.methodLink RX8 37 yX8_sideBy ∈ gU := gmU (gt2 _ (List.mem_of_getElem? (i := 174) rfl)) rfl
set_option maxRecDepth 20000 in
theorem wm_RX8_41 : Cond.methodLink RX8 41 Lib.Math.min.name ∈ gU := gmU (gt4 _ (List.mem_of_getElem? (i := 65) rfl)) rfl
set_option maxRecDepth 20000 in
theorem wm_RX8_46 : Cond.methodLink RX8 46 Lib.Math.max.name ∈ gU := gmU (gt4 _ (List.mem_of_getElem? (i := 66) rfl)) rfl
set_option maxRecDepth 20000 in
theorem wm_RX8_49 : Cond.methodLink RX8 49 Lib.Math.abs.name ∈ gU := gmU (gt5 _ (List.mem_of_getElem? (i := 189) rfl)) rfl
set_option maxRecDepth 20000 in
theorem wstatic_Lib_Math_abs_name : Cond.static Lib.Math.abs.name ∈ gU := gmU (gt5 _ (List.mem_of_getElem? (i := 190) rfl)) rfl
set_option maxRecDepth 20000 in
theorem wc_Lib_Math_abs_name : Cond.code Lib.Math.abs.name Lib.Math.abs.code 1 (some .int) ∈ gU := gmU (gt5 _ (List.mem_of_getElem? (i := 191) rfl)) rfl
set_option maxRecDepth 20000 in
theorem wf_RX8_53 : Cond.fieldLink RX8 53 "CommaState$Land" "towns" "I" ∈ gU := gmU (gt1 _ (List.mem_of_getElem? (i := 85) rfl)) rfl
set_option maxRecDepth 20000 in
theorem wm_RX8_58 : Cond.methodLink RX8 58 yX8_side ∈ gU := gmU (gt2 _ (List.mem_of_getElem? (i := 170) rfl)) rfl
set_option maxRecDepth 20000 in
theorem wm_RX8_61 : Cond.methodLink RX8 61 yX8_sideBits ∈ gU := gmU (gt2 _ (List.mem_of_getElem? (i := 166) rfl)) rfl
set_option maxRecDepth 20000 in
theorem wm_RX8_65 : Cond.methodLink RX8 65 yX3_seatsIn ∈ gU := gmU (gt2 _ (List.mem_of_getElem? (i := 177) rfl)) rfl
set_option maxRecDepth 20000 in
theorem wm_RX8_68 : Cond.methodLink RX8 68 yX8_swayBy ∈ gU := gmU (gt4 _ (List.mem_of_getElem? (i := 77) rfl)) rfl
set_option maxRecDepth 20000 in
theorem wf_RX8_72 : Cond.fieldLink RX8 72 "CommaState$Land" "near" "[I" ∈ gU := gmU (gt1 _ (List.mem_of_getElem? (i := 94) rfl)) rfl
set_option maxRecDepth 20000 in
theorem wm_RX8_75 : Cond.methodLink RX8 75 yJ6_bitCount_0f7a4 ∈ gU := gmU (gt4 _ (List.mem_of_getElem? (i := 81) rfl)) rfl
set_option maxRecDepth 20000 in
theorem wf_RX8_80 : Cond.fieldLink RX8 80 "CommaState$Land" "chairs" "[I" ∈ gU := gmU (gt1 _ (List.mem_of_getElem? (i := 91) rfl)) rfl
set_option maxRecDepth 20000 in
theorem wm_RX8_83 : Cond.methodLink RX8 83 yX8_parted ∈ gU := gmU (gt4 _ (List.mem_of_getElem? (i := 87) rfl)) rfl
set_option maxRecDepth 20000 in
theorem wm_RX8_86 : Cond.methodLink RX8 86 yX4_tellTown ∈ gU := gmU (gt4 _ (List.mem_of_getElem? (i := 91) rfl)) rfl
set_option maxRecDepth 20000 in
theorem wm_RX8_92 : Cond.methodLink RX8 92 yX4_tellAll ∈ gU := gmU (gt4 _ (List.mem_of_getElem? (i := 95) rfl)) rfl
set_option maxRecDepth 20000 in
theorem wm_RX8_96 : Cond.methodLink RX8 96 yX4_outcome ∈ gU := gmU (gt4 _ (List.mem_of_getElem? (i := 99) rfl)) rfl
set_option maxRecDepth 20000 in
theorem wf_RX8_18 : Cond.fieldLink RX8 18 "CommaState$World" "sways" "[I" ∈ gU := gmU (gt1 _ (List.mem_of_getElem? (i := 128) rfl)) rfl
set_option maxRecDepth 20000 in
theorem wm_RX8_100 : Cond.methodLink RX8 100 yX8_shifted ∈ gU := gmU (gt4 _ (List.mem_of_getElem? (i := 108) rfl)) rfl
set_option maxRecDepth 20000 in
theorem wm_RX8_103 : Cond.methodLink RX8 103 yX8_seatsOf ∈ gU := gmU (gt4 _ (List.mem_of_getElem? (i := 112) rfl)) rfl
set_option maxRecDepth 20000 in
theorem wm_RX8_106 : Cond.methodLink RX8 106 yX8_mostMovable ∈ gU := gmU (gt4 _ (List.mem_of_getElem? (i := 61) rfl)) rfl
set_option maxRecDepth 20000 in
theorem wm_RX8_109 : Cond.methodLink RX8 109 yX8_movable ∈ gU := gmU (gt4 _ (List.mem_of_getElem? (i := 57) rfl)) rfl
set_option maxRecDepth 20000 in
theorem wf_RX9_10 : Cond.fieldLink RX9 10 "CommaState" "tape" "LCommaState$Tape;" ∈ gU := gmU (gt2 _ (List.mem_of_getElem? (i := 85) rfl)) rfl
set_option maxRecDepth 20000 in
theorem wf_RX9_84 : Cond.fieldLink RX9 84 "CommaState$Tape" "length" "I" ∈ gU := gmU (gt1 _ (List.mem_of_getElem? (i := 39) rfl)) rfl
set_option maxRecDepth 20000 in
theorem wm_RX9_88 : Cond.methodLink RX9 88 yX7_put ∈ gU := gmU (gt2 _ (List.mem_of_getElem? (i := 138) rfl)) rfl
set_option maxRecDepth 20000 in
theorem wm_RX9_92 : Cond.methodLink RX9 92 yX9_needText ∈ gU := gmU (gt3 _ (List.mem_of_getElem? (i := 5) rfl)) rfl
set_option maxRecDepth 20000 in
theorem wm_RX9_96 : Cond.methodLink RX9 96 yX7_open ∈ gU := gmU (gt3 _ (List.mem_of_getElem? (i := 86) rfl)) rfl
set_option maxRecDepth 20000 in
theorem wf_RX9_33 : Cond.fieldLink RX9 33 "CommaState" "spareWorld" "LCommaState$World;" ∈ gU := gmU (gt2 _ (List.mem_of_getElem? (i := 89) rfl)) rfl
set_option maxRecDepth 20000 in
theorem wm_RX9_99 : Cond.methodLink RX9 99 yX8_clear ∈ gU := gmU (gt3 _ (List.mem_of_getElem? (i := 100) rfl)) rfl
set_option maxRecDepth 20000 in
theorem wf_RX9_23 : Cond.fieldLink RX9 23 "CommaState" "spareLand" "LCommaState$Land;" ∈ gU := gmU (gt2 _ (List.mem_of_getElem? (i := 87) rfl)) rfl
set_option maxRecDepth 20000 in
theorem wm_RX9_102 : Cond.methodLink RX9 102 yX3_read ∈ gU := gmU (gt3 _ (List.mem_of_getElem? (i := 104) rfl)) rfl
set_option maxRecDepth 20000 in
theorem wm_RX9_106 : Cond.methodLink RX9 106 yX7_sound ∈ gU := gmU (gt3 _ (List.mem_of_getElem? (i := 200) rfl)) rfl
set_option maxRecDepth 20000 in
theorem wm_RX9_110 : Cond.methodLink RX9 110 yX7_answer ∈ gU := gmU (gt3 _ (List.mem_of_getElem? (i := 201) rfl)) rfl
set_option maxRecDepth 20000 in
theorem wf_RX9_19 : Cond.fieldLink RX9 19 "CommaState" "land" "LCommaState$Land;" ∈ gU := gmU (gt2 _ (List.mem_of_getElem? (i := 86) rfl)) rfl
set_option maxRecDepth 20000 in
theorem wf_RX9_29 : Cond.fieldLink RX9 29 "CommaState" "world" "LCommaState$World;" ∈ gU := gmU (gt2 _ (List.mem_of_getElem? (i := 88) rfl)) rfl
set_option maxRecDepth 20000 in
theorem wm_RX9_114 : Cond.methodLink RX9 114 yX8_copy ∈ gU := gmU (gt3 _ (List.mem_of_getElem? (i := 205) rfl)) rfl
set_option maxRecDepth 20000 in
theorem wf_RX9_39 : Cond.fieldLink RX9 39 "CommaState" "ruling" "LCommaState$Law;" ∈ gU := gmU (gt2 _ (List.mem_of_getElem? (i := 90) rfl)) rfl
set_option maxRecDepth 20000 in
theorem wm_RX9_118 : Cond.methodLink RX9 118 yX4_setPlain ∈ gU := gmU (gt3 _ (List.mem_of_getElem? (i := 209) rfl)) rfl
set_option maxRecDepth 20000 in
theorem wf_RX9_49 : Cond.fieldLink RX9 49 "CommaState" "lines" "LCommaState$Book;" ∈ gU := gmU (gt2 _ (List.mem_of_getElem? (i := 92) rfl)) rfl
set_option maxRecDepth 20000 in
theorem wm_RX9_121 : Cond.methodLink RX9 121 yX0_clear ∈ gU := gmU (gt3 _ (List.mem_of_getElem? (i := 210) rfl)) rfl
set_option maxRecDepth 20000 in
theorem wf_RX9_66 : Cond.fieldLink RX9 66 "CommaState" "past" "LCommaState$Past;" ∈ gU := gmU (gt2 _ (List.mem_of_getElem? (i := 95) rfl)) rfl
set_option maxRecDepth 20000 in
theorem wm_RX9_122 : Cond.methodLink RX9 122 yX5_clear ∈ gU := gmU (gt3 _ (List.mem_of_getElem? (i := 214) rfl)) rfl
set_option maxRecDepth 20000 in
theorem wf_RX9_123 : Cond.fieldLink RX9 123 "CommaState" "stepsRefused" "I" ∈ gU := gmU (gt2 _ (List.mem_of_getElem? (i := 98) rfl)) rfl
set_option maxRecDepth 20000 in
theorem wf_RX9_126 : Cond.fieldLink RX9 126 "CommaState$Land" "towns" "I" ∈ gU := gmU (gt1 _ (List.mem_of_getElem? (i := 82) rfl)) rfl
set_option maxRecDepth 20000 in
theorem wf_RX9_43 : Cond.fieldLink RX9 43 "CommaState" "spareLaw" "LCommaState$Law;" ∈ gU := gmU (gt2 _ (List.mem_of_getElem? (i := 91) rfl)) rfl
set_option maxRecDepth 20000 in
theorem wm_RX9_129 : Cond.methodLink RX9 129 yX4_read ∈ gU := gmU (gt3 _ (List.mem_of_getElem? (i := 225) rfl)) rfl
set_option maxRecDepth 20000 in
theorem wf_RX9_132 : Cond.fieldLink RX9 132 "CommaState$Past" "works" "I" ∈ gU := gmU (gt2 _ (List.mem_of_getElem? (i := 20) rfl)) rfl
set_option maxRecDepth 20000 in
theorem wm_RX9_135 : Cond.methodLink RX9 135 yX7_drop ∈ gU := gmU (gt4 _ (List.mem_of_getElem? (i := 16) rfl)) rfl
set_option maxRecDepth 20000 in
theorem wf_RX9_59 : Cond.fieldLink RX9 59 "CommaState" "deeds" "LCommaState$Deeds;" ∈ gU := gmU (gt2 _ (List.mem_of_getElem? (i := 94) rfl)) rfl
set_option maxRecDepth 20000 in
theorem wm_RX9_138 : Cond.methodLink RX9 138 yX1_read ∈ gU := gmU (gt4 _ (List.mem_of_getElem? (i := 17) rfl)) rfl
set_option maxRecDepth 20000 in
theorem wm_RX9_141 : Cond.methodLink RX9 141 yX5_keepWork ∈ gU := gmU (gt4 _ (List.mem_of_getElem? (i := 37) rfl)) rfl
set_option maxRecDepth 20000 in
theorem wm_RX9_144 : Cond.methodLink RX9 144 yX1_forget ∈ gU := gmU (gt4 _ (List.mem_of_getElem? (i := 41) rfl)) rfl
set_option maxRecDepth 20000 in
theorem wf_RX9_147 : Cond.fieldLink RX9 147 "CommaState$Deeds" "size" "I" ∈ gU := gmU (gt1 _ (List.mem_of_getElem? (i := 228) rfl)) rfl
set_option maxRecDepth 20000 in
theorem wm_RX9_150 : Cond.methodLink RX9 150 yX1_enact ∈ gU := gmU (gt4 _ (List.mem_of_getElem? (i := 45) rfl)) rfl
set_option maxRecDepth 20000 in
theorem wf_RX9_154 : Cond.fieldLink RX9 154 "CommaState$Deeds" "refused" "I" ∈ gU := gmU (gt1 _ (List.mem_of_getElem? (i := 233) rfl)) rfl
set_option maxRecDepth 20000 in
theorem wf_RX9_157 : Cond.fieldLink RX9 157 "CommaState$Deeds" "done" "I" ∈ gU := gmU (gt1 _ (List.mem_of_getElem? (i := 231) rfl)) rfl
set_option maxRecDepth 20000 in
theorem wf_RX9_53 : Cond.fieldLink RX9 53 "CommaState" "spareBook" "LCommaState$Book;" ∈ gU := gmU (gt2 _ (List.mem_of_getElem? (i := 93) rfl)) rfl
set_option maxRecDepth 20000 in
theorem wm_RX9_160 : Cond.methodLink RX9 160 yX0_read ∈ gU := gmU (gt4 _ (List.mem_of_getElem? (i := 126) rfl)) rfl
set_option maxRecDepth 20000 in
theorem wf_RX9_161 : Cond.fieldLink RX9 161 "CommaState$Book" "size" "I" ∈ gU := gmU (gt1 _ (List.mem_of_getElem? (i := 194) rfl)) rfl
set_option maxRecDepth 20000 in
theorem wf_RX9_162 : Cond.fieldLink RX9 162 "CommaState$Tape" "faultPlace" "I" ∈ gU := gmU (gt1 _ (List.mem_of_getElem? (i := 53) rfl)) rfl
set_option maxRecDepth 20000 in
theorem wm_RX9_165 : Cond.methodLink RX9 165 yX5_takeWork ∈ gU := gmU (gt2 _ (List.mem_of_getElem? (i := 150) rfl)) rfl
set_option maxRecDepth 20000 in
theorem wm_RX9_168 : Cond.methodLink RX9 168 yX9_within ∈ gU := gmU (gt3 _ (List.mem_of_getElem? (i := 12) rfl)) rfl
set_option maxRecDepth 20000 in
theorem wm_RX9_172 : Cond.methodLink RX9 172 yX9_need ∈ gU := gmU (gt3 _ (List.mem_of_getElem? (i := 15) rfl)) rfl
set_option maxRecDepth 20000 in
theorem wf_RX9_176 : Cond.fieldLink RX9 176 "CommaState$Land" "roads" "I" ∈ gU := gmU (gt1 _ (List.mem_of_getElem? (i := 87) rfl)) rfl
set_option maxRecDepth 20000 in
theorem wf_RX9_179 : Cond.fieldLink RX9 179 "CommaState$World" "year" "I" ∈ gU := gmU (gt1 _ (List.mem_of_getElem? (i := 140) rfl)) rfl
set_option maxRecDepth 20000 in
theorem wf_RX9_182 : Cond.fieldLink RX9 182 "CommaState$World" "votes" "I" ∈ gU := gmU (gt1 _ (List.mem_of_getElem? (i := 135) rfl)) rfl
set_option maxRecDepth 20000 in
theorem wf_RX9_185 : Cond.fieldLink RX9 185 "CommaState$World" "party" "I" ∈ gU := gmU (gt1 _ (List.mem_of_getElem? (i := 138) rfl)) rfl
set_option maxRecDepth 20000 in
theorem wf_RX9_188 : Cond.fieldLink RX9 188 "CommaState$World" "comma" "I" ∈ gU := gmU (gt1 _ (List.mem_of_getElem? (i := 133) rfl)) rfl
set_option maxRecDepth 20000 in
theorem wm_RX9_191 : Cond.methodLink RX9 191 yX8_allVoters ∈ gU := gmU (gt4 _ (List.mem_of_getElem? (i := 152) rfl)) rfl
set_option maxRecDepth 20000 in
theorem wm_RX9_195 : Cond.methodLink RX9 195 yX8_allBreathe ∈ gU := gmU (gt4 _ (List.mem_of_getElem? (i := 156) rfl)) rfl
set_option maxRecDepth 20000 in
theorem wm_RX9_198 : Cond.methodLink RX9 198 yX3_allSeats ∈ gU := gmU (gt4 _ (List.mem_of_getElem? (i := 160) rfl)) rfl
set_option maxRecDepth 20000 in
theorem wm_RX9_201 : Cond.methodLink RX9 201 yX9_needTown ∈ gU := gmU (gt4 _ (List.mem_of_getElem? (i := 173) rfl)) rfl
set_option maxRecDepth 20000 in
theorem wf_RX9_204 : Cond.fieldLink RX9 204 "CommaState$World" "voters" "[I" ∈ gU := gmU (gt1 _ (List.mem_of_getElem? (i := 122) rfl)) rfl
set_option maxRecDepth 20000 in
theorem wf_RX9_208 : Cond.fieldLink RX9 208 "CommaState$World" "breathe" "[I" ∈ gU := gmU (gt1 _ (List.mem_of_getElem? (i := 127) rfl)) rfl
set_option maxRecDepth 20000 in
theorem wf_RX9_211 : Cond.fieldLink RX9 211 "CommaState$Land" "chairs" "[I" ∈ gU := gmU (gt1 _ (List.mem_of_getElem? (i := 90) rfl)) rfl
set_option maxRecDepth 20000 in
theorem wm_RX9_214 : Cond.methodLink RX9 214 yX8_side ∈ gU := gmU (gt4 _ (List.mem_of_getElem? (i := 197) rfl)) rfl
set_option maxRecDepth 20000 in
theorem wf_RX9_218 : Cond.fieldLink RX9 218 "CommaState$Land" "near" "[I" ∈ gU := gmU (gt1 _ (List.mem_of_getElem? (i := 93) rfl)) rfl
set_option maxRecDepth 20000 in
theorem wm_RX9_221 : Cond.methodLink RX9 221 yX8_parted ∈ gU := gmU (gt4 _ (List.mem_of_getElem? (i := 198) rfl)) rfl
set_option maxRecDepth 20000 in
theorem wm_RX9_224 : Cond.methodLink RX9 224 yX8_sway ∈ gU := gmU (gt4 _ (List.mem_of_getElem? (i := 199) rfl)) rfl
set_option maxRecDepth 20000 in
theorem wm_RX9_228 : Cond.methodLink RX9 228 yX9_needSuch ∈ gU := gmU (gt4 _ (List.mem_of_getElem? (i := 177) rfl)) rfl
set_option maxRecDepth 20000 in
theorem wf_RX9_231 : Cond.fieldLink RX9 231 "CommaState$Land" "from" "[I" ∈ gU := gmU (gt1 _ (List.mem_of_getElem? (i := 96) rfl)) rfl
set_option maxRecDepth 20000 in
theorem wf_RX9_234 : Cond.fieldLink RX9 234 "CommaState$Land" "to" "[I" ∈ gU := gmU (gt1 _ (List.mem_of_getElem? (i := 98) rfl)) rfl
set_option maxRecDepth 20000 in
theorem wm_RX9_237 : Cond.methodLink RX9 237 yX8_seatsOf ∈ gU := gmU (gt2 _ (List.mem_of_getElem? (i := 162) rfl)) rfl
set_option maxRecDepth 20000 in
theorem wm_RX9_241 : Cond.methodLink RX9 241 yX4_tellTown ∈ gU := gmU (gt4 _ (List.mem_of_getElem? (i := 224) rfl)) rfl
set_option maxRecDepth 20000 in
theorem wm_RX9_245 : Cond.methodLink RX9 245 yX4_tellAll ∈ gU := gmU (gt4 _ (List.mem_of_getElem? (i := 225) rfl)) rfl
set_option maxRecDepth 20000 in
theorem wm_RX9_249 : Cond.methodLink RX9 249 yX4_outcome ∈ gU := gmU (gt4 _ (List.mem_of_getElem? (i := 226) rfl)) rfl
set_option maxRecDepth 20000 in
theorem wm_RX9_252 : Cond.methodLink RX9 252 yX8_movable ∈ gU := gmU (gt4 _ (List.mem_of_getElem? (i := 234) rfl)) rfl
set_option maxRecDepth 20000 in
theorem wm_RX9_255 : Cond.methodLink RX9 255 yX8_mostMovable ∈ gU := gmU (gt5 _ (List.mem_of_getElem? (i := 222) rfl)) rfl
set_option maxRecDepth 20000 in
theorem wm_RX9_259 : Cond.methodLink RX9 259 yX8_sideBits ∈ gU := gmU (gt5 _ (List.mem_of_getElem? (i := 230) rfl)) rfl
set_option maxRecDepth 20000 in
theorem wf_RX9_73 : Cond.fieldLink RX9 73 "CommaState" "polls" "LCommaState$Polls;" ∈ gU := gmU (gt2 _ (List.mem_of_getElem? (i := 96) rfl)) rfl
set_option maxRecDepth 20000 in
theorem wm_RX9_262 : Cond.methodLink RX9 262 yX6_nearestToHalf ∈ gU := gmU (gt5 _ (List.mem_of_getElem? (i := 181) rfl)) rfl
set_option maxRecDepth 20000 in
theorem wm_RX9_266 : Cond.methodLink RX9 266 yX8_apart ∈ gU := gmU (gt5 _ (List.mem_of_getElem? (i := 192) rfl)) rfl
set_option maxRecDepth 20000 in
theorem wm_RX9_269 : Cond.methodLink RX9 269 yX6_farthestFromHalf ∈ gU := gmU (gt5 _ (List.mem_of_getElem? (i := 200) rfl)) rfl
set_option maxRecDepth 20000 in
theorem wm_RX9_272 : Cond.methodLink RX9 272 yX6_fewestBySeat ∈ gU := gmU (gt5 _ (List.mem_of_getElem? (i := 238) rfl)) rfl
set_option maxRecDepth 20000 in
theorem wm_RX9_275 : Cond.methodLink RX9 275 yX6_votersBySeat ∈ gU := gmU (gt6 _ (List.mem_of_getElem? (i := 2) rfl)) rfl
set_option maxRecDepth 20000 in
theorem wf_RX9_80 : Cond.fieldLink RX9 80 "CommaState" "fate" "LCommaState$Fate;" ∈ gU := gmU (gt2 _ (List.mem_of_getElem? (i := 97) rfl)) rfl
set_option maxRecDepth 20000 in
theorem wm_RX9_279 : Cond.methodLink RX9 279 yX2_holdVotes ∈ gU := gmU (gt5 _ (List.mem_of_getElem? (i := 2) rfl)) rfl
set_option maxRecDepth 20000 in
theorem wf_RX9_283 : Cond.fieldLink RX9 283 "CommaState$Fate" "later" "LCommaState$World;" ∈ gU := gmU (gt2 _ (List.mem_of_getElem? (i := 70) rfl)) rfl
set_option maxRecDepth 20000 in
theorem wm_RX9_286 : Cond.methodLink RX9 286 yX2_votesTill ∈ gU := gmU (gt5 _ (List.mem_of_getElem? (i := 211) rfl)) rfl
set_option maxRecDepth 20000 in
theorem wm_RX9_290 : Cond.methodLink RX9 290 yX2_serveTerm ∈ gU := gmU (gt6 _ (List.mem_of_getElem? (i := 13) rfl)) rfl
set_option maxRecDepth 20000 in
theorem wf_RX9_294 : Cond.fieldLink RX9 294 "CommaState$Fate" "votesHeld" "I" ∈ gU := gmU (gt2 _ (List.mem_of_getElem? (i := 73) rfl)) rfl
set_option maxRecDepth 20000 in
theorem wf_RX9_297 : Cond.fieldLink RX9 297 "CommaState$Fate" "changes" "I" ∈ gU := gmU (gt2 _ (List.mem_of_getElem? (i := 75) rfl)) rfl
set_option maxRecDepth 20000 in
theorem wm_RX9_300 : Cond.methodLink RX9 300 Lib.Math.min.name ∈ gU := gmU (gt3 _ (List.mem_of_getElem? (i := 9) rfl)) rfl
set_option maxRecDepth 20000 in
theorem wm_RX9_305 : Cond.methodLink RX9 305 Lib.Math.max.name ∈ gU := gmU (gt6 _ (List.mem_of_getElem? (i := 35) rfl)) rfl
set_option maxRecDepth 20000 in
theorem wm_RX9_308 : Cond.methodLink RX9 308 yX6_cheapestTurn ∈ gU := gmU (gt5 _ (List.mem_of_getElem? (i := 15) rfl)) rfl
set_option maxRecDepth 20000 in
theorem wm_RX9_311 : Cond.methodLink RX9 311 yX6_turnCost ∈ gU := gmU (gt5 _ (List.mem_of_getElem? (i := 26) rfl)) rfl
set_option maxRecDepth 20000 in
theorem wm_RX9_315 : Cond.methodLink RX9 315 yX6_swingSets ∈ gU := gmU (gt5 _ (List.mem_of_getElem? (i := 34) rfl)) rfl
set_option maxRecDepth 20000 in
theorem wm_RX9_318 : Cond.methodLink RX9 318 yX6_giveSeats ∈ gU := gmU (gt5 _ (List.mem_of_getElem? (i := 46) rfl)) rfl
set_option maxRecDepth 20000 in
theorem wf_RX9_322 : Cond.fieldLink RX9 322 "CommaState$Polls" "gifts" "[I" ∈ gU := gmU (gt2 _ (List.mem_of_getElem? (i := 39) rfl)) rfl
set_option maxRecDepth 20000 in
theorem wm_RX9_325 : Cond.methodLink RX9 325 yX3_knows ∈ gU := gmU (gt5 _ (List.mem_of_getElem? (i := 57) rfl)) rfl
set_option maxRecDepth 20000 in
theorem wm_RX9_329 : Cond.methodLink RX9 329 yX3_fewestTogether ∈ gU := gmU (gt5 _ (List.mem_of_getElem? (i := 61) rfl)) rfl
set_option maxRecDepth 20000 in
theorem wm_RX9_332 : Cond.methodLink RX9 332 yX3_pieces ∈ gU := gmU (gt2 _ (List.mem_of_getElem? (i := 185) rfl)) rfl
set_option maxRecDepth 20000 in
theorem wm_RX9_335 : Cond.methodLink RX9 335 yX3_cuts ∈ gU := gmU (gt2 _ (List.mem_of_getElem? (i := 201) rfl)) rfl
set_option maxRecDepth 20000 in
theorem wm_RX9_338 : Cond.methodLink RX9 338 yX0_measure ∈ gU := gmU (gt5 _ (List.mem_of_getElem? (i := 73) rfl)) rfl
set_option maxRecDepth 20000 in
theorem wf_RX9_342 : Cond.fieldLink RX9 342 "CommaState$Book" "fitting" "I" ∈ gU := gmU (gt1 _ (List.mem_of_getElem? (i := 197) rfl)) rfl
set_option maxRecDepth 20000 in
theorem wf_RX9_345 : Cond.fieldLink RX9 345 "CommaState$Book" "least" "I" ∈ gU := gmU (gt1 _ (List.mem_of_getElem? (i := 199) rfl)) rfl
set_option maxRecDepth 20000 in
theorem wf_RX9_348 : Cond.fieldLink RX9 348 "CommaState$Book" "greatest" "I" ∈ gU := gmU (gt1 _ (List.mem_of_getElem? (i := 201) rfl)) rfl
set_option maxRecDepth 20000 in
theorem wm_RX9_351 : Cond.methodLink RX9 351 yX0_nextTown ∈ gU := gmU (gt5 _ (List.mem_of_getElem? (i := 94) rfl)) rfl
set_option maxRecDepth 20000 in
theorem wm_RX9_354 : Cond.methodLink RX9 354 yX0_worst ∈ gU := gmU (gt5 _ (List.mem_of_getElem? (i := 103) rfl)) rfl
set_option maxRecDepth 20000 in
theorem wm_RX9_357 : Cond.methodLink RX9 357 yX6_choose ∈ gU := gmU (gt5 _ (List.mem_of_getElem? (i := 111) rfl)) rfl
set_option maxRecDepth 20000 in
theorem wm_RX9_361 : Cond.methodLink RX9 361 yX6_waysForMost ∈ gU := gmU (gt5 _ (List.mem_of_getElem? (i := 121) rfl)) rfl
set_option maxRecDepth 20000 in
theorem wk_RX9_364 : Cond.constantLong RX9 364 16 ∈ gU := gmU (gt5 _ (List.mem_of_getElem? (i := 128) rfl)) rfl
set_option maxRecDepth 20000 in
theorem wm_RX9_366 : Cond.methodLink RX9 366 yX6_power ∈ gU := gmU (gt5 _ (List.mem_of_getElem? (i := 129) rfl)) rfl
set_option maxRecDepth 20000 in
theorem wm_RX9_370 : Cond.methodLink RX9 370 yX6_commonDivisor ∈ gU := gmU (gt5 _ (List.mem_of_getElem? (i := 130) rfl)) rfl
set_option maxRecDepth 20000 in
theorem wm_RX9_374 : Cond.methodLink RX9 374 yX6_hearBoth ∈ gU := gmU (gt5 _ (List.mem_of_getElem? (i := 140) rfl)) rfl
set_option maxRecDepth 20000 in
theorem wf_RX9_377 : Cond.fieldLink RX9 377 "CommaState$Polls" "rests" "I" ∈ gU := gmU (gt2 _ (List.mem_of_getElem? (i := 43) rfl)) rfl
set_option maxRecDepth 20000 in
theorem wf_RX9_380 : Cond.fieldLink RX9 380 "CommaState$Polls" "firstRest" "I" ∈ gU := gmU (gt2 _ (List.mem_of_getElem? (i := 45) rfl)) rfl
set_option maxRecDepth 20000 in
theorem wf_RX9_383 : Cond.fieldLink RX9 383 "CommaState$Polls" "restSeats" "I" ∈ gU := gmU (gt2 _ (List.mem_of_getElem? (i := 47) rfl)) rfl
set_option maxRecDepth 20000 in
theorem wm_RX9_386 : Cond.methodLink RX9 386 yX6_breadBound ∈ gU := gmU (gt5 _ (List.mem_of_getElem? (i := 165) rfl)) rfl
set_option maxRecDepth 20000 in
theorem wf_RX9_389 : Cond.fieldLink RX9 389 "CommaState$Past" "images" "I" ∈ gU := gmU (gt2 _ (List.mem_of_getElem? (i := 22) rfl)) rfl
set_option maxRecDepth 20000 in
theorem wm_RX9_392 : Cond.methodLink RX9 392 yX5_keepImage ∈ gU := gmU (gt2 _ (List.mem_of_getElem? (i := 210) rfl)) rfl
set_option maxRecDepth 20000 in
theorem wm_RX9_395 : Cond.methodLink RX9 395 yX5_takeImage ∈ gU := gmU (gt2 _ (List.mem_of_getElem? (i := 225) rfl)) rfl
set_option maxRecDepth 20000 in
theorem wf_RX9_398 : Cond.fieldLink RX9 398 "CommaState" "noSuchCalls" "I" ∈ gU := gmU (gt2 _ (List.mem_of_getElem? (i := 99) rfl)) rfl
set_option maxRecDepth 20000 in
theorem wf_RX9_401 : Cond.fieldLink RX9 401 "CommaState" "badCalls" "I" ∈ gU := gmU (gt2 _ (List.mem_of_getElem? (i := 100) rfl)) rfl
set_option maxRecDepth 20000 in
theorem wf_RX10_3 : Cond.fieldLink RX10 3 "CommaStateModel" "thrown" "I" ∈ gU := gmU (gt6 _ (List.mem_of_getElem? (i := 58) rfl)) rfl
set_option maxRecDepth 20000 in
theorem wf_RX10_7 : Cond.fieldLink RX10 7 "CommaStateModel" "refused" "[I" ∈ gU := gmU (gt6 _ (List.mem_of_getElem? (i := 59) rfl)) rfl
set_option maxRecDepth 20000 in
theorem wf_RX10_107 : Cond.fieldLink RX10 107 "CommaStateModel" "taped" "I" ∈ gU := gmU (gt6 _ (List.mem_of_getElem? (i := 60) rfl)) rfl
set_option maxRecDepth 20000 in
theorem wf_RX10_20 : Cond.fieldLink RX10 20 "CommaStateModel" "tape" "[I" ∈ gU := gmU (gt6 _ (List.mem_of_getElem? (i := 67) rfl)) rfl
set_option maxRecDepth 20000 in
theorem wf_RX10_110 : Cond.fieldLink RX10 110 "CommaStateModel" "bad" "I" ∈ gU := gmU (gt6 _ (List.mem_of_getElem? (i := 63) rfl)) rfl
set_option maxRecDepth 20000 in
theorem wf_RX10_113 : Cond.fieldLink RX10 113 "CommaStateModel" "badKind" "I" ∈ gU := gmU (gt6 _ (List.mem_of_getElem? (i := 64) rfl)) rfl
set_option maxRecDepth 20000 in
theorem wf_RX10_116 : Cond.fieldLink RX10 116 "CommaStateModel" "at" "I" ∈ gU := gmU (gt6 _ (List.mem_of_getElem? (i := 62) rfl)) rfl
set_option maxRecDepth 20000 in
theorem wf_RX10_119 : Cond.fieldLink RX10 119 "CommaStateModel" "size" "I" ∈ gU := gmU (gt6 _ (List.mem_of_getElem? (i := 61) rfl)) rfl
set_option maxRecDepth 20000 in
theorem wm_RX10_122 : Cond.methodLink RX10 122 yX10_here ∈ gU := gmU (gt7 _ (List.mem_of_getElem? (i := 9) rfl)) rfl
set_option maxRecDepth 20000 in
theorem wm_RX10_126 : Cond.methodLink RX10 126 yX10_isSmall ∈ gU := gmU (gt7 _ (List.mem_of_getElem? (i := 17) rfl)) rfl
set_option maxRecDepth 20000 in
theorem wm_RX10_130 : Cond.methodLink RX10 130 yJ0_length_8abf5 ∈ gU := gmU (gt7 _ (List.mem_of_getElem? (i := 27) rfl)) rfl
set_option maxRecDepth 20000 in
theorem wm_RX10_135 : Cond.methodLink RX10 135 yJ0_charAt_5068e ∈ gU := gmU (gt7 _ (List.mem_of_getElem? (i := 28) rfl)) rfl
set_option maxRecDepth 20000 in
theorem wm_RX10_139 : Cond.methodLink RX10 139 yX10_fine ∈ gU := gmU (gt7 _ (List.mem_of_getElem? (i := 1) rfl)) rfl
set_option maxRecDepth 20000 in
theorem wm_RX10_143 : Cond.methodLink RX10 143 yX10_isDigit ∈ gU := gmU (gt7 _ (List.mem_of_getElem? (i := 47) rfl)) rfl
set_option maxRecDepth 20000 in
theorem wm_RX10_146 : Cond.methodLink RX10 146 yX10_wrong ∈ gU := gmU (gt7 _ (List.mem_of_getElem? (i := 31) rfl)) rfl
set_option maxRecDepth 20000 in
theorem wf_RX10_17 : Cond.fieldLink RX10 17 "CommaStateModel" "faultAt" "I" ∈ gU := gmU (gt6 _ (List.mem_of_getElem? (i := 66) rfl)) rfl
set_option maxRecDepth 20000 in
theorem wf_RX10_150 : Cond.fieldLink RX10 150 "CommaStateModel" "opens" "I" ∈ gU := gmU (gt6 _ (List.mem_of_getElem? (i := 65) rfl)) rfl
set_option maxRecDepth 20000 in
theorem wf_RX10_153 : Cond.fieldLink RX10 153 "CommaStateModel" "newTowns" "I" ∈ gU := gmU (gt6 _ (List.mem_of_getElem? (i := 74) rfl)) rfl
set_option maxRecDepth 20000 in
theorem wf_RX10_156 : Cond.fieldLink RX10 156 "CommaStateModel" "newRoads" "I" ∈ gU := gmU (gt6 _ (List.mem_of_getElem? (i := 75) rfl)) rfl
set_option maxRecDepth 20000 in
theorem wf_RX10_159 : Cond.fieldLink RX10 159 "CommaStateModel" "newComma" "I" ∈ gU := gmU (gt6 _ (List.mem_of_getElem? (i := 76) rfl)) rfl
set_option maxRecDepth 20000 in
theorem wf_RX10_162 : Cond.fieldLink RX10 162 "CommaStateModel" "towns" "I" ∈ gU := gmU (gt6 _ (List.mem_of_getElem? (i := 77) rfl)) rfl
set_option maxRecDepth 20000 in
theorem wf_RX10_165 : Cond.fieldLink RX10 165 "CommaStateModel" "roads" "I" ∈ gU := gmU (gt6 _ (List.mem_of_getElem? (i := 78) rfl)) rfl
set_option maxRecDepth 20000 in
theorem wf_RX10_29 : Cond.fieldLink RX10 29 "CommaStateModel" "newSeats" "[I" ∈ gU := gmU (gt6 _ (List.mem_of_getElem? (i := 70) rfl)) rfl
set_option maxRecDepth 20000 in
theorem wf_RX10_35 : Cond.fieldLink RX10 35 "CommaStateModel" "chairs" "[I" ∈ gU := gmU (gt6 _ (List.mem_of_getElem? (i := 72) rfl)) rfl
set_option maxRecDepth 20000 in
theorem wm_RX10_168 : Cond.methodLink RX10 168 yX10_copies ∈ gU := gmU (gt6 _ (List.mem_of_getElem? (i := 54) rfl)) rfl
set_option maxRecDepth 20000 in
theorem wf_RX10_32 : Cond.fieldLink RX10 32 "CommaStateModel" "newRoad" "[I" ∈ gU := gmU (gt6 _ (List.mem_of_getElem? (i := 71) rfl)) rfl
set_option maxRecDepth 20000 in
theorem wf_RX10_38 : Cond.fieldLink RX10 38 "CommaStateModel" "road" "[I" ∈ gU := gmU (gt6 _ (List.mem_of_getElem? (i := 73) rfl)) rfl
set_option maxRecDepth 20000 in
theorem wf_RX10_172 : Cond.fieldLink RX10 172 "CommaStateModel" "codes" "I" ∈ gU := gmU (gt6 _ (List.mem_of_getElem? (i := 85) rfl)) rfl
set_option maxRecDepth 20000 in
theorem wf_RX10_175 : Cond.fieldLink RX10 175 "CommaStateModel" "books" "I" ∈ gU := gmU (gt6 _ (List.mem_of_getElem? (i := 101) rfl)) rfl
set_option maxRecDepth 20000 in
theorem wf_RX10_178 : Cond.fieldLink RX10 178 "CommaStateModel" "works" "I" ∈ gU := gmU (gt6 _ (List.mem_of_getElem? (i := 90) rfl)) rfl
set_option maxRecDepth 20000 in
theorem wf_RX10_181 : Cond.fieldLink RX10 181 "CommaStateModel" "images" "I" ∈ gU := gmU (gt6 _ (List.mem_of_getElem? (i := 111) rfl)) rfl
set_option maxRecDepth 20000 in
theorem wf_RX10_184 : Cond.fieldLink RX10 184 "CommaStateModel" "refusedSteps" "I" ∈ gU := gmU (gt6 _ (List.mem_of_getElem? (i := 91) rfl)) rfl
set_option maxRecDepth 20000 in
theorem wf_RX10_80 : Cond.fieldLink RX10 80 "CommaStateModel" "book" "[I" ∈ gU := gmU (gt6 _ (List.mem_of_getElem? (i := 100) rfl)) rfl
set_option maxRecDepth 20000 in
theorem wf_RX10_65 : Cond.fieldLink RX10 65 "CommaStateModel" "now" "[I" ∈ gU := gmU (gt6 _ (List.mem_of_getElem? (i := 95) rfl)) rfl
set_option maxRecDepth 20000 in
theorem wf_RX10_23 : Cond.fieldLink RX10 23 "CommaStateModel" "newVoters" "[I" ∈ gU := gmU (gt6 _ (List.mem_of_getElem? (i := 68) rfl)) rfl
set_option maxRecDepth 20000 in
theorem wf_RX10_26 : Cond.fieldLink RX10 26 "CommaStateModel" "newBreathe" "[I" ∈ gU := gmU (gt6 _ (List.mem_of_getElem? (i := 69) rfl)) rfl
set_option maxRecDepth 20000 in
theorem wm_RX10_187 : Cond.methodLink RX10 187 yX10_readNumber ∈ gU := gmU (gt7 _ (List.mem_of_getElem? (i := 43) rfl)) rfl
set_option maxRecDepth 20000 in
theorem wm_RX10_191 : Cond.methodLink RX10 191 yX10_readTown ∈ gU := gmU (gt7 _ (List.mem_of_getElem? (i := 54) rfl)) rfl
set_option maxRecDepth 20000 in
theorem wm_RX10_196 : Cond.methodLink RX10 196 yX10_of ∈ gU := gmU (gt7 _ (List.mem_of_getElem? (i := 24) rfl)) rfl
set_option maxRecDepth 20000 in
theorem wm_RX10_203 : Cond.methodLink RX10 203 yX10_readRoad ∈ gU := gmU (gt7 _ (List.mem_of_getElem? (i := 50) rfl)) rfl
set_option maxRecDepth 20000 in
theorem wm_RX10_206 : Cond.methodLink RX10 206 yX10_may ∈ gU := gmU (gt6 _ (List.mem_of_getElem? (i := 233) rfl)) rfl
set_option maxRecDepth 20000 in
theorem wm_RX10_210 : Cond.methodLink RX10 210 yX10_begins ∈ gU := gmU (gt6 _ (List.mem_of_getElem? (i := 237) rfl)) rfl
set_option maxRecDepth 20000 in
theorem wm_RX10_101 : Cond.methodLink RX10 101 yX10_clears ∈ gU := gmU (gt6 _ (List.mem_of_getElem? (i := 46) rfl)) rfl
set_option maxRecDepth 20000 in
theorem wm_RX10_214 : Cond.methodLink RX10 214 yX10_isMore ∈ gU := gmU (gt7 _ (List.mem_of_getElem? (i := 5) rfl)) rfl
set_option maxRecDepth 20000 in
theorem wm_RX10_217 : Cond.methodLink RX10 217 yX10_word ∈ gU := gmU (gt7 _ (List.mem_of_getElem? (i := 13) rfl)) rfl
set_option maxRecDepth 20000 in
theorem wm_RX10_220 : Cond.methodLink RX10 220 yX10_isRow ∈ gU := gmU (gt7 _ (List.mem_of_getElem? (i := 20) rfl)) rfl
set_option maxRecDepth 20000 in
theorem wm_RX10_223 : Cond.methodLink RX10 223 yX10_pass ∈ gU := gmU (gt7 _ (List.mem_of_getElem? (i := 35) rfl)) rfl
set_option maxRecDepth 20000 in
theorem wm_RX10_226 : Cond.methodLink RX10 226 yX10_readRow ∈ gU := gmU (gt7 _ (List.mem_of_getElem? (i := 39) rfl)) rfl
set_option maxRecDepth 20000 in
theorem wm_RX10_229 : Cond.methodLink RX10 229 yX10_sign ∈ gU := gmU (gt7 _ (List.mem_of_getElem? (i := 58) rfl)) rfl
set_option maxRecDepth 20000 in
theorem wm_RX10_232 : Cond.methodLink RX10 232 yX10_result ∈ gU := gmU (gt7 _ (List.mem_of_getElem? (i := 62) rfl)) rfl
set_option maxRecDepth 20000 in
theorem wm_RX10_104 : Cond.methodLink RX10 104 yX10_sets ∈ gU := gmU (gt6 _ (List.mem_of_getElem? (i := 50) rfl)) rfl
set_option maxRecDepth 20000 in
theorem wf_RX10_41 : Cond.fieldLink RX10 41 "CommaStateModel" "newCode" "[I" ∈ gU := gmU (gt6 _ (List.mem_of_getElem? (i := 79) rfl)) rfl
set_option maxRecDepth 20000 in
theorem wf_RX10_236 : Cond.fieldLink RX10 236 "CommaStateModel" "newCodes" "I" ∈ gU := gmU (gt6 _ (List.mem_of_getElem? (i := 84) rfl)) rfl
set_option maxRecDepth 20000 in
theorem wf_RX10_44 : Cond.fieldLink RX10 44 "CommaStateModel" "newOf" "[I" ∈ gU := gmU (gt6 _ (List.mem_of_getElem? (i := 80) rfl)) rfl
set_option maxRecDepth 20000 in
theorem wm_RX10_239 : Cond.methodLink RX10 239 yX10_readProduct ∈ gU := gmU (gt7 _ (List.mem_of_getElem? (i := 74) rfl)) rfl
set_option maxRecDepth 20000 in
theorem wm_RX10_242 : Cond.methodLink RX10 242 yX10_emit ∈ gU := gmU (gt7 _ (List.mem_of_getElem? (i := 86) rfl)) rfl
set_option maxRecDepth 20000 in
theorem wm_RX10_245 : Cond.methodLink RX10 245 yX10_readUnit ∈ gU := gmU (gt7 _ (List.mem_of_getElem? (i := 78) rfl)) rfl
set_option maxRecDepth 20000 in
theorem wm_RX10_248 : Cond.methodLink RX10 248 yX10_opensOne ∈ gU := gmU (gt7 _ (List.mem_of_getElem? (i := 82) rfl)) rfl
set_option maxRecDepth 20000 in
theorem wm_RX10_251 : Cond.methodLink RX10 251 yX10_readSum ∈ gU := gmU (gt7 _ (List.mem_of_getElem? (i := 70) rfl)) rfl
set_option maxRecDepth 20000 in
theorem wm_RX10_256 : Cond.methodLink RX10 256 yX10_standsHere ∈ gU := gmU (gt7 _ (List.mem_of_getElem? (i := 101) rfl)) rfl
set_option maxRecDepth 20000 in
theorem wm_RX10_276 : Cond.methodLink RX10 276 yX10_readTwo ∈ gU := gmU (gt7 _ (List.mem_of_getElem? (i := 91) rfl)) rfl
set_option maxRecDepth 20000 in
theorem wm_RX10_281 : Cond.methodLink RX10 281 yX10_factHere ∈ gU := gmU (gt7 _ (List.mem_of_getElem? (i := 96) rfl)) rfl
set_option maxRecDepth 20000 in
theorem wf_RX10_47 : Cond.fieldLink RX10 47 "CommaStateModel" "code" "[I" ∈ gU := gmU (gt6 _ (List.mem_of_getElem? (i := 81) rfl)) rfl
set_option maxRecDepth 20000 in
theorem wf_RX10_50 : Cond.fieldLink RX10 50 "CommaStateModel" "ofCode" "[I" ∈ gU := gmU (gt6 _ (List.mem_of_getElem? (i := 82) rfl)) rfl
set_option maxRecDepth 20000 in
theorem wf_RX10_53 : Cond.fieldLink RX10 53 "CommaStateModel" "stack" "[I" ∈ gU := gmU (gt6 _ (List.mem_of_getElem? (i := 83) rfl)) rfl
set_option maxRecDepth 20000 in
theorem wf_RX10_56 : Cond.fieldLink RX10 56 "CommaStateModel" "facts" "[I" ∈ gU := gmU (gt6 _ (List.mem_of_getElem? (i := 86) rfl)) rfl
set_option maxRecDepth 20000 in
theorem wm_RX10_284 : Cond.methodLink RX10 284 yX10_both ∈ gU := gmU (gt7 _ (List.mem_of_getElem? (i := 179) rfl)) rfl
set_option maxRecDepth 20000 in
theorem wm_RX10_288 : Cond.methodLink RX10 288 yX10_valueNow ∈ gU := gmU (gt7 _ (List.mem_of_getElem? (i := 175) rfl)) rfl
set_option maxRecDepth 20000 in
theorem wf_RX10_59 : Cond.fieldLink RX10 59 "CommaStateModel" "newStep" "[I" ∈ gU := gmU (gt6 _ (List.mem_of_getElem? (i := 87) rfl)) rfl
set_option maxRecDepth 20000 in
theorem wf_RX10_291 : Cond.fieldLink RX10 291 "CommaStateModel" "newSteps" "I" ∈ gU := gmU (gt6 _ (List.mem_of_getElem? (i := 89) rfl)) rfl
set_option maxRecDepth 20000 in
theorem wm_RX10_298 : Cond.methodLink RX10 298 yX10_tellsStep ∈ gU := gmU (gt7 _ (List.mem_of_getElem? (i := 122) rfl)) rfl
set_option maxRecDepth 20000 in
theorem wm_RX10_306 : Cond.methodLink RX10 306 yX10_readStep ∈ gU := gmU (gt7 _ (List.mem_of_getElem? (i := 116) rfl)) rfl
set_option maxRecDepth 20000 in
theorem wf_RX10_62 : Cond.fieldLink RX10 62 "CommaStateModel" "step" "[I" ∈ gU := gmU (gt6 _ (List.mem_of_getElem? (i := 88) rfl)) rfl
set_option maxRecDepth 20000 in
theorem wf_RX10_71 : Cond.fieldLink RX10 71 "CommaStateModel" "past" "[I" ∈ gU := gmU (gt6 _ (List.mem_of_getElem? (i := 97) rfl)) rfl
set_option maxRecDepth 20000 in
theorem wm_RX10_309 : Cond.methodLink RX10 309 yX10_take ∈ gU := gmU (gt7 _ (List.mem_of_getElem? (i := 128) rfl)) rfl
set_option maxRecDepth 20000 in
theorem wf_RX10_312 : Cond.fieldLink RX10 312 "CommaStateModel" "begun" "I" ∈ gU := gmU (gt6 _ (List.mem_of_getElem? (i := 92) rfl)) rfl
set_option maxRecDepth 20000 in
theorem wf_RX10_315 : Cond.fieldLink RX10 315 "CommaStateModel" "done" "I" ∈ gU := gmU (gt6 _ (List.mem_of_getElem? (i := 93) rfl)) rfl
set_option maxRecDepth 20000 in
theorem wf_RX10_318 : Cond.fieldLink RX10 318 "CommaStateModel" "refusedNow" "I" ∈ gU := gmU (gt6 _ (List.mem_of_getElem? (i := 94) rfl)) rfl
set_option maxRecDepth 20000 in
theorem wm_RX10_321 : Cond.methodLink RX10 321 yX10_goesSteps ∈ gU := gmU (gt7 _ (List.mem_of_getElem? (i := 132) rfl)) rfl
set_option maxRecDepth 20000 in
theorem wf_RX10_68 : Cond.fieldLink RX10 68 "CommaStateModel" "s" "[I" ∈ gU := gmU (gt6 _ (List.mem_of_getElem? (i := 96) rfl)) rfl
set_option maxRecDepth 20000 in
theorem wm_RX10_324 : Cond.methodLink RX10 324 yX10_goes ∈ gU := gmU (gt7 _ (List.mem_of_getElem? (i := 136) rfl)) rfl
set_option maxRecDepth 20000 in
theorem wm_RX10_328 : Cond.methodLink RX10 328 yX10_goesTo ∈ gU := gmU (gt7 _ (List.mem_of_getElem? (i := 164) rfl)) rfl
set_option maxRecDepth 20000 in
theorem wm_RX10_331 : Cond.methodLink RX10 331 yX10_roadsOf ∈ gU := gmU (gt7 _ (List.mem_of_getElem? (i := 156) rfl)) rfl
set_option maxRecDepth 20000 in
theorem wm_RX10_334 : Cond.methodLink RX10 334 yX10_partyOf ∈ gU := gmU (gt7 _ (List.mem_of_getElem? (i := 160) rfl)) rfl
set_option maxRecDepth 20000 in
theorem wm_RX10_337 : Cond.methodLink RX10 337 yX10_swayNow ∈ gU := gmU (gt7 _ (List.mem_of_getElem? (i := 171) rfl)) rfl
set_option maxRecDepth 20000 in
theorem wm_RX10_340 : Cond.methodLink RX10 340 yX10_nearOf ∈ gU := gmU (gt7 _ (List.mem_of_getElem? (i := 152) rfl)) rfl
set_option maxRecDepth 20000 in
theorem wm_RX10_343 : Cond.methodLink RX10 343 yX10_swayOf ∈ gU := gmU (gt7 _ (List.mem_of_getElem? (i := 167) rfl)) rfl
set_option maxRecDepth 20000 in
theorem wf_RX10_74 : Cond.fieldLink RX10 74 "CommaStateModel" "sways" "[I" ∈ gU := gmU (gt6 _ (List.mem_of_getElem? (i := 98) rfl)) rfl
set_option maxRecDepth 20000 in
theorem wm_RX10_347 : Cond.methodLink RX10 347 yX10_swayBy ∈ gU := gmU (gt7 _ (List.mem_of_getElem? (i := 148) rfl)) rfl
set_option maxRecDepth 20000 in
theorem wm_RX10_350 : Cond.methodLink RX10 350 yX10_held ∈ gU := gmU (gt7 _ (List.mem_of_getElem? (i := 182) rfl)) rfl
set_option maxRecDepth 20000 in
theorem wm_RX10_353 : Cond.methodLink RX10 353 yX10_seatsOf ∈ gU := gmU (gt7 _ (List.mem_of_getElem? (i := 185) rfl)) rfl
set_option maxRecDepth 20000 in
theorem wm_RX10_356 : Cond.methodLink RX10 356 yX10_canMove ∈ gU := gmU (gt7 _ (List.mem_of_getElem? (i := 140) rfl)) rfl
set_option maxRecDepth 20000 in
theorem wm_RX10_360 : Cond.methodLink RX10 360 yX10_votes ∈ gU := gmU (gt7 _ (List.mem_of_getElem? (i := 144) rfl)) rfl
set_option maxRecDepth 20000 in
theorem wf_RX10_77 : Cond.fieldLink RX10 77 "CommaStateModel" "newBook" "[I" ∈ gU := gmU (gt6 _ (List.mem_of_getElem? (i := 99) rfl)) rfl
set_option maxRecDepth 20000 in
theorem wm_RX10_362 : Cond.methodLink RX10 362 yX10_within ∈ gU := gmU (gt7 _ (List.mem_of_getElem? (i := 201) rfl)) rfl
set_option maxRecDepth 20000 in
theorem wm_RX10_365 : Cond.methodLink RX10 365 yX10_sumOf ∈ gU := gmU (gt7 _ (List.mem_of_getElem? (i := 204) rfl)) rfl
set_option maxRecDepth 20000 in
theorem wm_RX10_368 : Cond.methodLink RX10 368 yX10_seatsAll ∈ gU := gmU (gt7 _ (List.mem_of_getElem? (i := 208) rfl)) rfl
set_option maxRecDepth 20000 in
theorem wm_RX10_371 : Cond.methodLink RX10 371 yX10_isTown ∈ gU := gmU (gt7 _ (List.mem_of_getElem? (i := 216) rfl)) rfl
set_option maxRecDepth 20000 in
theorem wm_RX10_375 : Cond.methodLink RX10 375 yX10_turnsOf ∈ gU := gmU (gt8 _ (List.mem_of_getElem? (i := 4) rfl)) rfl
set_option maxRecDepth 20000 in
theorem wf_RX10_83 : Cond.fieldLink RX10 83 "CommaStateModel" "setsOf" "[I" ∈ gU := gmU (gt6 _ (List.mem_of_getElem? (i := 102) rfl)) rfl
set_option maxRecDepth 20000 in
theorem wf_RX10_86 : Cond.fieldLink RX10 86 "CommaStateModel" "givenTo" "[I" ∈ gU := gmU (gt6 _ (List.mem_of_getElem? (i := 103) rfl)) rfl
set_option maxRecDepth 20000 in
theorem wm_RX10_378 : Cond.methodLink RX10 378 yX10_ones ∈ gU := gmU (gt8 _ (List.mem_of_getElem? (i := 20) rfl)) rfl
set_option maxRecDepth 20000 in
theorem wm_RX10_381 : Cond.methodLink RX10 381 yX10_first ∈ gU := gmU (gt8 _ (List.mem_of_getElem? (i := 23) rfl)) rfl
set_option maxRecDepth 20000 in
theorem wm_RX10_384 : Cond.methodLink RX10 384 yX10_hangs ∈ gU := gmU (gt8 _ (List.mem_of_getElem? (i := 26) rfl)) rfl
set_option maxRecDepth 20000 in
theorem wm_RX10_387 : Cond.methodLink RX10 387 yX10_driftTo ∈ gU := gmU (gt8 _ (List.mem_of_getElem? (i := 42) rfl)) rfl
set_option maxRecDepth 20000 in
theorem wm_RX10_390 : Cond.methodLink RX10 390 yX10_isDrift ∈ gU := gmU (gt8 _ (List.mem_of_getElem? (i := 38) rfl)) rfl
set_option maxRecDepth 20000 in
theorem wf_RX10_89 : Cond.fieldLink RX10 89 "CommaStateModel" "wentTo" "[I" ∈ gU := gmU (gt6 _ (List.mem_of_getElem? (i := 104) rfl)) rfl
set_option maxRecDepth 20000 in
theorem wm_RX10_393 : Cond.methodLink RX10 393 yX10_isPart ∈ gU := gmU (gt8 _ (List.mem_of_getElem? (i := 54) rfl)) rfl
set_option maxRecDepth 20000 in
theorem wf_RX10_92 : Cond.fieldLink RX10 92 "CommaStateModel" "waysTo" "[I" ∈ gU := gmU (gt6 _ (List.mem_of_getElem? (i := 105) rfl)) rfl
set_option maxRecDepth 20000 in
theorem wk_RX10_396 : Cond.constantLong RX10 396 16 ∈ gU := gmU (gt8 _ (List.mem_of_getElem? (i := 61) rfl)) rfl
set_option maxRecDepth 20000 in
theorem wm_RX10_398 : Cond.methodLink RX10 398 yX10_least ∈ gU := gmU (gt8 _ (List.mem_of_getElem? (i := 62) rfl)) rfl
set_option maxRecDepth 20000 in
theorem wm_RX10_401 : Cond.methodLink RX10 401 yX10_speaksHas ∈ gU := gmU (gt8 _ (List.mem_of_getElem? (i := 73) rfl)) rfl
set_option maxRecDepth 20000 in
theorem wm_RX10_405 : Cond.methodLink RX10 405 yX10_isRest ∈ gU := gmU (gt8 _ (List.mem_of_getElem? (i := 69) rfl)) rfl
set_option maxRecDepth 20000 in
theorem wm_RX10_408 : Cond.methodLink RX10 408 yX10_breadBy ∈ gU := gmU (gt8 _ (List.mem_of_getElem? (i := 81) rfl)) rfl
set_option maxRecDepth 20000 in
theorem wf_RX10_95 : Cond.fieldLink RX10 95 "CommaStateModel" "leader" "[I" ∈ gU := gmU (gt6 _ (List.mem_of_getElem? (i := 106) rfl)) rfl
set_option maxRecDepth 20000 in
theorem wm_RX10_411 : Cond.methodLink RX10 411 yX10_partsBut ∈ gU := gmU (gt8 _ (List.mem_of_getElem? (i := 97) rfl)) rfl
set_option maxRecDepth 20000 in
theorem wf_RX10_414 : Cond.fieldLink RX10 414 "CommaStateModel" "seedNow" "I" ∈ gU := gmU (gt6 _ (List.mem_of_getElem? (i := 107) rfl)) rfl
set_option maxRecDepth 20000 in
theorem wk_RX10_417 : Cond.constant RX10 417 1103515245 ∈ gU := gmU (gt8 _ (List.mem_of_getElem? (i := 136) rfl)) rfl
set_option maxRecDepth 20000 in
theorem wf_RX10_418 : Cond.fieldLink RX10 418 "CommaStateModel" "turnedMany" "I" ∈ gU := gmU (gt6 _ (List.mem_of_getElem? (i := 108) rfl)) rfl
set_option maxRecDepth 20000 in
theorem wf_RX10_421 : Cond.fieldLink RX10 421 "CommaStateModel" "votesMany" "I" ∈ gU := gmU (gt6 _ (List.mem_of_getElem? (i := 109) rfl)) rfl
set_option maxRecDepth 20000 in
theorem wm_RX10_424 : Cond.methodLink RX10 424 yX10_draws ∈ gU := gmU (gt8 _ (List.mem_of_getElem? (i := 132) rfl)) rfl
set_option maxRecDepth 20000 in
theorem wm_RX10_427 : Cond.methodLink RX10 427 yX10_isTerm ∈ gU := gmU (gt8 _ (List.mem_of_getElem? (i := 125) rfl)) rfl
set_option maxRecDepth 20000 in
theorem wm_RX10_430 : Cond.methodLink RX10 430 yX10_termGoes ∈ gU := gmU (gt8 _ (List.mem_of_getElem? (i := 128) rfl)) rfl
set_option maxRecDepth 20000 in
theorem wf_RX10_98 : Cond.fieldLink RX10 98 "CommaStateModel" "image" "[I" ∈ gU := gmU (gt6 _ (List.mem_of_getElem? (i := 110) rfl)) rfl
set_option maxRecDepth 20000 in
theorem wm_RX10_434 : Cond.methodLink RX10 434 yX10_keepsRow ∈ gU := gmU (gt8 _ (List.mem_of_getElem? (i := 149) rfl)) rfl
set_option maxRecDepth 20000 in
theorem wm_RX10_438 : Cond.methodLink RX10 438 yX10_keepsAll ∈ gU := gmU (gt8 _ (List.mem_of_getElem? (i := 145) rfl)) rfl
set_option maxRecDepth 20000 in
theorem wk_RJ6_265 : Cond.constant RJ6 265 1431655765 ∈ gU := gmU (gt4 _ (List.mem_of_getElem? (i := 84) rfl)) rfl
set_option maxRecDepth 20000 in
theorem wk_RJ6_266 : Cond.constant RJ6 266 858993459 ∈ gU := gmU (gt4 _ (List.mem_of_getElem? (i := 85) rfl)) rfl
set_option maxRecDepth 20000 in
theorem wk_RJ6_267 : Cond.constant RJ6 267 252645135 ∈ gU := gmU (gt4 _ (List.mem_of_getElem? (i := 86) rfl)) rfl
set_option maxRecDepth 20000 in
theorem wf_RJ0_9 : Cond.fieldLink RJ0 9 "java/lang/String" "value" "[B" ∈ gU := gmU (gt8 _ (List.mem_of_getElem? (i := 182) rfl)) rfl
set_option maxRecDepth 20000 in
theorem wm_RJ0_335 : Cond.methodLink RJ0 335 yJ0_coder_7d493 ∈ gU := gmU (gt3 _ (List.mem_of_getElem? (i := 125) rfl)) rfl
set_option maxRecDepth 20000 in
theorem wm_RJ0_492 : Cond.methodLink RJ0 492 yJ0_isLatin1_aae02 ∈ gU := gmU (gt3 _ (List.mem_of_getElem? (i := 135) rfl)) rfl
set_option maxRecDepth 20000 in
theorem wm_RJ0_495 : Cond.methodLink RJ0 495 yJ1_charAt_3b067 ∈ gU := gmU (gt3 _ (List.mem_of_getElem? (i := 139) rfl)) rfl
set_option maxRecDepth 20000 in
theorem wf_RJ0_38 : Cond.fieldLink RJ0 38 "java/lang/String" "COMPACT_STRINGS" "Z" ∈ gU := gmU (gt3 _ (List.mem_of_getElem? (i := 129) rfl)) rfl
set_option maxRecDepth 20000 in
theorem wf_RJ0_15 : Cond.fieldLink RJ0 15 "java/lang/String" "coder" "B" ∈ gU := gmU (gt8 _ (List.mem_of_getElem? (i := 183) rfl)) rfl
set_option maxRecDepth 20000 in
theorem wm_RJ1_9 : Cond.methodLink RJ1 9 yJ0_checkIndex_df160 ∈ gU := gmU (gt3 _ (List.mem_of_getElem? (i := 142) rfl)) rfl
set_option maxRecDepth 20000 in
theorem wf_RJ0_1053 : Cond.fieldLink RJ0 1053 "jdk/internal/util/Preconditions" "SIOOBE_FORMATTER" "Ljava/util/function/BiFunction;" ∈ gU := gmU (gt3 _ (List.mem_of_getElem? (i := 145) rfl)) rfl
set_option maxRecDepth 20000 in
theorem wm_RJ0_1059 : Cond.methodLink RJ0 1059 yJ3_checkIndex_8e157 ∈ gU := gmU (gt3 _ (List.mem_of_getElem? (i := 147) rfl)) rfl
set_option maxRecDepth 20000 in
theorem winstanceMethod_yX0_clear : Cond.instanceMethod yX0_clear ∈ gU := gmU (gt3 _ (List.mem_of_getElem? (i := 211) rfl)) rfl
set_option maxRecDepth 20000 in
theorem ws_yX0_clear : Cond.selects yX0_clear.cls yX0_clear yX0_clear ∈ gU := gmU (gt3 _ (List.mem_of_getElem? (i := 212) rfl)) rfl
set_option maxRecDepth 20000 in
theorem wi_CommaState_Book : Cond.initialized RX0 ∈ gU := gmU (gt1 _ (List.mem_of_getElem? (i := 6) rfl)) rfl
set_option maxRecDepth 20000 in
theorem wc_yX0_clear : Cond.code yX0_clear cX0_clear 1 none ∈ gU := gmU (gt3 _ (List.mem_of_getElem? (i := 213) rfl)) rfl
set_option maxRecDepth 20000 in
theorem winstanceMethod_yX0_read : Cond.instanceMethod yX0_read ∈ gU := gmU (gt4 _ (List.mem_of_getElem? (i := 127) rfl)) rfl
set_option maxRecDepth 20000 in
theorem ws_yX0_read : Cond.selects yX0_read.cls yX0_read yX0_read ∈ gU := gmU (gt4 _ (List.mem_of_getElem? (i := 128) rfl)) rfl
set_option maxRecDepth 20000 in
theorem wc_yX0_read : Cond.code yX0_read cX0_read 4 none ∈ gU := gmU (gt4 _ (List.mem_of_getElem? (i := 129) rfl)) rfl
set_option maxRecDepth 20000 in
theorem winstanceMethod_yX0_readLine : Cond.instanceMethod yX0_readLine ∈ gU := gmU (gt4 _ (List.mem_of_getElem? (i := 133) rfl)) rfl
set_option maxRecDepth 20000 in
theorem ws_yX0_readLine : Cond.selects yX0_readLine.cls yX0_readLine yX0_readLine ∈ gU := gmU (gt4 _ (List.mem_of_getElem? (i := 134) rfl)) rfl
set_option maxRecDepth 20000 in
theorem wc_yX0_readLine : Cond.code yX0_readLine cX0_readLine 4 none ∈ gU := gmU (gt4 _ (List.mem_of_getElem? (i := 135) rfl)) rfl
set_option maxRecDepth 20000 in
theorem winstanceMethod_yX0_holds : Cond.instanceMethod yX0_holds ∈ gU := gmU (gt4 _ (List.mem_of_getElem? (i := 138) rfl)) rfl
set_option maxRecDepth 20000 in
theorem ws_yX0_holds : Cond.selects yX0_holds.cls yX0_holds yX0_holds ∈ gU := gmU (gt4 _ (List.mem_of_getElem? (i := 139) rfl)) rfl
set_option maxRecDepth 20000 in
theorem wc_yX0_holds : Cond.code yX0_holds cX0_holds 2 (some .boolean) ∈ gU := gmU (gt4 _ (List.mem_of_getElem? (i := 140) rfl)) rfl
set_option maxRecDepth 20000 in
theorem winstanceMethod_yX0_fits : Cond.instanceMethod yX0_fits ∈ gU := gmU (gt5 _ (List.mem_of_getElem? (i := 78) rfl)) rfl
set_option maxRecDepth 20000 in
theorem ws_yX0_fits : Cond.selects yX0_fits.cls yX0_fits yX0_fits ∈ gU := gmU (gt5 _ (List.mem_of_getElem? (i := 79) rfl)) rfl
set_option maxRecDepth 20000 in
theorem wc_yX0_fits : Cond.code yX0_fits cX0_fits 5 (some .boolean) ∈ gU := gmU (gt5 _ (List.mem_of_getElem? (i := 80) rfl)) rfl
set_option maxRecDepth 20000 in
theorem winstanceMethod_yX0_sideThen : Cond.instanceMethod yX0_sideThen ∈ gU := gmU (gt5 _ (List.mem_of_getElem? (i := 82) rfl)) rfl
set_option maxRecDepth 20000 in
theorem ws_yX0_sideThen : Cond.selects yX0_sideThen.cls yX0_sideThen yX0_sideThen ∈ gU := gmU (gt5 _ (List.mem_of_getElem? (i := 83) rfl)) rfl
set_option maxRecDepth 20000 in
theorem wc_yX0_sideThen : Cond.code yX0_sideThen cX0_sideThen 4 (some .int) ∈ gU := gmU (gt5 _ (List.mem_of_getElem? (i := 84) rfl)) rfl
set_option maxRecDepth 20000 in
theorem winstanceMethod_yX0_measure : Cond.instanceMethod yX0_measure ∈ gU := gmU (gt5 _ (List.mem_of_getElem? (i := 74) rfl)) rfl
set_option maxRecDepth 20000 in
theorem ws_yX0_measure : Cond.selects yX0_measure.cls yX0_measure yX0_measure ∈ gU := gmU (gt5 _ (List.mem_of_getElem? (i := 75) rfl)) rfl
set_option maxRecDepth 20000 in
theorem wc_yX0_measure : Cond.code yX0_measure cX0_measure 5 none ∈ gU := gmU (gt5 _ (List.mem_of_getElem? (i := 76) rfl)) rfl
set_option maxRecDepth 20000 in
theorem winstanceMethod_yX0_worst : Cond.instanceMethod yX0_worst ∈ gU := gmU (gt5 _ (List.mem_of_getElem? (i := 99) rfl)) rfl
set_option maxRecDepth 20000 in
theorem ws_yX0_worst : Cond.selects yX0_worst.cls yX0_worst yX0_worst ∈ gU := gmU (gt5 _ (List.mem_of_getElem? (i := 100) rfl)) rfl
set_option maxRecDepth 20000 in
theorem wc_yX0_worst : Cond.code yX0_worst cX0_worst 3 (some .int) ∈ gU := gmU (gt5 _ (List.mem_of_getElem? (i := 101) rfl)) rfl
set_option maxRecDepth 20000 in
theorem winstanceMethod_yX0_nextTown : Cond.instanceMethod yX0_nextTown ∈ gU := gmU (gt5 _ (List.mem_of_getElem? (i := 95) rfl)) rfl
set_option maxRecDepth 20000 in
theorem ws_yX0_nextTown : Cond.selects yX0_nextTown.cls yX0_nextTown yX0_nextTown ∈ gU := gmU (gt5 _ (List.mem_of_getElem? (i := 96) rfl)) rfl
set_option maxRecDepth 20000 in
theorem wc_yX0_nextTown : Cond.code yX0_nextTown cX0_nextTown 4 (some .int) ∈ gU := gmU (gt5 _ (List.mem_of_getElem? (i := 97) rfl)) rfl
set_option maxRecDepth 20000 in
theorem winstanceMethod_yX1_read : Cond.instanceMethod yX1_read ∈ gU := gmU (gt4 _ (List.mem_of_getElem? (i := 18) rfl)) rfl
set_option maxRecDepth 20000 in
theorem ws_yX1_read : Cond.selects yX1_read.cls yX1_read yX1_read ∈ gU := gmU (gt4 _ (List.mem_of_getElem? (i := 19) rfl)) rfl
set_option maxRecDepth 20000 in
theorem wi_CommaState_Deeds : Cond.initialized RX1 ∈ gU := gmU (gt1 _ (List.mem_of_getElem? (i := 7) rfl)) rfl
set_option maxRecDepth 20000 in
theorem wc_yX1_read : Cond.code yX1_read cX1_read 4 none ∈ gU := gmU (gt4 _ (List.mem_of_getElem? (i := 20) rfl)) rfl
set_option maxRecDepth 20000 in
theorem winstanceMethod_yX1_readStep : Cond.instanceMethod yX1_readStep ∈ gU := gmU (gt4 _ (List.mem_of_getElem? (i := 23) rfl)) rfl
set_option maxRecDepth 20000 in
theorem ws_yX1_readStep : Cond.selects yX1_readStep.cls yX1_readStep yX1_readStep ∈ gU := gmU (gt4 _ (List.mem_of_getElem? (i := 24) rfl)) rfl
set_option maxRecDepth 20000 in
theorem wc_yX1_readStep : Cond.code yX1_readStep cX1_readStep 6 none ∈ gU := gmU (gt4 _ (List.mem_of_getElem? (i := 25) rfl)) rfl
set_option maxRecDepth 20000 in
theorem winstanceMethod_yX1_readHeld : Cond.instanceMethod yX1_readHeld ∈ gU := gmU (gt4 _ (List.mem_of_getElem? (i := 32) rfl)) rfl
set_option maxRecDepth 20000 in
theorem ws_yX1_readHeld : Cond.selects yX1_readHeld.cls yX1_readHeld yX1_readHeld ∈ gU := gmU (gt4 _ (List.mem_of_getElem? (i := 33) rfl)) rfl
set_option maxRecDepth 20000 in
theorem wc_yX1_readHeld : Cond.code yX1_readHeld cX1_readHeld 5 none ∈ gU := gmU (gt4 _ (List.mem_of_getElem? (i := 34) rfl)) rfl
set_option maxRecDepth 20000 in
theorem winstanceMethod_yX1_forget : Cond.instanceMethod yX1_forget ∈ gU := gmU (gt4 _ (List.mem_of_getElem? (i := 42) rfl)) rfl
set_option maxRecDepth 20000 in
theorem ws_yX1_forget : Cond.selects yX1_forget.cls yX1_forget yX1_forget ∈ gU := gmU (gt4 _ (List.mem_of_getElem? (i := 43) rfl)) rfl
set_option maxRecDepth 20000 in
theorem wc_yX1_forget : Cond.code yX1_forget cX1_forget 1 none ∈ gU := gmU (gt4 _ (List.mem_of_getElem? (i := 44) rfl)) rfl
set_option maxRecDepth 20000 in
theorem winstanceMethod_yX1_enact : Cond.instanceMethod yX1_enact ∈ gU := gmU (gt4 _ (List.mem_of_getElem? (i := 46) rfl)) rfl
set_option maxRecDepth 20000 in
theorem ws_yX1_enact : Cond.selects yX1_enact.cls yX1_enact yX1_enact ∈ gU := gmU (gt4 _ (List.mem_of_getElem? (i := 47) rfl)) rfl
set_option maxRecDepth 20000 in
theorem wc_yX1_enact : Cond.code yX1_enact cX1_enact 10 none ∈ gU := gmU (gt4 _ (List.mem_of_getElem? (i := 48) rfl)) rfl
set_option maxRecDepth 20000 in
theorem winstanceMethod_yX1_enactStep : Cond.instanceMethod yX1_enactStep ∈ gU := gmU (gt4 _ (List.mem_of_getElem? (i := 50) rfl)) rfl
set_option maxRecDepth 20000 in
theorem ws_yX1_enactStep : Cond.selects yX1_enactStep.cls yX1_enactStep yX1_enactStep ∈ gU := gmU (gt4 _ (List.mem_of_getElem? (i := 51) rfl)) rfl
set_option maxRecDepth 20000 in
theorem wc_yX1_enactStep : Cond.code yX1_enactStep cX1_enactStep 5 (some .boolean) ∈ gU := gmU (gt4 _ (List.mem_of_getElem? (i := 52) rfl)) rfl
set_option maxRecDepth 20000 in
theorem winstanceMethod_yX2_holdVotes : Cond.instanceMethod yX2_holdVotes ∈ gU := gmU (gt5 _ (List.mem_of_getElem? (i := 3) rfl)) rfl
set_option maxRecDepth 20000 in
theorem ws_yX2_holdVotes : Cond.selects yX2_holdVotes.cls yX2_holdVotes yX2_holdVotes ∈ gU := gmU (gt5 _ (List.mem_of_getElem? (i := 4) rfl)) rfl
set_option maxRecDepth 20000 in
theorem wi_CommaState_Fate : Cond.initialized RX2 ∈ gU := gmU (gt1 _ (List.mem_of_getElem? (i := 10) rfl)) rfl
set_option maxRecDepth 20000 in
theorem wc_yX2_holdVotes : Cond.code yX2_holdVotes cX2_holdVotes 6 none ∈ gU := gmU (gt5 _ (List.mem_of_getElem? (i := 5) rfl)) rfl
set_option maxRecDepth 20000 in
theorem winstanceMethod_yX2_votesTill : Cond.instanceMethod yX2_votesTill ∈ gU := gmU (gt5 _ (List.mem_of_getElem? (i := 212) rfl)) rfl
set_option maxRecDepth 20000 in
theorem ws_yX2_votesTill : Cond.selects yX2_votesTill.cls yX2_votesTill yX2_votesTill ∈ gU := gmU (gt5 _ (List.mem_of_getElem? (i := 213) rfl)) rfl
set_option maxRecDepth 20000 in
theorem wc_yX2_votesTill : Cond.code yX2_votesTill cX2_votesTill 6 (some .int) ∈ gU := gmU (gt5 _ (List.mem_of_getElem? (i := 214) rfl)) rfl
set_option maxRecDepth 20000 in
theorem winstanceMethod_yX2_draw : Cond.instanceMethod yX2_draw ∈ gU := gmU (gt6 _ (List.mem_of_getElem? (i := 22) rfl)) rfl
set_option maxRecDepth 20000 in
theorem ws_yX2_draw : Cond.selects yX2_draw.cls yX2_draw yX2_draw ∈ gU := gmU (gt6 _ (List.mem_of_getElem? (i := 23) rfl)) rfl
set_option maxRecDepth 20000 in
theorem wc_yX2_draw : Cond.code yX2_draw cX2_draw 3 (some .int) ∈ gU := gmU (gt6 _ (List.mem_of_getElem? (i := 24) rfl)) rfl
set_option maxRecDepth 20000 in
theorem winstanceMethod_yX2_serveTerm : Cond.instanceMethod yX2_serveTerm ∈ gU := gmU (gt6 _ (List.mem_of_getElem? (i := 14) rfl)) rfl
set_option maxRecDepth 20000 in
theorem ws_yX2_serveTerm : Cond.selects yX2_serveTerm.cls yX2_serveTerm yX2_serveTerm ∈ gU := gmU (gt6 _ (List.mem_of_getElem? (i := 15) rfl)) rfl
set_option maxRecDepth 20000 in
theorem wc_yX2_serveTerm : Cond.code yX2_serveTerm cX2_serveTerm 9 none ∈ gU := gmU (gt6 _ (List.mem_of_getElem? (i := 16) rfl)) rfl
set_option maxRecDepth 20000 in
theorem winstanceMethod_yX2_liveDay : Cond.instanceMethod yX2_liveDay ∈ gU := gmU (gt6 _ (List.mem_of_getElem? (i := 18) rfl)) rfl
set_option maxRecDepth 20000 in
theorem ws_yX2_liveDay : Cond.selects yX2_liveDay.cls yX2_liveDay yX2_liveDay ∈ gU := gmU (gt6 _ (List.mem_of_getElem? (i := 19) rfl)) rfl
set_option maxRecDepth 20000 in
theorem wc_yX2_liveDay : Cond.code yX2_liveDay cX2_liveDay 5 none ∈ gU := gmU (gt6 _ (List.mem_of_getElem? (i := 20) rfl)) rfl
set_option maxRecDepth 20000 in
theorem winstanceMethod_yX3_read : Cond.instanceMethod yX3_read ∈ gU := gmU (gt3 _ (List.mem_of_getElem? (i := 105) rfl)) rfl
set_option maxRecDepth 20000 in
theorem ws_yX3_read : Cond.selects yX3_read.cls yX3_read yX3_read ∈ gU := gmU (gt3 _ (List.mem_of_getElem? (i := 106) rfl)) rfl
set_option maxRecDepth 20000 in
theorem wi_CommaState_Land : Cond.initialized RX3 ∈ gU := gmU (gt1 _ (List.mem_of_getElem? (i := 3) rfl)) rfl
set_option maxRecDepth 20000 in
theorem wc_yX3_read : Cond.code yX3_read cX3_read 4 none ∈ gU := gmU (gt3 _ (List.mem_of_getElem? (i := 107) rfl)) rfl
set_option maxRecDepth 20000 in
theorem winstanceMethod_yX3_readClause : Cond.instanceMethod yX3_readClause ∈ gU := gmU (gt3 _ (List.mem_of_getElem? (i := 113) rfl)) rfl
set_option maxRecDepth 20000 in
theorem ws_yX3_readClause : Cond.selects yX3_readClause.cls yX3_readClause yX3_readClause ∈ gU := gmU (gt3 _ (List.mem_of_getElem? (i := 114) rfl)) rfl
set_option maxRecDepth 20000 in
theorem wc_yX3_readClause : Cond.code yX3_readClause cX3_readClause 7 none ∈ gU := gmU (gt3 _ (List.mem_of_getElem? (i := 115) rfl)) rfl
set_option maxRecDepth 20000 in
theorem winstanceMethod_yX3_readTown : Cond.instanceMethod yX3_readTown ∈ gU := gmU (gt3 _ (List.mem_of_getElem? (i := 176) rfl)) rfl
set_option maxRecDepth 20000 in
theorem ws_yX3_readTown : Cond.selects yX3_readTown.cls yX3_readTown yX3_readTown ∈ gU := gmU (gt3 _ (List.mem_of_getElem? (i := 177) rfl)) rfl
set_option maxRecDepth 20000 in
theorem wc_yX3_readTown : Cond.code yX3_readTown cX3_readTown 6 none ∈ gU := gmU (gt3 _ (List.mem_of_getElem? (i := 178) rfl)) rfl
set_option maxRecDepth 20000 in
theorem winstanceMethod_yX3_readRoad : Cond.instanceMethod yX3_readRoad ∈ gU := gmU (gt3 _ (List.mem_of_getElem? (i := 188) rfl)) rfl
set_option maxRecDepth 20000 in
theorem ws_yX3_readRoad : Cond.selects yX3_readRoad.cls yX3_readRoad yX3_readRoad ∈ gU := gmU (gt3 _ (List.mem_of_getElem? (i := 189) rfl)) rfl
set_option maxRecDepth 20000 in
theorem wc_yX3_readRoad : Cond.code yX3_readRoad cX3_readRoad 4 none ∈ gU := gmU (gt3 _ (List.mem_of_getElem? (i := 190) rfl)) rfl
set_option maxRecDepth 20000 in
theorem winstanceMethod_yX3_allSeats : Cond.instanceMethod yX3_allSeats ∈ gU := gmU (gt4 _ (List.mem_of_getElem? (i := 161) rfl)) rfl
set_option maxRecDepth 20000 in
theorem ws_yX3_allSeats : Cond.selects yX3_allSeats.cls yX3_allSeats yX3_allSeats ∈ gU := gmU (gt4 _ (List.mem_of_getElem? (i := 162) rfl)) rfl
set_option maxRecDepth 20000 in
theorem wc_yX3_allSeats : Cond.code yX3_allSeats cX3_allSeats 1 (some .int) ∈ gU := gmU (gt4 _ (List.mem_of_getElem? (i := 163) rfl)) rfl
set_option maxRecDepth 20000 in
theorem winstanceMethod_yX3_seatsIn : Cond.instanceMethod yX3_seatsIn ∈ gU := gmU (gt2 _ (List.mem_of_getElem? (i := 178) rfl)) rfl
set_option maxRecDepth 20000 in
theorem ws_yX3_seatsIn : Cond.selects yX3_seatsIn.cls yX3_seatsIn yX3_seatsIn ∈ gU := gmU (gt2 _ (List.mem_of_getElem? (i := 179) rfl)) rfl
set_option maxRecDepth 20000 in
theorem wc_yX3_seatsIn : Cond.code yX3_seatsIn cX3_seatsIn 4 (some .int) ∈ gU := gmU (gt2 _ (List.mem_of_getElem? (i := 180) rfl)) rfl
set_option maxRecDepth 20000 in
theorem winstanceMethod_yX3_everyTown : Cond.instanceMethod yX3_everyTown ∈ gU := gmU (gt2 _ (List.mem_of_getElem? (i := 190) rfl)) rfl
set_option maxRecDepth 20000 in
theorem ws_yX3_everyTown : Cond.selects yX3_everyTown.cls yX3_everyTown yX3_everyTown ∈ gU := gmU (gt2 _ (List.mem_of_getElem? (i := 191) rfl)) rfl
set_option maxRecDepth 20000 in
theorem wc_yX3_everyTown : Cond.code yX3_everyTown cX3_everyTown 1 (some .int) ∈ gU := gmU (gt2 _ (List.mem_of_getElem? (i := 192) rfl)) rfl
set_option maxRecDepth 20000 in
theorem winstanceMethod_yX3_knows : Cond.instanceMethod yX3_knows ∈ gU := gmU (gt5 _ (List.mem_of_getElem? (i := 58) rfl)) rfl
set_option maxRecDepth 20000 in
theorem ws_yX3_knows : Cond.selects yX3_knows.cls yX3_knows yX3_knows ∈ gU := gmU (gt5 _ (List.mem_of_getElem? (i := 59) rfl)) rfl
set_option maxRecDepth 20000 in
theorem wc_yX3_knows : Cond.code yX3_knows cX3_knows 2 (some .boolean) ∈ gU := gmU (gt5 _ (List.mem_of_getElem? (i := 60) rfl)) rfl
set_option maxRecDepth 20000 in
theorem winstanceMethod_yX3_reached : Cond.instanceMethod yX3_reached ∈ gU := gmU (gt2 _ (List.mem_of_getElem? (i := 194) rfl)) rfl
set_option maxRecDepth 20000 in
theorem ws_yX3_reached : Cond.selects yX3_reached.cls yX3_reached yX3_reached ∈ gU := gmU (gt2 _ (List.mem_of_getElem? (i := 195) rfl)) rfl
set_option maxRecDepth 20000 in
theorem wc_yX3_reached : Cond.code yX3_reached cX3_reached 9 (some .int) ∈ gU := gmU (gt2 _ (List.mem_of_getElem? (i := 196) rfl)) rfl
set_option maxRecDepth 20000 in
theorem winstanceMethod_yX3_pieces : Cond.instanceMethod yX3_pieces ∈ gU := gmU (gt2 _ (List.mem_of_getElem? (i := 186) rfl)) rfl
set_option maxRecDepth 20000 in
theorem ws_yX3_pieces : Cond.selects yX3_pieces.cls yX3_pieces yX3_pieces ∈ gU := gmU (gt2 _ (List.mem_of_getElem? (i := 187) rfl)) rfl
set_option maxRecDepth 20000 in
theorem wc_yX3_pieces : Cond.code yX3_pieces cX3_pieces 5 (some .int) ∈ gU := gmU (gt2 _ (List.mem_of_getElem? (i := 188) rfl)) rfl
set_option maxRecDepth 20000 in
theorem winstanceMethod_yX3_cuts : Cond.instanceMethod yX3_cuts ∈ gU := gmU (gt2 _ (List.mem_of_getElem? (i := 202) rfl)) rfl
set_option maxRecDepth 20000 in
theorem ws_yX3_cuts : Cond.selects yX3_cuts.cls yX3_cuts yX3_cuts ∈ gU := gmU (gt2 _ (List.mem_of_getElem? (i := 203) rfl)) rfl
set_option maxRecDepth 20000 in
theorem wc_yX3_cuts : Cond.code yX3_cuts cX3_cuts 4 (some .int) ∈ gU := gmU (gt2 _ (List.mem_of_getElem? (i := 204) rfl)) rfl
set_option maxRecDepth 20000 in
theorem winstanceMethod_yX3_fewestTogether : Cond.instanceMethod yX3_fewestTogether ∈ gU := gmU (gt5 _ (List.mem_of_getElem? (i := 62) rfl)) rfl
set_option maxRecDepth 20000 in
theorem ws_yX3_fewestTogether : Cond.selects yX3_fewestTogether.cls yX3_fewestTogether yX3_fewestTogether ∈ gU := gmU (gt5 _ (List.mem_of_getElem? (i := 63) rfl)) rfl
set_option maxRecDepth 20000 in
theorem wc_yX3_fewestTogether : Cond.code yX3_fewestTogether cX3_fewestTogether 7 (some .int) ∈ gU := gmU (gt5 _ (List.mem_of_getElem? (i := 64) rfl)) rfl
set_option maxRecDepth 20000 in
theorem winstanceMethod_yX4_setPlain : Cond.instanceMethod yX4_setPlain ∈ gU := gmU (gt1 _ (List.mem_of_getElem? (i := 165) rfl)) rfl
set_option maxRecDepth 20000 in
theorem ws_yX4_setPlain : Cond.selects yX4_setPlain.cls yX4_setPlain yX4_setPlain ∈ gU := gmU (gt1 _ (List.mem_of_getElem? (i := 166) rfl)) rfl
set_option maxRecDepth 20000 in
theorem wi_CommaState_Law : Cond.initialized RX4 ∈ gU := gmU (gt1 _ (List.mem_of_getElem? (i := 5) rfl)) rfl
set_option maxRecDepth 20000 in
theorem wc_yX4_setPlain : Cond.code yX4_setPlain cX4_setPlain 1 none ∈ gU := gmU (gt1 _ (List.mem_of_getElem? (i := 167) rfl)) rfl
set_option maxRecDepth 20000 in
theorem winstanceMethod_yX4_emit : Cond.instanceMethod yX4_emit ∈ gU := gmU (gt1 _ (List.mem_of_getElem? (i := 169) rfl)) rfl
set_option maxRecDepth 20000 in
theorem ws_yX4_emit : Cond.selects yX4_emit.cls yX4_emit yX4_emit ∈ gU := gmU (gt1 _ (List.mem_of_getElem? (i := 170) rfl)) rfl
set_option maxRecDepth 20000 in
theorem wc_yX4_emit : Cond.code yX4_emit cX4_emit 2 none ∈ gU := gmU (gt1 _ (List.mem_of_getElem? (i := 171) rfl)) rfl
set_option maxRecDepth 20000 in
theorem winstanceMethod_yX4_read : Cond.instanceMethod yX4_read ∈ gU := gmU (gt3 _ (List.mem_of_getElem? (i := 226) rfl)) rfl
set_option maxRecDepth 20000 in
theorem ws_yX4_read : Cond.selects yX4_read.cls yX4_read yX4_read ∈ gU := gmU (gt3 _ (List.mem_of_getElem? (i := 227) rfl)) rfl
set_option maxRecDepth 20000 in
theorem wc_yX4_read : Cond.code yX4_read cX4_read 2 none ∈ gU := gmU (gt3 _ (List.mem_of_getElem? (i := 228) rfl)) rfl
set_option maxRecDepth 20000 in
theorem winstanceMethod_yX4_readSum : Cond.instanceMethod yX4_readSum ∈ gU := gmU (gt3 _ (List.mem_of_getElem? (i := 230) rfl)) rfl
set_option maxRecDepth 20000 in
theorem ws_yX4_readSum : Cond.selects yX4_readSum.cls yX4_readSum yX4_readSum ∈ gU := gmU (gt3 _ (List.mem_of_getElem? (i := 231) rfl)) rfl
set_option maxRecDepth 20000 in
theorem wc_yX4_readSum : Cond.code yX4_readSum cX4_readSum 5 none ∈ gU := gmU (gt3 _ (List.mem_of_getElem? (i := 232) rfl)) rfl
set_option maxRecDepth 20000 in
theorem winstanceMethod_yX4_readProduct : Cond.instanceMethod yX4_readProduct ∈ gU := gmU (gt3 _ (List.mem_of_getElem? (i := 234) rfl)) rfl
set_option maxRecDepth 20000 in
theorem ws_yX4_readProduct : Cond.selects yX4_readProduct.cls yX4_readProduct yX4_readProduct ∈ gU := gmU (gt3 _ (List.mem_of_getElem? (i := 235) rfl)) rfl
set_option maxRecDepth 20000 in
theorem wc_yX4_readProduct : Cond.code yX4_readProduct cX4_readProduct 5 none ∈ gU := gmU (gt3 _ (List.mem_of_getElem? (i := 236) rfl)) rfl
set_option maxRecDepth 20000 in
theorem winstanceMethod_yX4_readUnit : Cond.instanceMethod yX4_readUnit ∈ gU := gmU (gt3 _ (List.mem_of_getElem? (i := 238) rfl)) rfl
set_option maxRecDepth 20000 in
theorem ws_yX4_readUnit : Cond.selects yX4_readUnit.cls yX4_readUnit yX4_readUnit ∈ gU := gmU (gt3 _ (List.mem_of_getElem? (i := 239) rfl)) rfl
set_option maxRecDepth 20000 in
theorem wc_yX4_readUnit : Cond.code yX4_readUnit cX4_readUnit 5 none ∈ gU := gmU (gt4 _ (List.mem_of_getElem? (i := 0) rfl)) rfl
set_option maxRecDepth 20000 in
theorem winstanceMethod_yX4_tellTown : Cond.instanceMethod yX4_tellTown ∈ gU := gmU (gt4 _ (List.mem_of_getElem? (i := 92) rfl)) rfl
set_option maxRecDepth 20000 in
theorem ws_yX4_tellTown : Cond.selects yX4_tellTown.cls yX4_tellTown yX4_tellTown ∈ gU := gmU (gt4 _ (List.mem_of_getElem? (i := 93) rfl)) rfl
set_option maxRecDepth 20000 in
theorem wc_yX4_tellTown : Cond.code yX4_tellTown cX4_tellTown 7 none ∈ gU := gmU (gt4 _ (List.mem_of_getElem? (i := 94) rfl)) rfl
set_option maxRecDepth 20000 in
theorem winstanceMethod_yX4_tellAll : Cond.instanceMethod yX4_tellAll ∈ gU := gmU (gt4 _ (List.mem_of_getElem? (i := 96) rfl)) rfl
set_option maxRecDepth 20000 in
theorem ws_yX4_tellAll : Cond.selects yX4_tellAll.cls yX4_tellAll yX4_tellAll ∈ gU := gmU (gt4 _ (List.mem_of_getElem? (i := 97) rfl)) rfl
set_option maxRecDepth 20000 in
theorem wc_yX4_tellAll : Cond.code yX4_tellAll cX4_tellAll 5 none ∈ gU := gmU (gt4 _ (List.mem_of_getElem? (i := 98) rfl)) rfl
set_option maxRecDepth 20000 in
theorem winstanceMethod_yX4_outcome : Cond.instanceMethod yX4_outcome ∈ gU := gmU (gt4 _ (List.mem_of_getElem? (i := 100) rfl)) rfl
set_option maxRecDepth 20000 in
theorem ws_yX4_outcome : Cond.selects yX4_outcome.cls yX4_outcome yX4_outcome ∈ gU := gmU (gt4 _ (List.mem_of_getElem? (i := 101) rfl)) rfl
set_option maxRecDepth 20000 in
theorem wc_yX4_outcome : Cond.code yX4_outcome cX4_outcome 5 (some .int) ∈ gU := gmU (gt4 _ (List.mem_of_getElem? (i := 102) rfl)) rfl
set_option maxRecDepth 20000 in
theorem wstatic_yX4_join : Cond.static yX4_join ∈ gU := gmU (gt4 _ (List.mem_of_getElem? (i := 104) rfl)) rfl
set_option maxRecDepth 20000 in
theorem wc_yX4_join : Cond.code yX4_join cX4_join 3 (some .int) ∈ gU := gmU (gt4 _ (List.mem_of_getElem? (i := 105) rfl)) rfl
set_option maxRecDepth 20000 in
theorem winstanceMethod_yX5_clear : Cond.instanceMethod yX5_clear ∈ gU := gmU (gt3 _ (List.mem_of_getElem? (i := 215) rfl)) rfl
set_option maxRecDepth 20000 in
theorem ws_yX5_clear : Cond.selects yX5_clear.cls yX5_clear yX5_clear ∈ gU := gmU (gt3 _ (List.mem_of_getElem? (i := 216) rfl)) rfl
set_option maxRecDepth 20000 in
theorem wi_CommaState_Past : Cond.initialized RX5 ∈ gU := gmU (gt1 _ (List.mem_of_getElem? (i := 8) rfl)) rfl
set_option maxRecDepth 20000 in
theorem wc_yX5_clear : Cond.code yX5_clear cX5_clear 1 none ∈ gU := gmU (gt3 _ (List.mem_of_getElem? (i := 217) rfl)) rfl
set_option maxRecDepth 20000 in
theorem winstanceMethod_yX5_keepWork : Cond.instanceMethod yX5_keepWork ∈ gU := gmU (gt4 _ (List.mem_of_getElem? (i := 38) rfl)) rfl
set_option maxRecDepth 20000 in
theorem ws_yX5_keepWork : Cond.selects yX5_keepWork.cls yX5_keepWork yX5_keepWork ∈ gU := gmU (gt4 _ (List.mem_of_getElem? (i := 39) rfl)) rfl
set_option maxRecDepth 20000 in
theorem wc_yX5_keepWork : Cond.code yX5_keepWork cX5_keepWork 2 none ∈ gU := gmU (gt4 _ (List.mem_of_getElem? (i := 40) rfl)) rfl
set_option maxRecDepth 20000 in
theorem winstanceMethod_yX5_takeWork : Cond.instanceMethod yX5_takeWork ∈ gU := gmU (gt2 _ (List.mem_of_getElem? (i := 151) rfl)) rfl
set_option maxRecDepth 20000 in
theorem ws_yX5_takeWork : Cond.selects yX5_takeWork.cls yX5_takeWork yX5_takeWork ∈ gU := gmU (gt2 _ (List.mem_of_getElem? (i := 152) rfl)) rfl
set_option maxRecDepth 20000 in
theorem wc_yX5_takeWork : Cond.code yX5_takeWork cX5_takeWork 2 none ∈ gU := gmU (gt2 _ (List.mem_of_getElem? (i := 153) rfl)) rfl
set_option maxRecDepth 20000 in
theorem winstanceMethod_yX5_keepImage : Cond.instanceMethod yX5_keepImage ∈ gU := gmU (gt2 _ (List.mem_of_getElem? (i := 211) rfl)) rfl
set_option maxRecDepth 20000 in
theorem ws_yX5_keepImage : Cond.selects yX5_keepImage.cls yX5_keepImage yX5_keepImage ∈ gU := gmU (gt2 _ (List.mem_of_getElem? (i := 212) rfl)) rfl
set_option maxRecDepth 20000 in
theorem wc_yX5_keepImage : Cond.code yX5_keepImage cX5_keepImage 3 none ∈ gU := gmU (gt2 _ (List.mem_of_getElem? (i := 213) rfl)) rfl
set_option maxRecDepth 20000 in
theorem winstanceMethod_yX5_takeImage : Cond.instanceMethod yX5_takeImage ∈ gU := gmU (gt2 _ (List.mem_of_getElem? (i := 226) rfl)) rfl
set_option maxRecDepth 20000 in
theorem ws_yX5_takeImage : Cond.selects yX5_takeImage.cls yX5_takeImage yX5_takeImage ∈ gU := gmU (gt2 _ (List.mem_of_getElem? (i := 227) rfl)) rfl
set_option maxRecDepth 20000 in
theorem wc_yX5_takeImage : Cond.code yX5_takeImage cX5_takeImage 3 none ∈ gU := gmU (gt2 _ (List.mem_of_getElem? (i := 228) rfl)) rfl
set_option maxRecDepth 20000 in
theorem winstanceMethod_yX6_nearestToHalf : Cond.instanceMethod yX6_nearestToHalf ∈ gU := gmU (gt5 _ (List.mem_of_getElem? (i := 182) rfl)) rfl
set_option maxRecDepth 20000 in
theorem ws_yX6_nearestToHalf : Cond.selects yX6_nearestToHalf.cls yX6_nearestToHalf yX6_nearestToHalf ∈ gU := gmU (gt5 _ (List.mem_of_getElem? (i := 183) rfl)) rfl
set_option maxRecDepth 20000 in
theorem wi_CommaState_Polls : Cond.initialized RX6 ∈ gU := gmU (gt1 _ (List.mem_of_getElem? (i := 9) rfl)) rfl
set_option maxRecDepth 20000 in
theorem wc_yX6_nearestToHalf : Cond.code yX6_nearestToHalf cX6_nearestToHalf 5 (some .int) ∈ gU := gmU (gt5 _ (List.mem_of_getElem? (i := 184) rfl)) rfl
set_option maxRecDepth 20000 in
theorem winstanceMethod_yX6_farthestFromHalf : Cond.instanceMethod yX6_farthestFromHalf ∈ gU := gmU (gt5 _ (List.mem_of_getElem? (i := 201) rfl)) rfl
set_option maxRecDepth 20000 in
theorem ws_yX6_farthestFromHalf : Cond.selects yX6_farthestFromHalf.cls yX6_farthestFromHalf yX6_farthestFromHalf ∈ gU := gmU (gt5 _ (List.mem_of_getElem? (i := 202) rfl)) rfl
set_option maxRecDepth 20000 in
theorem wc_yX6_farthestFromHalf : Cond.code yX6_farthestFromHalf cX6_farthestFromHalf 5 (some .int) ∈ gU := gmU (gt5 _ (List.mem_of_getElem? (i := 203) rfl)) rfl
set_option maxRecDepth 20000 in
theorem winstanceMethod_yX6_fewestBySeat : Cond.instanceMethod yX6_fewestBySeat ∈ gU := gmU (gt5 _ (List.mem_of_getElem? (i := 239) rfl)) rfl
set_option maxRecDepth 20000 in
theorem ws_yX6_fewestBySeat : Cond.selects yX6_fewestBySeat.cls yX6_fewestBySeat yX6_fewestBySeat ∈ gU := gmU (gt6 _ (List.mem_of_getElem? (i := 0) rfl)) rfl
set_option maxRecDepth 20000 in
theorem wc_yX6_fewestBySeat : Cond.code yX6_fewestBySeat cX6_fewestBySeat 5 (some .int) ∈ gU := gmU (gt6 _ (List.mem_of_getElem? (i := 1) rfl)) rfl
set_option maxRecDepth 20000 in
theorem winstanceMethod_yX6_votersBySeat : Cond.instanceMethod yX6_votersBySeat ∈ gU := gmU (gt6 _ (List.mem_of_getElem? (i := 3) rfl)) rfl
set_option maxRecDepth 20000 in
theorem ws_yX6_votersBySeat : Cond.selects yX6_votersBySeat.cls yX6_votersBySeat yX6_votersBySeat ∈ gU := gmU (gt6 _ (List.mem_of_getElem? (i := 4) rfl)) rfl
set_option maxRecDepth 20000 in
theorem wc_yX6_votersBySeat : Cond.code yX6_votersBySeat cX6_votersBySeat 5 (some .int) ∈ gU := gmU (gt6 _ (List.mem_of_getElem? (i := 5) rfl)) rfl
set_option maxRecDepth 20000 in
theorem winstanceMethod_yX6_cheapestTurn : Cond.instanceMethod yX6_cheapestTurn ∈ gU := gmU (gt5 _ (List.mem_of_getElem? (i := 16) rfl)) rfl
set_option maxRecDepth 20000 in
theorem ws_yX6_cheapestTurn : Cond.selects yX6_cheapestTurn.cls yX6_cheapestTurn yX6_cheapestTurn ∈ gU := gmU (gt5 _ (List.mem_of_getElem? (i := 17) rfl)) rfl
set_option maxRecDepth 20000 in
theorem wc_yX6_cheapestTurn : Cond.code yX6_cheapestTurn cX6_cheapestTurn 11 (some .int) ∈ gU := gmU (gt5 _ (List.mem_of_getElem? (i := 18) rfl)) rfl
set_option maxRecDepth 20000 in
theorem winstanceMethod_yX6_turnCost : Cond.instanceMethod yX6_turnCost ∈ gU := gmU (gt5 _ (List.mem_of_getElem? (i := 23) rfl)) rfl
set_option maxRecDepth 20000 in
theorem ws_yX6_turnCost : Cond.selects yX6_turnCost.cls yX6_turnCost yX6_turnCost ∈ gU := gmU (gt5 _ (List.mem_of_getElem? (i := 24) rfl)) rfl
set_option maxRecDepth 20000 in
theorem wc_yX6_turnCost : Cond.code yX6_turnCost cX6_turnCost 9 (some .int) ∈ gU := gmU (gt5 _ (List.mem_of_getElem? (i := 25) rfl)) rfl
set_option maxRecDepth 20000 in
theorem winstanceMethod_yX6_swingSets : Cond.instanceMethod yX6_swingSets ∈ gU := gmU (gt5 _ (List.mem_of_getElem? (i := 35) rfl)) rfl
set_option maxRecDepth 20000 in
theorem ws_yX6_swingSets : Cond.selects yX6_swingSets.cls yX6_swingSets yX6_swingSets ∈ gU := gmU (gt5 _ (List.mem_of_getElem? (i := 36) rfl)) rfl
set_option maxRecDepth 20000 in
theorem wc_yX6_swingSets : Cond.code yX6_swingSets cX6_swingSets 8 (some .int) ∈ gU := gmU (gt5 _ (List.mem_of_getElem? (i := 37) rfl)) rfl
set_option maxRecDepth 20000 in
theorem winstanceMethod_yX6_giveSeats : Cond.instanceMethod yX6_giveSeats ∈ gU := gmU (gt5 _ (List.mem_of_getElem? (i := 47) rfl)) rfl
set_option maxRecDepth 20000 in
theorem ws_yX6_giveSeats : Cond.selects yX6_giveSeats.cls yX6_giveSeats yX6_giveSeats ∈ gU := gmU (gt5 _ (List.mem_of_getElem? (i := 48) rfl)) rfl
set_option maxRecDepth 20000 in
theorem wc_yX6_giveSeats : Cond.code yX6_giveSeats cX6_giveSeats 9 none ∈ gU := gmU (gt5 _ (List.mem_of_getElem? (i := 49) rfl)) rfl
set_option maxRecDepth 20000 in
theorem winstanceMethod_yX6_hearBoth : Cond.instanceMethod yX6_hearBoth ∈ gU := gmU (gt5 _ (List.mem_of_getElem? (i := 141) rfl)) rfl
set_option maxRecDepth 20000 in
theorem ws_yX6_hearBoth : Cond.selects yX6_hearBoth.cls yX6_hearBoth yX6_hearBoth ∈ gU := gmU (gt5 _ (List.mem_of_getElem? (i := 142) rfl)) rfl
set_option maxRecDepth 20000 in
theorem wc_yX6_hearBoth : Cond.code yX6_hearBoth cX6_hearBoth 6 none ∈ gU := gmU (gt5 _ (List.mem_of_getElem? (i := 143) rfl)) rfl
set_option maxRecDepth 20000 in
theorem winstanceMethod_yX6_noteRest : Cond.instanceMethod yX6_noteRest ∈ gU := gmU (gt5 _ (List.mem_of_getElem? (i := 155) rfl)) rfl
set_option maxRecDepth 20000 in
theorem ws_yX6_noteRest : Cond.selects yX6_noteRest.cls yX6_noteRest yX6_noteRest ∈ gU := gmU (gt5 _ (List.mem_of_getElem? (i := 156) rfl)) rfl
set_option maxRecDepth 20000 in
theorem wc_yX6_noteRest : Cond.code yX6_noteRest cX6_noteRest 3 none ∈ gU := gmU (gt5 _ (List.mem_of_getElem? (i := 157) rfl)) rfl
set_option maxRecDepth 20000 in
theorem winstanceMethod_yX6_paid : Cond.instanceMethod yX6_paid ∈ gU := gmU (gt5 _ (List.mem_of_getElem? (i := 145) rfl)) rfl
set_option maxRecDepth 20000 in
theorem ws_yX6_paid : Cond.selects yX6_paid.cls yX6_paid yX6_paid ∈ gU := gmU (gt5 _ (List.mem_of_getElem? (i := 146) rfl)) rfl
set_option maxRecDepth 20000 in
theorem wc_yX6_paid : Cond.code yX6_paid cX6_paid 11 (some .int) ∈ gU := gmU (gt5 _ (List.mem_of_getElem? (i := 147) rfl)) rfl
set_option maxRecDepth 20000 in
theorem winstanceMethod_yX6_isRest : Cond.instanceMethod yX6_isRest ∈ gU := gmU (gt5 _ (List.mem_of_getElem? (i := 151) rfl)) rfl
set_option maxRecDepth 20000 in
theorem ws_yX6_isRest : Cond.selects yX6_isRest.cls yX6_isRest yX6_isRest ∈ gU := gmU (gt5 _ (List.mem_of_getElem? (i := 152) rfl)) rfl
set_option maxRecDepth 20000 in
theorem wc_yX6_isRest : Cond.code yX6_isRest cX6_isRest 7 (some .boolean) ∈ gU := gmU (gt5 _ (List.mem_of_getElem? (i := 153) rfl)) rfl
set_option maxRecDepth 20000 in
theorem winstanceMethod_yX6_breadBound : Cond.instanceMethod yX6_breadBound ∈ gU := gmU (gt5 _ (List.mem_of_getElem? (i := 166) rfl)) rfl
set_option maxRecDepth 20000 in
theorem ws_yX6_breadBound : Cond.selects yX6_breadBound.cls yX6_breadBound yX6_breadBound ∈ gU := gmU (gt5 _ (List.mem_of_getElem? (i := 167) rfl)) rfl
set_option maxRecDepth 20000 in
theorem wc_yX6_breadBound : Cond.code yX6_breadBound cX6_breadBound 7 (some .int) ∈ gU := gmU (gt5 _ (List.mem_of_getElem? (i := 168) rfl)) rfl
set_option maxRecDepth 20000 in
theorem winstanceMethod_yX6_breadGiven : Cond.instanceMethod yX6_breadGiven ∈ gU := gmU (gt5 _ (List.mem_of_getElem? (i := 170) rfl)) rfl
set_option maxRecDepth 20000 in
theorem ws_yX6_breadGiven : Cond.selects yX6_breadGiven.cls yX6_breadGiven yX6_breadGiven ∈ gU := gmU (gt5 _ (List.mem_of_getElem? (i := 171) rfl)) rfl
set_option maxRecDepth 20000 in
theorem wc_yX6_breadGiven : Cond.code yX6_breadGiven cX6_breadGiven 7 (some .int) ∈ gU := gmU (gt5 _ (List.mem_of_getElem? (i := 172) rfl)) rfl
set_option maxRecDepth 20000 in
theorem wstatic_yX6_choose : Cond.static yX6_choose ∈ gU := gmU (gt5 _ (List.mem_of_getElem? (i := 112) rfl)) rfl
set_option maxRecDepth 20000 in
theorem wc_yX6_choose : Cond.code yX6_choose cX6_choose 5 (some .long) ∈ gU := gmU (gt5 _ (List.mem_of_getElem? (i := 113) rfl)) rfl
set_option maxRecDepth 20000 in
theorem wstatic_yX6_power : Cond.static yX6_power ∈ gU := gmU (gt5 _ (List.mem_of_getElem? (i := 126) rfl)) rfl
set_option maxRecDepth 20000 in
theorem wc_yX6_power : Cond.code yX6_power cX6_power 6 (some .long) ∈ gU := gmU (gt5 _ (List.mem_of_getElem? (i := 127) rfl)) rfl
set_option maxRecDepth 20000 in
theorem wstatic_yX6_waysForMost : Cond.static yX6_waysForMost ∈ gU := gmU (gt5 _ (List.mem_of_getElem? (i := 122) rfl)) rfl
set_option maxRecDepth 20000 in
theorem wc_yX6_waysForMost : Cond.code yX6_waysForMost cX6_waysForMost 5 (some .long) ∈ gU := gmU (gt5 _ (List.mem_of_getElem? (i := 123) rfl)) rfl
set_option maxRecDepth 20000 in
theorem wstatic_yX6_commonDivisor : Cond.static yX6_commonDivisor ∈ gU := gmU (gt5 _ (List.mem_of_getElem? (i := 131) rfl)) rfl
set_option maxRecDepth 20000 in
theorem wc_yX6_commonDivisor : Cond.code yX6_commonDivisor cX6_commonDivisor 11 (some .long) ∈ gU := gmU (gt5 _ (List.mem_of_getElem? (i := 132) rfl)) rfl
set_option maxRecDepth 20000 in
theorem winstanceMethod_yX7_put : Cond.instanceMethod yX7_put ∈ gU := gmU (gt2 _ (List.mem_of_getElem? (i := 139) rfl)) rfl
set_option maxRecDepth 20000 in
theorem ws_yX7_put : Cond.selects yX7_put.cls yX7_put yX7_put ∈ gU := gmU (gt2 _ (List.mem_of_getElem? (i := 140) rfl)) rfl
set_option maxRecDepth 20000 in
theorem wi_CommaState_Tape : Cond.initialized RX7 ∈ gU := gmU (gt1 _ (List.mem_of_getElem? (i := 2) rfl)) rfl
set_option maxRecDepth 20000 in
theorem wc_yX7_put : Cond.code yX7_put cX7_put 3 none ∈ gU := gmU (gt2 _ (List.mem_of_getElem? (i := 141) rfl)) rfl
set_option maxRecDepth 20000 in
theorem winstanceMethod_yX7_drop : Cond.instanceMethod yX7_drop ∈ gU := gmU (gt3 _ (List.mem_of_getElem? (i := 92) rfl)) rfl
set_option maxRecDepth 20000 in
theorem ws_yX7_drop : Cond.selects yX7_drop.cls yX7_drop yX7_drop ∈ gU := gmU (gt3 _ (List.mem_of_getElem? (i := 93) rfl)) rfl
set_option maxRecDepth 20000 in
theorem wc_yX7_drop : Cond.code yX7_drop cX7_drop 1 none ∈ gU := gmU (gt3 _ (List.mem_of_getElem? (i := 94) rfl)) rfl
set_option maxRecDepth 20000 in
theorem winstanceMethod_yX7_open : Cond.instanceMethod yX7_open ∈ gU := gmU (gt3 _ (List.mem_of_getElem? (i := 87) rfl)) rfl
set_option maxRecDepth 20000 in
theorem ws_yX7_open : Cond.selects yX7_open.cls yX7_open yX7_open ∈ gU := gmU (gt3 _ (List.mem_of_getElem? (i := 88) rfl)) rfl
set_option maxRecDepth 20000 in
theorem wc_yX7_open : Cond.code yX7_open cX7_open 2 none ∈ gU := gmU (gt3 _ (List.mem_of_getElem? (i := 89) rfl)) rfl
set_option maxRecDepth 20000 in
theorem winstanceMethod_yX7_sound : Cond.instanceMethod yX7_sound ∈ gU := gmU (gt3 _ (List.mem_of_getElem? (i := 109) rfl)) rfl
set_option maxRecDepth 20000 in
theorem ws_yX7_sound : Cond.selects yX7_sound.cls yX7_sound yX7_sound ∈ gU := gmU (gt3 _ (List.mem_of_getElem? (i := 110) rfl)) rfl
set_option maxRecDepth 20000 in
theorem wc_yX7_sound : Cond.code yX7_sound cX7_sound 1 (some .boolean) ∈ gU := gmU (gt3 _ (List.mem_of_getElem? (i := 111) rfl)) rfl
set_option maxRecDepth 20000 in
theorem winstanceMethod_yX7_answer : Cond.instanceMethod yX7_answer ∈ gU := gmU (gt3 _ (List.mem_of_getElem? (i := 202) rfl)) rfl
set_option maxRecDepth 20000 in
theorem ws_yX7_answer : Cond.selects yX7_answer.cls yX7_answer yX7_answer ∈ gU := gmU (gt3 _ (List.mem_of_getElem? (i := 203) rfl)) rfl
set_option maxRecDepth 20000 in
theorem wc_yX7_answer : Cond.code yX7_answer cX7_answer 1 (some .int) ∈ gU := gmU (gt3 _ (List.mem_of_getElem? (i := 204) rfl)) rfl
set_option maxRecDepth 20000 in
theorem winstanceMethod_yX7_fail : Cond.instanceMethod yX7_fail ∈ gU := gmU (gt3 _ (List.mem_of_getElem? (i := 170) rfl)) rfl
set_option maxRecDepth 20000 in
theorem ws_yX7_fail : Cond.selects yX7_fail.cls yX7_fail yX7_fail ∈ gU := gmU (gt3 _ (List.mem_of_getElem? (i := 171) rfl)) rfl
set_option maxRecDepth 20000 in
theorem wc_yX7_fail : Cond.code yX7_fail cX7_fail 2 none ∈ gU := gmU (gt3 _ (List.mem_of_getElem? (i := 172) rfl)) rfl
set_option maxRecDepth 20000 in
theorem winstanceMethod_yX7_advance : Cond.instanceMethod yX7_advance ∈ gU := gmU (gt3 _ (List.mem_of_getElem? (i := 96) rfl)) rfl
set_option maxRecDepth 20000 in
theorem ws_yX7_advance : Cond.selects yX7_advance.cls yX7_advance yX7_advance ∈ gU := gmU (gt3 _ (List.mem_of_getElem? (i := 97) rfl)) rfl
set_option maxRecDepth 20000 in
theorem wc_yX7_advance : Cond.code yX7_advance cX7_advance 1 none ∈ gU := gmU (gt3 _ (List.mem_of_getElem? (i := 98) rfl)) rfl
set_option maxRecDepth 20000 in
theorem winstanceMethod_yX7_atSign : Cond.instanceMethod yX7_atSign ∈ gU := gmU (gt3 _ (List.mem_of_getElem? (i := 197) rfl)) rfl
set_option maxRecDepth 20000 in
theorem ws_yX7_atSign : Cond.selects yX7_atSign.cls yX7_atSign yX7_atSign ∈ gU := gmU (gt3 _ (List.mem_of_getElem? (i := 198) rfl)) rfl
set_option maxRecDepth 20000 in
theorem wc_yX7_atSign : Cond.code yX7_atSign cX7_atSign 2 (some .boolean) ∈ gU := gmU (gt3 _ (List.mem_of_getElem? (i := 199) rfl)) rfl
set_option maxRecDepth 20000 in
theorem winstanceMethod_yX7_sign : Cond.instanceMethod yX7_sign ∈ gU := gmU (gt3 _ (List.mem_of_getElem? (i := 193) rfl)) rfl
set_option maxRecDepth 20000 in
theorem ws_yX7_sign : Cond.selects yX7_sign.cls yX7_sign yX7_sign ∈ gU := gmU (gt3 _ (List.mem_of_getElem? (i := 194) rfl)) rfl
set_option maxRecDepth 20000 in
theorem wc_yX7_sign : Cond.code yX7_sign cX7_sign 2 none ∈ gU := gmU (gt3 _ (List.mem_of_getElem? (i := 195) rfl)) rfl
set_option maxRecDepth 20000 in
theorem winstanceMethod_yX7_numberHere : Cond.instanceMethod yX7_numberHere ∈ gU := gmU (gt3 _ (List.mem_of_getElem? (i := 184) rfl)) rfl
set_option maxRecDepth 20000 in
theorem ws_yX7_numberHere : Cond.selects yX7_numberHere.cls yX7_numberHere yX7_numberHere ∈ gU := gmU (gt3 _ (List.mem_of_getElem? (i := 185) rfl)) rfl
set_option maxRecDepth 20000 in
theorem wc_yX7_numberHere : Cond.code yX7_numberHere cX7_numberHere 3 (some .int) ∈ gU := gmU (gt3 _ (List.mem_of_getElem? (i := 186) rfl)) rfl
set_option maxRecDepth 20000 in
theorem winstanceMethod_yX7_number : Cond.instanceMethod yX7_number ∈ gU := gmU (gt3 _ (List.mem_of_getElem? (i := 180) rfl)) rfl
set_option maxRecDepth 20000 in
theorem ws_yX7_number : Cond.selects yX7_number.cls yX7_number yX7_number ∈ gU := gmU (gt3 _ (List.mem_of_getElem? (i := 181) rfl)) rfl
set_option maxRecDepth 20000 in
theorem wc_yX7_number : Cond.code yX7_number cX7_number 4 (some .int) ∈ gU := gmU (gt3 _ (List.mem_of_getElem? (i := 182) rfl)) rfl
set_option maxRecDepth 20000 in
theorem winstanceMethod_yX7_wordHere : Cond.instanceMethod yX7_wordHere ∈ gU := gmU (gt3 _ (List.mem_of_getElem? (i := 118) rfl)) rfl
set_option maxRecDepth 20000 in
theorem ws_yX7_wordHere : Cond.selects yX7_wordHere.cls yX7_wordHere yX7_wordHere ∈ gU := gmU (gt3 _ (List.mem_of_getElem? (i := 119) rfl)) rfl
set_option maxRecDepth 20000 in
theorem wc_yX7_wordHere : Cond.code yX7_wordHere cX7_wordHere 7 (some .int) ∈ gU := gmU (gt3 _ (List.mem_of_getElem? (i := 120) rfl)) rfl
set_option maxRecDepth 20000 in
theorem winstanceMethod_yX8_clear : Cond.instanceMethod yX8_clear ∈ gU := gmU (gt3 _ (List.mem_of_getElem? (i := 101) rfl)) rfl
set_option maxRecDepth 20000 in
theorem ws_yX8_clear : Cond.selects yX8_clear.cls yX8_clear yX8_clear ∈ gU := gmU (gt3 _ (List.mem_of_getElem? (i := 102) rfl)) rfl
set_option maxRecDepth 20000 in
theorem wi_CommaState_World : Cond.initialized RX8 ∈ gU := gmU (gt1 _ (List.mem_of_getElem? (i := 4) rfl)) rfl
set_option maxRecDepth 20000 in
theorem wc_yX8_clear : Cond.code yX8_clear cX8_clear 1 none ∈ gU := gmU (gt3 _ (List.mem_of_getElem? (i := 103) rfl)) rfl
set_option maxRecDepth 20000 in
theorem winstanceMethod_yX8_copy : Cond.instanceMethod yX8_copy ∈ gU := gmU (gt3 _ (List.mem_of_getElem? (i := 206) rfl)) rfl
set_option maxRecDepth 20000 in
theorem ws_yX8_copy : Cond.selects yX8_copy.cls yX8_copy yX8_copy ∈ gU := gmU (gt3 _ (List.mem_of_getElem? (i := 207) rfl)) rfl
set_option maxRecDepth 20000 in
theorem wc_yX8_copy : Cond.code yX8_copy cX8_copy 3 none ∈ gU := gmU (gt3 _ (List.mem_of_getElem? (i := 208) rfl)) rfl
set_option maxRecDepth 20000 in
theorem winstanceMethod_yX8_save : Cond.instanceMethod yX8_save ∈ gU := gmU (gt2 _ (List.mem_of_getElem? (i := 215) rfl)) rfl
set_option maxRecDepth 20000 in
theorem ws_yX8_save : Cond.selects yX8_save.cls yX8_save yX8_save ∈ gU := gmU (gt2 _ (List.mem_of_getElem? (i := 216) rfl)) rfl
set_option maxRecDepth 20000 in
theorem wc_yX8_save : Cond.code yX8_save cX8_save 4 none ∈ gU := gmU (gt2 _ (List.mem_of_getElem? (i := 217) rfl)) rfl
set_option maxRecDepth 20000 in
theorem winstanceMethod_yX8_load : Cond.instanceMethod yX8_load ∈ gU := gmU (gt2 _ (List.mem_of_getElem? (i := 155) rfl)) rfl
set_option maxRecDepth 20000 in
theorem ws_yX8_load : Cond.selects yX8_load.cls yX8_load yX8_load ∈ gU := gmU (gt2 _ (List.mem_of_getElem? (i := 156) rfl)) rfl
set_option maxRecDepth 20000 in
theorem wc_yX8_load : Cond.code yX8_load cX8_load 4 none ∈ gU := gmU (gt2 _ (List.mem_of_getElem? (i := 157) rfl)) rfl
set_option maxRecDepth 20000 in
theorem wstatic_yX8_sideBy : Cond.static yX8_sideBy ∈ gU := gmU (gt2 _ (List.mem_of_getElem? (i := 175) rfl)) rfl
set_option maxRecDepth 20000 in
theorem wc_yX8_sideBy : Cond.code yX8_sideBy cX8_sideBy 2 (some .int) ∈ gU := gmU (gt2 _ (List.mem_of_getElem? (i := 176) rfl)) rfl
set_option maxRecDepth 20000 in
theorem winstanceMethod_yX8_side : Cond.instanceMethod yX8_side ∈ gU := gmU (gt2 _ (List.mem_of_getElem? (i := 171) rfl)) rfl
set_option maxRecDepth 20000 in
theorem ws_yX8_side : Cond.selects yX8_side.cls yX8_side yX8_side ∈ gU := gmU (gt2 _ (List.mem_of_getElem? (i := 172) rfl)) rfl
set_option maxRecDepth 20000 in
theorem wc_yX8_side : Cond.code yX8_side cX8_side 2 (some .int) ∈ gU := gmU (gt2 _ (List.mem_of_getElem? (i := 173) rfl)) rfl
set_option maxRecDepth 20000 in
theorem winstanceMethod_yX8_shifted : Cond.instanceMethod yX8_shifted ∈ gU := gmU (gt4 _ (List.mem_of_getElem? (i := 109) rfl)) rfl
set_option maxRecDepth 20000 in
theorem ws_yX8_shifted : Cond.selects yX8_shifted.cls yX8_shifted yX8_shifted ∈ gU := gmU (gt4 _ (List.mem_of_getElem? (i := 110) rfl)) rfl
set_option maxRecDepth 20000 in
theorem wc_yX8_shifted : Cond.code yX8_shifted cX8_shifted 3 (some .int) ∈ gU := gmU (gt4 _ (List.mem_of_getElem? (i := 111) rfl)) rfl
set_option maxRecDepth 20000 in
theorem winstanceMethod_yX8_apart : Cond.instanceMethod yX8_apart ∈ gU := gmU (gt5 _ (List.mem_of_getElem? (i := 186) rfl)) rfl
set_option maxRecDepth 20000 in
theorem ws_yX8_apart : Cond.selects yX8_apart.cls yX8_apart yX8_apart ∈ gU := gmU (gt5 _ (List.mem_of_getElem? (i := 187) rfl)) rfl
set_option maxRecDepth 20000 in
theorem wc_yX8_apart : Cond.code yX8_apart cX8_apart 2 (some .int) ∈ gU := gmU (gt5 _ (List.mem_of_getElem? (i := 188) rfl)) rfl
set_option maxRecDepth 20000 in
theorem winstanceMethod_yX8_parted : Cond.instanceMethod yX8_parted ∈ gU := gmU (gt4 _ (List.mem_of_getElem? (i := 88) rfl)) rfl
set_option maxRecDepth 20000 in
theorem ws_yX8_parted : Cond.selects yX8_parted.cls yX8_parted yX8_parted ∈ gU := gmU (gt4 _ (List.mem_of_getElem? (i := 89) rfl)) rfl
set_option maxRecDepth 20000 in
theorem wc_yX8_parted : Cond.code yX8_parted cX8_parted 2 (some .int) ∈ gU := gmU (gt4 _ (List.mem_of_getElem? (i := 90) rfl)) rfl
set_option maxRecDepth 20000 in
theorem winstanceMethod_yX8_sideBits : Cond.instanceMethod yX8_sideBits ∈ gU := gmU (gt2 _ (List.mem_of_getElem? (i := 167) rfl)) rfl
set_option maxRecDepth 20000 in
theorem ws_yX8_sideBits : Cond.selects yX8_sideBits.cls yX8_sideBits yX8_sideBits ∈ gU := gmU (gt2 _ (List.mem_of_getElem? (i := 168) rfl)) rfl
set_option maxRecDepth 20000 in
theorem wc_yX8_sideBits : Cond.code yX8_sideBits cX8_sideBits 5 (some .int) ∈ gU := gmU (gt2 _ (List.mem_of_getElem? (i := 169) rfl)) rfl
set_option maxRecDepth 20000 in
theorem winstanceMethod_yX8_seatsOf : Cond.instanceMethod yX8_seatsOf ∈ gU := gmU (gt2 _ (List.mem_of_getElem? (i := 163) rfl)) rfl
set_option maxRecDepth 20000 in
theorem ws_yX8_seatsOf : Cond.selects yX8_seatsOf.cls yX8_seatsOf yX8_seatsOf ∈ gU := gmU (gt2 _ (List.mem_of_getElem? (i := 164) rfl)) rfl
set_option maxRecDepth 20000 in
theorem wc_yX8_seatsOf : Cond.code yX8_seatsOf cX8_seatsOf 3 (some .int) ∈ gU := gmU (gt2 _ (List.mem_of_getElem? (i := 165) rfl)) rfl
set_option maxRecDepth 20000 in
theorem winstanceMethod_yX8_allVoters : Cond.instanceMethod yX8_allVoters ∈ gU := gmU (gt4 _ (List.mem_of_getElem? (i := 153) rfl)) rfl
set_option maxRecDepth 20000 in
theorem ws_yX8_allVoters : Cond.selects yX8_allVoters.cls yX8_allVoters yX8_allVoters ∈ gU := gmU (gt4 _ (List.mem_of_getElem? (i := 154) rfl)) rfl
set_option maxRecDepth 20000 in
theorem wc_yX8_allVoters : Cond.code yX8_allVoters cX8_allVoters 4 (some .int) ∈ gU := gmU (gt4 _ (List.mem_of_getElem? (i := 155) rfl)) rfl
set_option maxRecDepth 20000 in
theorem winstanceMethod_yX8_allBreathe : Cond.instanceMethod yX8_allBreathe ∈ gU := gmU (gt4 _ (List.mem_of_getElem? (i := 157) rfl)) rfl
set_option maxRecDepth 20000 in
theorem ws_yX8_allBreathe : Cond.selects yX8_allBreathe.cls yX8_allBreathe yX8_allBreathe ∈ gU := gmU (gt4 _ (List.mem_of_getElem? (i := 158) rfl)) rfl
set_option maxRecDepth 20000 in
theorem wc_yX8_allBreathe : Cond.code yX8_allBreathe cX8_allBreathe 4 (some .int) ∈ gU := gmU (gt4 _ (List.mem_of_getElem? (i := 159) rfl)) rfl
set_option maxRecDepth 20000 in
theorem winstanceMethod_yX8_sway : Cond.instanceMethod yX8_sway ∈ gU := gmU (gt4 _ (List.mem_of_getElem? (i := 200) rfl)) rfl
set_option maxRecDepth 20000 in
theorem ws_yX8_sway : Cond.selects yX8_sway.cls yX8_sway yX8_sway ∈ gU := gmU (gt4 _ (List.mem_of_getElem? (i := 201) rfl)) rfl
set_option maxRecDepth 20000 in
theorem wc_yX8_sway : Cond.code yX8_sway cX8_sway 4 (some .int) ∈ gU := gmU (gt4 _ (List.mem_of_getElem? (i := 202) rfl)) rfl
set_option maxRecDepth 20000 in
theorem winstanceMethod_yX8_swayBy : Cond.instanceMethod yX8_swayBy ∈ gU := gmU (gt4 _ (List.mem_of_getElem? (i := 78) rfl)) rfl
set_option maxRecDepth 20000 in
theorem ws_yX8_swayBy : Cond.selects yX8_swayBy.cls yX8_swayBy yX8_swayBy ∈ gU := gmU (gt4 _ (List.mem_of_getElem? (i := 79) rfl)) rfl
set_option maxRecDepth 20000 in
theorem wc_yX8_swayBy : Cond.code yX8_swayBy cX8_swayBy 6 (some .int) ∈ gU := gmU (gt4 _ (List.mem_of_getElem? (i := 80) rfl)) rfl
set_option maxRecDepth 20000 in
theorem winstanceMethod_yX8_holdVote : Cond.instanceMethod yX8_holdVote ∈ gU := gmU (gt4 _ (List.mem_of_getElem? (i := 74) rfl)) rfl
set_option maxRecDepth 20000 in
theorem ws_yX8_holdVote : Cond.selects yX8_holdVote.cls yX8_holdVote yX8_holdVote ∈ gU := gmU (gt4 _ (List.mem_of_getElem? (i := 75) rfl)) rfl
set_option maxRecDepth 20000 in
theorem wc_yX8_holdVote : Cond.code yX8_holdVote cX8_holdVote 5 none ∈ gU := gmU (gt4 _ (List.mem_of_getElem? (i := 76) rfl)) rfl
set_option maxRecDepth 20000 in
theorem winstanceMethod_yX8_mostMovable : Cond.instanceMethod yX8_mostMovable ∈ gU := gmU (gt4 _ (List.mem_of_getElem? (i := 62) rfl)) rfl
set_option maxRecDepth 20000 in
theorem ws_yX8_mostMovable : Cond.selects yX8_mostMovable.cls yX8_mostMovable yX8_mostMovable ∈ gU := gmU (gt4 _ (List.mem_of_getElem? (i := 63) rfl)) rfl
set_option maxRecDepth 20000 in
theorem wc_yX8_mostMovable : Cond.code yX8_mostMovable cX8_mostMovable 5 (some .int) ∈ gU := gmU (gt4 _ (List.mem_of_getElem? (i := 64) rfl)) rfl
set_option maxRecDepth 20000 in
theorem winstanceMethod_yX8_movable : Cond.instanceMethod yX8_movable ∈ gU := gmU (gt4 _ (List.mem_of_getElem? (i := 58) rfl)) rfl
set_option maxRecDepth 20000 in
theorem ws_yX8_movable : Cond.selects yX8_movable.cls yX8_movable yX8_movable ∈ gU := gmU (gt4 _ (List.mem_of_getElem? (i := 59) rfl)) rfl
set_option maxRecDepth 20000 in
theorem wc_yX8_movable : Cond.code yX8_movable cX8_movable 4 (some .boolean) ∈ gU := gmU (gt4 _ (List.mem_of_getElem? (i := 60) rfl)) rfl
set_option maxRecDepth 20000 in
theorem winstanceMethod_yX8_move : Cond.instanceMethod yX8_move ∈ gU := gmU (gt4 _ (List.mem_of_getElem? (i := 54) rfl)) rfl
set_option maxRecDepth 20000 in
theorem ws_yX8_move : Cond.selects yX8_move.cls yX8_move yX8_move ∈ gU := gmU (gt4 _ (List.mem_of_getElem? (i := 55) rfl)) rfl
set_option maxRecDepth 20000 in
theorem wc_yX8_move : Cond.code yX8_move cX8_move 4 (some .boolean) ∈ gU := gmU (gt4 _ (List.mem_of_getElem? (i := 56) rfl)) rfl
set_option maxRecDepth 20000 in
theorem winstanceMethod_yX8_nextYear : Cond.instanceMethod yX8_nextYear ∈ gU := gmU (gt4 _ (List.mem_of_getElem? (i := 114) rfl)) rfl
set_option maxRecDepth 20000 in
theorem ws_yX8_nextYear : Cond.selects yX8_nextYear.cls yX8_nextYear yX8_nextYear ∈ gU := gmU (gt4 _ (List.mem_of_getElem? (i := 115) rfl)) rfl
set_option maxRecDepth 20000 in
theorem wc_yX8_nextYear : Cond.code yX8_nextYear cX8_nextYear 1 (some .boolean) ∈ gU := gmU (gt4 _ (List.mem_of_getElem? (i := 116) rfl)) rfl
set_option maxRecDepth 20000 in
theorem winstanceMethod_yX8_flip : Cond.instanceMethod yX8_flip ∈ gU := gmU (gt4 _ (List.mem_of_getElem? (i := 70) rfl)) rfl
set_option maxRecDepth 20000 in
theorem ws_yX8_flip : Cond.selects yX8_flip.cls yX8_flip yX8_flip ∈ gU := gmU (gt4 _ (List.mem_of_getElem? (i := 71) rfl)) rfl
set_option maxRecDepth 20000 in
theorem wc_yX8_flip : Cond.code yX8_flip cX8_flip 1 none ∈ gU := gmU (gt4 _ (List.mem_of_getElem? (i := 72) rfl)) rfl
set_option maxRecDepth 20000 in
theorem wstatic_yX9_within : Cond.static yX9_within ∈ gU := gmU (gt3 _ (List.mem_of_getElem? (i := 13) rfl)) rfl
set_option maxRecDepth 20000 in
theorem wi_CommaState : Cond.initialized RX9 ∈ gU := gmU (gt1 _ (List.mem_of_getElem? (i := 1) rfl)) rfl
set_option maxRecDepth 20000 in
theorem wc_yX9_within : Cond.code yX9_within cX9_within 3 (some .boolean) ∈ gU := gmU (gt3 _ (List.mem_of_getElem? (i := 14) rfl)) rfl
set_option maxRecDepth 20000 in
theorem winstanceMethod_yX9_need : Cond.instanceMethod yX9_need ∈ gU := gmU (gt3 _ (List.mem_of_getElem? (i := 17) rfl)) rfl
set_option maxRecDepth 20000 in
theorem ws_yX9_need : Cond.selects yX9_need.cls yX9_need yX9_need ∈ gU := gmU (gtS _ (List.mem_of_getElem? (i := 1) rfl)) rfl
set_option maxRecDepth 20000 in
theorem wc_yX9_need : Cond.code yX9_need cX9_need 2 none ∈ gU := gmU (gt3 _ (List.mem_of_getElem? (i := 18) rfl)) rfl
set_option maxRecDepth 20000 in
theorem winstanceMethod_yX9_needSuch : Cond.instanceMethod yX9_needSuch ∈ gU := gmU (gt4 _ (List.mem_of_getElem? (i := 179) rfl)) rfl
set_option maxRecDepth 20000 in
theorem ws_yX9_needSuch : Cond.selects yX9_needSuch.cls yX9_needSuch yX9_needSuch ∈ gU := gmU (gtS _ (List.mem_of_getElem? (i := 4) rfl)) rfl
set_option maxRecDepth 20000 in
theorem wc_yX9_needSuch : Cond.code yX9_needSuch cX9_needSuch 2 none ∈ gU := gmU (gt4 _ (List.mem_of_getElem? (i := 180) rfl)) rfl
set_option maxRecDepth 20000 in
theorem winstanceMethod_yX9_needTown : Cond.instanceMethod yX9_needTown ∈ gU := gmU (gt4 _ (List.mem_of_getElem? (i := 175) rfl)) rfl
set_option maxRecDepth 20000 in
theorem ws_yX9_needTown : Cond.selects yX9_needTown.cls yX9_needTown yX9_needTown ∈ gU := gmU (gtS _ (List.mem_of_getElem? (i := 3) rfl)) rfl
set_option maxRecDepth 20000 in
theorem wc_yX9_needTown : Cond.code yX9_needTown cX9_needTown 2 none ∈ gU := gmU (gt4 _ (List.mem_of_getElem? (i := 176) rfl)) rfl
set_option maxRecDepth 20000 in
theorem winstanceMethod_yX9_needText : Cond.instanceMethod yX9_needText ∈ gU := gmU (gt3 _ (List.mem_of_getElem? (i := 7) rfl)) rfl
set_option maxRecDepth 20000 in
theorem ws_yX9_needText : Cond.selects yX9_needText.cls yX9_needText yX9_needText ∈ gU := gmU (gtS _ (List.mem_of_getElem? (i := 0) rfl)) rfl
set_option maxRecDepth 20000 in
theorem wc_yX9_needText : Cond.code yX9_needText cX9_needText 3 none ∈ gU := gmU (gt3 _ (List.mem_of_getElem? (i := 8) rfl)) rfl
set_option maxRecDepth 20000 in
theorem winstanceMethod_yX10_may : Cond.instanceMethod yX10_may ∈ gU := gmU (gt6 _ (List.mem_of_getElem? (i := 235) rfl)) rfl
set_option maxRecDepth 20000 in
theorem ws_yX10_may : Cond.selects yX10_may.cls yX10_may yX10_may ∈ gU := gmU (gtS _ (List.mem_of_getElem? (i := 8) rfl)) rfl
set_option maxRecDepth 20000 in
theorem wi_CommaStateModel : Cond.initialized RX10 ∈ gU := gmU (gt1 _ (List.mem_of_getElem? (i := 11) rfl)) rfl
set_option maxRecDepth 20000 in
theorem wc_yX10_may : Cond.code yX10_may cX10_may 4 (some .boolean) ∈ gU := gmU (gt6 _ (List.mem_of_getElem? (i := 236) rfl)) rfl
set_option maxRecDepth 20000 in
theorem wstatic_yX10_within : Cond.static yX10_within ∈ gU := gmU (gt7 _ (List.mem_of_getElem? (i := 202) rfl)) rfl
set_option maxRecDepth 20000 in
theorem wc_yX10_within : Cond.code yX10_within cX10_within 3 (some .boolean) ∈ gU := gmU (gt7 _ (List.mem_of_getElem? (i := 203) rfl)) rfl
set_option maxRecDepth 20000 in
theorem winstanceMethod_yX10_fine : Cond.instanceMethod yX10_fine ∈ gU := gmU (gt7 _ (List.mem_of_getElem? (i := 3) rfl)) rfl
set_option maxRecDepth 20000 in
theorem ws_yX10_fine : Cond.selects yX10_fine.cls yX10_fine yX10_fine ∈ gU := gmU (gtS _ (List.mem_of_getElem? (i := 10) rfl)) rfl
set_option maxRecDepth 20000 in
theorem wc_yX10_fine : Cond.code yX10_fine cX10_fine 1 (some .boolean) ∈ gU := gmU (gt7 _ (List.mem_of_getElem? (i := 4) rfl)) rfl
set_option maxRecDepth 20000 in
theorem winstanceMethod_yX10_wrong : Cond.instanceMethod yX10_wrong ∈ gU := gmU (gt7 _ (List.mem_of_getElem? (i := 33) rfl)) rfl
set_option maxRecDepth 20000 in
theorem ws_yX10_wrong : Cond.selects yX10_wrong.cls yX10_wrong yX10_wrong ∈ gU := gmU (gtS _ (List.mem_of_getElem? (i := 14) rfl)) rfl
set_option maxRecDepth 20000 in
theorem wc_yX10_wrong : Cond.code yX10_wrong cX10_wrong 3 none ∈ gU := gmU (gt7 _ (List.mem_of_getElem? (i := 34) rfl)) rfl
set_option maxRecDepth 20000 in
theorem winstanceMethod_yX10_here : Cond.instanceMethod yX10_here ∈ gU := gmU (gt7 _ (List.mem_of_getElem? (i := 11) rfl)) rfl
set_option maxRecDepth 20000 in
theorem ws_yX10_here : Cond.selects yX10_here.cls yX10_here yX10_here ∈ gU := gmU (gtS _ (List.mem_of_getElem? (i := 12) rfl)) rfl
set_option maxRecDepth 20000 in
theorem wc_yX10_here : Cond.code yX10_here cX10_here 1 (some .int) ∈ gU := gmU (gt7 _ (List.mem_of_getElem? (i := 12) rfl)) rfl
set_option maxRecDepth 20000 in
theorem wstatic_yX10_isSmall : Cond.static yX10_isSmall ∈ gU := gmU (gt7 _ (List.mem_of_getElem? (i := 18) rfl)) rfl
set_option maxRecDepth 20000 in
theorem wc_yX10_isSmall : Cond.code yX10_isSmall cX10_isSmall 1 (some .boolean) ∈ gU := gmU (gt7 _ (List.mem_of_getElem? (i := 19) rfl)) rfl
set_option maxRecDepth 20000 in
theorem wstatic_yX10_isDigit : Cond.static yX10_isDigit ∈ gU := gmU (gt7 _ (List.mem_of_getElem? (i := 48) rfl)) rfl
set_option maxRecDepth 20000 in
theorem wc_yX10_isDigit : Cond.code yX10_isDigit cX10_isDigit 1 (some .boolean) ∈ gU := gmU (gt7 _ (List.mem_of_getElem? (i := 49) rfl)) rfl
set_option maxRecDepth 20000 in
theorem winstanceMethod_yX10_word : Cond.instanceMethod yX10_word ∈ gU := gmU (gt7 _ (List.mem_of_getElem? (i := 15) rfl)) rfl
set_option maxRecDepth 20000 in
theorem ws_yX10_word : Cond.selects yX10_word.cls yX10_word yX10_word ∈ gU := gmU (gtS _ (List.mem_of_getElem? (i := 13) rfl)) rfl
set_option maxRecDepth 20000 in
theorem wc_yX10_word : Cond.code yX10_word cX10_word 4 (some .int) ∈ gU := gmU (gt7 _ (List.mem_of_getElem? (i := 16) rfl)) rfl
set_option maxRecDepth 20000 in
theorem wstatic_yX10_of : Cond.static yX10_of ∈ gU := gmU (gt7 _ (List.mem_of_getElem? (i := 25) rfl)) rfl
set_option maxRecDepth 20000 in
theorem wc_yX10_of : Cond.code yX10_of cX10_of 3 (some .int) ∈ gU := gmU (gt7 _ (List.mem_of_getElem? (i := 26) rfl)) rfl
set_option maxRecDepth 20000 in
theorem winstanceMethod_yX10_pass : Cond.instanceMethod yX10_pass ∈ gU := gmU (gt7 _ (List.mem_of_getElem? (i := 37) rfl)) rfl
set_option maxRecDepth 20000 in
theorem ws_yX10_pass : Cond.selects yX10_pass.cls yX10_pass yX10_pass ∈ gU := gmU (gtS _ (List.mem_of_getElem? (i := 15) rfl)) rfl
set_option maxRecDepth 20000 in
theorem wc_yX10_pass : Cond.code yX10_pass cX10_pass 1 none ∈ gU := gmU (gt7 _ (List.mem_of_getElem? (i := 38) rfl)) rfl
set_option maxRecDepth 20000 in
theorem winstanceMethod_yX10_readNumber : Cond.instanceMethod yX10_readNumber ∈ gU := gmU (gt7 _ (List.mem_of_getElem? (i := 45) rfl)) rfl
set_option maxRecDepth 20000 in
theorem ws_yX10_readNumber : Cond.selects yX10_readNumber.cls yX10_readNumber yX10_readNumber ∈ gU := gmU (gtS _ (List.mem_of_getElem? (i := 17) rfl)) rfl
set_option maxRecDepth 20000 in
theorem wc_yX10_readNumber : Cond.code yX10_readNumber cX10_readNumber 6 (some .int) ∈ gU := gmU (gt7 _ (List.mem_of_getElem? (i := 46) rfl)) rfl
set_option maxRecDepth 20000 in
theorem winstanceMethod_yX10_sign : Cond.instanceMethod yX10_sign ∈ gU := gmU (gt7 _ (List.mem_of_getElem? (i := 60) rfl)) rfl
set_option maxRecDepth 20000 in
theorem ws_yX10_sign : Cond.selects yX10_sign.cls yX10_sign yX10_sign ∈ gU := gmU (gtS _ (List.mem_of_getElem? (i := 20) rfl)) rfl
set_option maxRecDepth 20000 in
theorem wc_yX10_sign : Cond.code yX10_sign cX10_sign 2 none ∈ gU := gmU (gt7 _ (List.mem_of_getElem? (i := 61) rfl)) rfl
set_option maxRecDepth 20000 in
theorem winstanceMethod_yX10_isMore : Cond.instanceMethod yX10_isMore ∈ gU := gmU (gt7 _ (List.mem_of_getElem? (i := 7) rfl)) rfl
set_option maxRecDepth 20000 in
theorem ws_yX10_isMore : Cond.selects yX10_isMore.cls yX10_isMore yX10_isMore ∈ gU := gmU (gtS _ (List.mem_of_getElem? (i := 11) rfl)) rfl
set_option maxRecDepth 20000 in
theorem wc_yX10_isMore : Cond.code yX10_isMore cX10_isMore 1 (some .boolean) ∈ gU := gmU (gt7 _ (List.mem_of_getElem? (i := 8) rfl)) rfl
set_option maxRecDepth 20000 in
theorem winstanceMethod_yX10_begins : Cond.instanceMethod yX10_begins ∈ gU := gmU (gt6 _ (List.mem_of_getElem? (i := 239) rfl)) rfl
set_option maxRecDepth 20000 in
theorem ws_yX10_begins : Cond.selects yX10_begins.cls yX10_begins yX10_begins ∈ gU := gmU (gtS _ (List.mem_of_getElem? (i := 9) rfl)) rfl
set_option maxRecDepth 20000 in
theorem wc_yX10_begins : Cond.code yX10_begins cX10_begins 2 none ∈ gU := gmU (gt7 _ (List.mem_of_getElem? (i := 0) rfl)) rfl
set_option maxRecDepth 20000 in
theorem winstanceMethod_yX10_result : Cond.instanceMethod yX10_result ∈ gU := gmU (gt7 _ (List.mem_of_getElem? (i := 64) rfl)) rfl
set_option maxRecDepth 20000 in
theorem ws_yX10_result : Cond.selects yX10_result.cls yX10_result yX10_result ∈ gU := gmU (gtS _ (List.mem_of_getElem? (i := 21) rfl)) rfl
set_option maxRecDepth 20000 in
theorem wc_yX10_result : Cond.code yX10_result cX10_result 2 (some .int) ∈ gU := gmU (gt7 _ (List.mem_of_getElem? (i := 65) rfl)) rfl
set_option maxRecDepth 20000 in
theorem winstanceMethod_yX10_copies : Cond.instanceMethod yX10_copies ∈ gU := gmU (gt6 _ (List.mem_of_getElem? (i := 56) rfl)) rfl
set_option maxRecDepth 20000 in
theorem ws_yX10_copies : Cond.selects yX10_copies.cls yX10_copies yX10_copies ∈ gU := gmU (gtS _ (List.mem_of_getElem? (i := 7) rfl)) rfl
set_option maxRecDepth 20000 in
theorem wc_yX10_copies : Cond.code yX10_copies cX10_copies 5 none ∈ gU := gmU (gt6 _ (List.mem_of_getElem? (i := 57) rfl)) rfl
set_option maxRecDepth 20000 in
theorem winstanceMethod_yX10_clears : Cond.instanceMethod yX10_clears ∈ gU := gmU (gt6 _ (List.mem_of_getElem? (i := 48) rfl)) rfl
set_option maxRecDepth 20000 in
theorem ws_yX10_clears : Cond.selects yX10_clears.cls yX10_clears yX10_clears ∈ gU := gmU (gtS _ (List.mem_of_getElem? (i := 5) rfl)) rfl
set_option maxRecDepth 20000 in
theorem wc_yX10_clears : Cond.code yX10_clears cX10_clears 1 none ∈ gU := gmU (gt6 _ (List.mem_of_getElem? (i := 49) rfl)) rfl
set_option maxRecDepth 20000 in
theorem winstanceMethod_yX10_sets : Cond.instanceMethod yX10_sets ∈ gU := gmU (gt6 _ (List.mem_of_getElem? (i := 52) rfl)) rfl
set_option maxRecDepth 20000 in
theorem ws_yX10_sets : Cond.selects yX10_sets.cls yX10_sets yX10_sets ∈ gU := gmU (gtS _ (List.mem_of_getElem? (i := 6) rfl)) rfl
set_option maxRecDepth 20000 in
theorem wc_yX10_sets : Cond.code yX10_sets cX10_sets 2 none ∈ gU := gmU (gt6 _ (List.mem_of_getElem? (i := 53) rfl)) rfl
set_option maxRecDepth 20000 in
theorem winstanceMethod_yX10_readTown : Cond.instanceMethod yX10_readTown ∈ gU := gmU (gt7 _ (List.mem_of_getElem? (i := 56) rfl)) rfl
set_option maxRecDepth 20000 in
theorem ws_yX10_readTown : Cond.selects yX10_readTown.cls yX10_readTown yX10_readTown ∈ gU := gmU (gtS _ (List.mem_of_getElem? (i := 19) rfl)) rfl
set_option maxRecDepth 20000 in
theorem wc_yX10_readTown : Cond.code yX10_readTown cX10_readTown 1 (some .int) ∈ gU := gmU (gt7 _ (List.mem_of_getElem? (i := 57) rfl)) rfl
set_option maxRecDepth 20000 in
theorem winstanceMethod_yX10_readRoad : Cond.instanceMethod yX10_readRoad ∈ gU := gmU (gt7 _ (List.mem_of_getElem? (i := 52) rfl)) rfl
set_option maxRecDepth 20000 in
theorem ws_yX10_readRoad : Cond.selects yX10_readRoad.cls yX10_readRoad yX10_readRoad ∈ gU := gmU (gtS _ (List.mem_of_getElem? (i := 18) rfl)) rfl
set_option maxRecDepth 20000 in
theorem wc_yX10_readRoad : Cond.code yX10_readRoad cX10_readRoad 7 none ∈ gU := gmU (gt7 _ (List.mem_of_getElem? (i := 53) rfl)) rfl
set_option maxRecDepth 20000 in
theorem wstatic_yX10_isRow : Cond.static yX10_isRow ∈ gU := gmU (gt7 _ (List.mem_of_getElem? (i := 21) rfl)) rfl
set_option maxRecDepth 20000 in
theorem wc_yX10_isRow : Cond.code yX10_isRow cX10_isRow 1 (some .boolean) ∈ gU := gmU (gt7 _ (List.mem_of_getElem? (i := 22) rfl)) rfl
set_option maxRecDepth 20000 in
theorem winstanceMethod_yX10_readRow : Cond.instanceMethod yX10_readRow ∈ gU := gmU (gt7 _ (List.mem_of_getElem? (i := 41) rfl)) rfl
set_option maxRecDepth 20000 in
theorem ws_yX10_readRow : Cond.selects yX10_readRow.cls yX10_readRow yX10_readRow ∈ gU := gmU (gtS _ (List.mem_of_getElem? (i := 16) rfl)) rfl
set_option maxRecDepth 20000 in
theorem wc_yX10_readRow : Cond.code yX10_readRow cX10_readRow 2 none ∈ gU := gmU (gt7 _ (List.mem_of_getElem? (i := 42) rfl)) rfl
set_option maxRecDepth 20000 in
theorem winstanceMethod_yX10_emit : Cond.instanceMethod yX10_emit ∈ gU := gmU (gt7 _ (List.mem_of_getElem? (i := 88) rfl)) rfl
set_option maxRecDepth 20000 in
theorem ws_yX10_emit : Cond.selects yX10_emit.cls yX10_emit yX10_emit ∈ gU := gmU (gtS _ (List.mem_of_getElem? (i := 26) rfl)) rfl
set_option maxRecDepth 20000 in
theorem wc_yX10_emit : Cond.code yX10_emit cX10_emit 3 none ∈ gU := gmU (gt7 _ (List.mem_of_getElem? (i := 89) rfl)) rfl
set_option maxRecDepth 20000 in
theorem winstanceMethod_yX10_opensOne : Cond.instanceMethod yX10_opensOne ∈ gU := gmU (gt7 _ (List.mem_of_getElem? (i := 84) rfl)) rfl
set_option maxRecDepth 20000 in
theorem ws_yX10_opensOne : Cond.selects yX10_opensOne.cls yX10_opensOne yX10_opensOne ∈ gU := gmU (gtS _ (List.mem_of_getElem? (i := 25) rfl)) rfl
set_option maxRecDepth 20000 in
theorem wc_yX10_opensOne : Cond.code yX10_opensOne cX10_opensOne 2 none ∈ gU := gmU (gt7 _ (List.mem_of_getElem? (i := 85) rfl)) rfl
set_option maxRecDepth 20000 in
theorem winstanceMethod_yX10_readSum : Cond.instanceMethod yX10_readSum ∈ gU := gmU (gt7 _ (List.mem_of_getElem? (i := 72) rfl)) rfl
set_option maxRecDepth 20000 in
theorem ws_yX10_readSum : Cond.selects yX10_readSum.cls yX10_readSum yX10_readSum ∈ gU := gmU (gtS _ (List.mem_of_getElem? (i := 22) rfl)) rfl
set_option maxRecDepth 20000 in
theorem wc_yX10_readSum : Cond.code yX10_readSum cX10_readSum 2 none ∈ gU := gmU (gt7 _ (List.mem_of_getElem? (i := 73) rfl)) rfl
set_option maxRecDepth 20000 in
theorem winstanceMethod_yX10_readProduct : Cond.instanceMethod yX10_readProduct ∈ gU := gmU (gt7 _ (List.mem_of_getElem? (i := 76) rfl)) rfl
set_option maxRecDepth 20000 in
theorem ws_yX10_readProduct : Cond.selects yX10_readProduct.cls yX10_readProduct yX10_readProduct ∈ gU := gmU (gtS _ (List.mem_of_getElem? (i := 23) rfl)) rfl
set_option maxRecDepth 20000 in
theorem wc_yX10_readProduct : Cond.code yX10_readProduct cX10_readProduct 2 none ∈ gU := gmU (gt7 _ (List.mem_of_getElem? (i := 77) rfl)) rfl
set_option maxRecDepth 20000 in
theorem winstanceMethod_yX10_readTwo : Cond.instanceMethod yX10_readTwo ∈ gU := gmU (gt7 _ (List.mem_of_getElem? (i := 93) rfl)) rfl
set_option maxRecDepth 20000 in
theorem ws_yX10_readTwo : Cond.selects yX10_readTwo.cls yX10_readTwo yX10_readTwo ∈ gU := gmU (gtS _ (List.mem_of_getElem? (i := 27) rfl)) rfl
set_option maxRecDepth 20000 in
theorem wc_yX10_readTwo : Cond.code yX10_readTwo cX10_readTwo 3 none ∈ gU := gmU (gt7 _ (List.mem_of_getElem? (i := 94) rfl)) rfl
set_option maxRecDepth 20000 in
theorem winstanceMethod_yX10_standsHere : Cond.instanceMethod yX10_standsHere ∈ gU := gmU (gt7 _ (List.mem_of_getElem? (i := 103) rfl)) rfl
set_option maxRecDepth 20000 in
theorem ws_yX10_standsHere : Cond.selects yX10_standsHere.cls yX10_standsHere yX10_standsHere ∈ gU := gmU (gtS _ (List.mem_of_getElem? (i := 29) rfl)) rfl
set_option maxRecDepth 20000 in
theorem wc_yX10_standsHere : Cond.code yX10_standsHere cX10_standsHere 3 (some .boolean) ∈ gU := gmU (gt7 _ (List.mem_of_getElem? (i := 104) rfl)) rfl
set_option maxRecDepth 20000 in
theorem winstanceMethod_yX10_factHere : Cond.instanceMethod yX10_factHere ∈ gU := gmU (gt7 _ (List.mem_of_getElem? (i := 98) rfl)) rfl
set_option maxRecDepth 20000 in
theorem ws_yX10_factHere : Cond.selects yX10_factHere.cls yX10_factHere yX10_factHere ∈ gU := gmU (gtS _ (List.mem_of_getElem? (i := 28) rfl)) rfl
set_option maxRecDepth 20000 in
theorem wc_yX10_factHere : Cond.code yX10_factHere cX10_factHere 2 (some .int) ∈ gU := gmU (gt7 _ (List.mem_of_getElem? (i := 99) rfl)) rfl
set_option maxRecDepth 20000 in
theorem winstanceMethod_yX10_readUnit : Cond.instanceMethod yX10_readUnit ∈ gU := gmU (gt7 _ (List.mem_of_getElem? (i := 80) rfl)) rfl
set_option maxRecDepth 20000 in
theorem ws_yX10_readUnit : Cond.selects yX10_readUnit.cls yX10_readUnit yX10_readUnit ∈ gU := gmU (gtS _ (List.mem_of_getElem? (i := 24) rfl)) rfl
set_option maxRecDepth 20000 in
theorem wc_yX10_readUnit : Cond.code yX10_readUnit cX10_readUnit 2 none ∈ gU := gmU (gt7 _ (List.mem_of_getElem? (i := 81) rfl)) rfl
set_option maxRecDepth 20000 in
theorem winstanceMethod_yX10_valueNow : Cond.instanceMethod yX10_valueNow ∈ gU := gmU (gt7 _ (List.mem_of_getElem? (i := 177) rfl)) rfl
set_option maxRecDepth 20000 in
theorem ws_yX10_valueNow : Cond.selects yX10_valueNow.cls yX10_valueNow yX10_valueNow ∈ gU := gmU (gtS _ (List.mem_of_getElem? (i := 43) rfl)) rfl
set_option maxRecDepth 20000 in
theorem wc_yX10_valueNow : Cond.code yX10_valueNow cX10_valueNow 4 (some .int) ∈ gU := gmU (gt7 _ (List.mem_of_getElem? (i := 178) rfl)) rfl
set_option maxRecDepth 20000 in
theorem wstatic_yX10_both : Cond.static yX10_both ∈ gU := gmU (gt7 _ (List.mem_of_getElem? (i := 180) rfl)) rfl
set_option maxRecDepth 20000 in
theorem wc_yX10_both : Cond.code yX10_both cX10_both 3 (some .int) ∈ gU := gmU (gt7 _ (List.mem_of_getElem? (i := 181) rfl)) rfl
set_option maxRecDepth 20000 in
theorem winstanceMethod_yX10_swayNow : Cond.instanceMethod yX10_swayNow ∈ gU := gmU (gt7 _ (List.mem_of_getElem? (i := 173) rfl)) rfl
set_option maxRecDepth 20000 in
theorem ws_yX10_swayNow : Cond.selects yX10_swayNow.cls yX10_swayNow yX10_swayNow ∈ gU := gmU (gtS _ (List.mem_of_getElem? (i := 42) rfl)) rfl
set_option maxRecDepth 20000 in
theorem wc_yX10_swayNow : Cond.code yX10_swayNow cX10_swayNow 2 (some .int) ∈ gU := gmU (gt7 _ (List.mem_of_getElem? (i := 174) rfl)) rfl
set_option maxRecDepth 20000 in
theorem winstanceMethod_yX10_tellsStep : Cond.instanceMethod yX10_tellsStep ∈ gU := gmU (gt7 _ (List.mem_of_getElem? (i := 124) rfl)) rfl
set_option maxRecDepth 20000 in
theorem ws_yX10_tellsStep : Cond.selects yX10_tellsStep.cls yX10_tellsStep yX10_tellsStep ∈ gU := gmU (gtS _ (List.mem_of_getElem? (i := 31) rfl)) rfl
set_option maxRecDepth 20000 in
theorem wc_yX10_tellsStep : Cond.code yX10_tellsStep cX10_tellsStep 5 none ∈ gU := gmU (gt7 _ (List.mem_of_getElem? (i := 125) rfl)) rfl
set_option maxRecDepth 20000 in
theorem winstanceMethod_yX10_readStep : Cond.instanceMethod yX10_readStep ∈ gU := gmU (gt7 _ (List.mem_of_getElem? (i := 118) rfl)) rfl
set_option maxRecDepth 20000 in
theorem ws_yX10_readStep : Cond.selects yX10_readStep.cls yX10_readStep yX10_readStep ∈ gU := gmU (gtS _ (List.mem_of_getElem? (i := 30) rfl)) rfl
set_option maxRecDepth 20000 in
theorem wc_yX10_readStep : Cond.code yX10_readStep cX10_readStep 4 none ∈ gU := gmU (gt7 _ (List.mem_of_getElem? (i := 119) rfl)) rfl
set_option maxRecDepth 20000 in
theorem winstanceMethod_yX10_goesSteps : Cond.instanceMethod yX10_goesSteps ∈ gU := gmU (gt7 _ (List.mem_of_getElem? (i := 134) rfl)) rfl
set_option maxRecDepth 20000 in
theorem ws_yX10_goesSteps : Cond.selects yX10_goesSteps.cls yX10_goesSteps yX10_goesSteps ∈ gU := gmU (gtS _ (List.mem_of_getElem? (i := 33) rfl)) rfl
set_option maxRecDepth 20000 in
theorem wc_yX10_goesSteps : Cond.code yX10_goesSteps cX10_goesSteps 6 none ∈ gU := gmU (gt7 _ (List.mem_of_getElem? (i := 135) rfl)) rfl
set_option maxRecDepth 20000 in
theorem winstanceMethod_yX10_take : Cond.instanceMethod yX10_take ∈ gU := gmU (gt7 _ (List.mem_of_getElem? (i := 130) rfl)) rfl
set_option maxRecDepth 20000 in
theorem ws_yX10_take : Cond.selects yX10_take.cls yX10_take yX10_take ∈ gU := gmU (gtS _ (List.mem_of_getElem? (i := 32) rfl)) rfl
set_option maxRecDepth 20000 in
theorem wc_yX10_take : Cond.code yX10_take cX10_take 1 none ∈ gU := gmU (gt7 _ (List.mem_of_getElem? (i := 131) rfl)) rfl
set_option maxRecDepth 20000 in
theorem wstatic_yX10_goesTo : Cond.static yX10_goesTo ∈ gU := gmU (gt7 _ (List.mem_of_getElem? (i := 165) rfl)) rfl
set_option maxRecDepth 20000 in
theorem wc_yX10_goesTo : Cond.code yX10_goesTo cX10_goesTo 2 (some .int) ∈ gU := gmU (gt7 _ (List.mem_of_getElem? (i := 166) rfl)) rfl
set_option maxRecDepth 20000 in
theorem winstanceMethod_yX10_partyOf : Cond.instanceMethod yX10_partyOf ∈ gU := gmU (gt7 _ (List.mem_of_getElem? (i := 162) rfl)) rfl
set_option maxRecDepth 20000 in
theorem ws_yX10_partyOf : Cond.selects yX10_partyOf.cls yX10_partyOf yX10_partyOf ∈ gU := gmU (gtS _ (List.mem_of_getElem? (i := 40) rfl)) rfl
set_option maxRecDepth 20000 in
theorem wc_yX10_partyOf : Cond.code yX10_partyOf cX10_partyOf 2 (some .int) ∈ gU := gmU (gt7 _ (List.mem_of_getElem? (i := 163) rfl)) rfl
set_option maxRecDepth 20000 in
theorem winstanceMethod_yX10_roadsOf : Cond.instanceMethod yX10_roadsOf ∈ gU := gmU (gt7 _ (List.mem_of_getElem? (i := 158) rfl)) rfl
set_option maxRecDepth 20000 in
theorem ws_yX10_roadsOf : Cond.selects yX10_roadsOf.cls yX10_roadsOf yX10_roadsOf ∈ gU := gmU (gtS _ (List.mem_of_getElem? (i := 39) rfl)) rfl
set_option maxRecDepth 20000 in
theorem wc_yX10_roadsOf : Cond.code yX10_roadsOf cX10_roadsOf 4 (some .int) ∈ gU := gmU (gt7 _ (List.mem_of_getElem? (i := 159) rfl)) rfl
set_option maxRecDepth 20000 in
theorem winstanceMethod_yX10_nearOf : Cond.instanceMethod yX10_nearOf ∈ gU := gmU (gt7 _ (List.mem_of_getElem? (i := 154) rfl)) rfl
set_option maxRecDepth 20000 in
theorem ws_yX10_nearOf : Cond.selects yX10_nearOf.cls yX10_nearOf yX10_nearOf ∈ gU := gmU (gtS _ (List.mem_of_getElem? (i := 38) rfl)) rfl
set_option maxRecDepth 20000 in
theorem wc_yX10_nearOf : Cond.code yX10_nearOf cX10_nearOf 5 (some .int) ∈ gU := gmU (gt7 _ (List.mem_of_getElem? (i := 155) rfl)) rfl
set_option maxRecDepth 20000 in
theorem winstanceMethod_yX10_swayOf : Cond.instanceMethod yX10_swayOf ∈ gU := gmU (gt7 _ (List.mem_of_getElem? (i := 169) rfl)) rfl
set_option maxRecDepth 20000 in
theorem ws_yX10_swayOf : Cond.selects yX10_swayOf.cls yX10_swayOf yX10_swayOf ∈ gU := gmU (gtS _ (List.mem_of_getElem? (i := 41) rfl)) rfl
set_option maxRecDepth 20000 in
theorem wc_yX10_swayOf : Cond.code yX10_swayOf cX10_swayOf 11 (some .int) ∈ gU := gmU (gt7 _ (List.mem_of_getElem? (i := 170) rfl)) rfl
set_option maxRecDepth 20000 in
theorem winstanceMethod_yX10_swayBy : Cond.instanceMethod yX10_swayBy ∈ gU := gmU (gt7 _ (List.mem_of_getElem? (i := 150) rfl)) rfl
set_option maxRecDepth 20000 in
theorem ws_yX10_swayBy : Cond.selects yX10_swayBy.cls yX10_swayBy yX10_swayBy ∈ gU := gmU (gtS _ (List.mem_of_getElem? (i := 37) rfl)) rfl
set_option maxRecDepth 20000 in
theorem wc_yX10_swayBy : Cond.code yX10_swayBy cX10_swayBy 2 (some .int) ∈ gU := gmU (gt7 _ (List.mem_of_getElem? (i := 151) rfl)) rfl
set_option maxRecDepth 20000 in
theorem wstatic_yX10_held : Cond.static yX10_held ∈ gU := gmU (gt7 _ (List.mem_of_getElem? (i := 183) rfl)) rfl
set_option maxRecDepth 20000 in
theorem wc_yX10_held : Cond.code yX10_held cX10_held 2 (some .int) ∈ gU := gmU (gt7 _ (List.mem_of_getElem? (i := 184) rfl)) rfl
set_option maxRecDepth 20000 in
theorem winstanceMethod_yX10_seatsOf : Cond.instanceMethod yX10_seatsOf ∈ gU := gmU (gt7 _ (List.mem_of_getElem? (i := 187) rfl)) rfl
set_option maxRecDepth 20000 in
theorem ws_yX10_seatsOf : Cond.selects yX10_seatsOf.cls yX10_seatsOf yX10_seatsOf ∈ gU := gmU (gtS _ (List.mem_of_getElem? (i := 44) rfl)) rfl
set_option maxRecDepth 20000 in
theorem wc_yX10_seatsOf : Cond.code yX10_seatsOf cX10_seatsOf 4 (some .int) ∈ gU := gmU (gt7 _ (List.mem_of_getElem? (i := 188) rfl)) rfl
set_option maxRecDepth 20000 in
theorem winstanceMethod_yX10_canMove : Cond.instanceMethod yX10_canMove ∈ gU := gmU (gt7 _ (List.mem_of_getElem? (i := 142) rfl)) rfl
set_option maxRecDepth 20000 in
theorem ws_yX10_canMove : Cond.selects yX10_canMove.cls yX10_canMove yX10_canMove ∈ gU := gmU (gtS _ (List.mem_of_getElem? (i := 35) rfl)) rfl
set_option maxRecDepth 20000 in
theorem wc_yX10_canMove : Cond.code yX10_canMove cX10_canMove 4 (some .boolean) ∈ gU := gmU (gt7 _ (List.mem_of_getElem? (i := 143) rfl)) rfl
set_option maxRecDepth 20000 in
theorem winstanceMethod_yX10_votes : Cond.instanceMethod yX10_votes ∈ gU := gmU (gt7 _ (List.mem_of_getElem? (i := 146) rfl)) rfl
set_option maxRecDepth 20000 in
theorem ws_yX10_votes : Cond.selects yX10_votes.cls yX10_votes yX10_votes ∈ gU := gmU (gtS _ (List.mem_of_getElem? (i := 36) rfl)) rfl
set_option maxRecDepth 20000 in
theorem wc_yX10_votes : Cond.code yX10_votes cX10_votes 3 none ∈ gU := gmU (gt7 _ (List.mem_of_getElem? (i := 147) rfl)) rfl
set_option maxRecDepth 20000 in
theorem winstanceMethod_yX10_goes : Cond.instanceMethod yX10_goes ∈ gU := gmU (gt7 _ (List.mem_of_getElem? (i := 138) rfl)) rfl
set_option maxRecDepth 20000 in
theorem ws_yX10_goes : Cond.selects yX10_goes.cls yX10_goes yX10_goes ∈ gU := gmU (gtS _ (List.mem_of_getElem? (i := 34) rfl)) rfl
set_option maxRecDepth 20000 in
theorem wc_yX10_goes : Cond.code yX10_goes cX10_goes 5 (some .boolean) ∈ gU := gmU (gt7 _ (List.mem_of_getElem? (i := 139) rfl)) rfl
set_option maxRecDepth 20000 in
theorem winstanceMethod_yX10_sumOf : Cond.instanceMethod yX10_sumOf ∈ gU := gmU (gt7 _ (List.mem_of_getElem? (i := 206) rfl)) rfl
set_option maxRecDepth 20000 in
theorem ws_yX10_sumOf : Cond.selects yX10_sumOf.cls yX10_sumOf yX10_sumOf ∈ gU := gmU (gtS _ (List.mem_of_getElem? (i := 45) rfl)) rfl
set_option maxRecDepth 20000 in
theorem wc_yX10_sumOf : Cond.code yX10_sumOf cX10_sumOf 4 (some .int) ∈ gU := gmU (gt7 _ (List.mem_of_getElem? (i := 207) rfl)) rfl
set_option maxRecDepth 20000 in
theorem winstanceMethod_yX10_seatsAll : Cond.instanceMethod yX10_seatsAll ∈ gU := gmU (gt7 _ (List.mem_of_getElem? (i := 210) rfl)) rfl
set_option maxRecDepth 20000 in
theorem ws_yX10_seatsAll : Cond.selects yX10_seatsAll.cls yX10_seatsAll yX10_seatsAll ∈ gU := gmU (gtS _ (List.mem_of_getElem? (i := 46) rfl)) rfl
set_option maxRecDepth 20000 in
theorem wc_yX10_seatsAll : Cond.code yX10_seatsAll cX10_seatsAll 3 (some .int) ∈ gU := gmU (gt7 _ (List.mem_of_getElem? (i := 211) rfl)) rfl
set_option maxRecDepth 20000 in
theorem winstanceMethod_yX10_isTown : Cond.instanceMethod yX10_isTown ∈ gU := gmU (gt7 _ (List.mem_of_getElem? (i := 218) rfl)) rfl
set_option maxRecDepth 20000 in
theorem ws_yX10_isTown : Cond.selects yX10_isTown.cls yX10_isTown yX10_isTown ∈ gU := gmU (gtS _ (List.mem_of_getElem? (i := 47) rfl)) rfl
set_option maxRecDepth 20000 in
theorem wc_yX10_isTown : Cond.code yX10_isTown cX10_isTown 3 (some .boolean) ∈ gU := gmU (gt7 _ (List.mem_of_getElem? (i := 219) rfl)) rfl
set_option maxRecDepth 20000 in
theorem winstanceMethod_yX10_turnsOf : Cond.instanceMethod yX10_turnsOf ∈ gU := gmU (gt8 _ (List.mem_of_getElem? (i := 6) rfl)) rfl
set_option maxRecDepth 20000 in
theorem ws_yX10_turnsOf : Cond.selects yX10_turnsOf.cls yX10_turnsOf yX10_turnsOf ∈ gU := gmU (gtS _ (List.mem_of_getElem? (i := 48) rfl)) rfl
set_option maxRecDepth 20000 in
theorem wc_yX10_turnsOf : Cond.code yX10_turnsOf cX10_turnsOf 4 (some .int) ∈ gU := gmU (gt8 _ (List.mem_of_getElem? (i := 7) rfl)) rfl
set_option maxRecDepth 20000 in
theorem winstanceMethod_yX10_hangs : Cond.instanceMethod yX10_hangs ∈ gU := gmU (gt8 _ (List.mem_of_getElem? (i := 28) rfl)) rfl
set_option maxRecDepth 20000 in
theorem ws_yX10_hangs : Cond.selects yX10_hangs.cls yX10_hangs yX10_hangs ∈ gU := gmU (gtS _ (List.mem_of_getElem? (i := 49) rfl)) rfl
set_option maxRecDepth 20000 in
theorem wc_yX10_hangs : Cond.code yX10_hangs cX10_hangs 6 (some .int) ∈ gU := gmU (gt8 _ (List.mem_of_getElem? (i := 29) rfl)) rfl
set_option maxRecDepth 20000 in
theorem wstatic_yX10_first : Cond.static yX10_first ∈ gU := gmU (gt8 _ (List.mem_of_getElem? (i := 24) rfl)) rfl
set_option maxRecDepth 20000 in
theorem wc_yX10_first : Cond.code yX10_first cX10_first 2 (some .int) ∈ gU := gmU (gt8 _ (List.mem_of_getElem? (i := 25) rfl)) rfl
set_option maxRecDepth 20000 in
theorem wstatic_yX10_ones : Cond.static yX10_ones ∈ gU := gmU (gt8 _ (List.mem_of_getElem? (i := 21) rfl)) rfl
set_option maxRecDepth 20000 in
theorem wc_yX10_ones : Cond.code yX10_ones cX10_ones 3 (some .int) ∈ gU := gmU (gt8 _ (List.mem_of_getElem? (i := 22) rfl)) rfl
set_option maxRecDepth 20000 in
theorem winstanceMethod_yX10_driftTo : Cond.instanceMethod yX10_driftTo ∈ gU := gmU (gt8 _ (List.mem_of_getElem? (i := 44) rfl)) rfl
set_option maxRecDepth 20000 in
theorem ws_yX10_driftTo : Cond.selects yX10_driftTo.cls yX10_driftTo yX10_driftTo ∈ gU := gmU (gtS _ (List.mem_of_getElem? (i := 51) rfl)) rfl
set_option maxRecDepth 20000 in
theorem wc_yX10_driftTo : Cond.code yX10_driftTo cX10_driftTo 3 (some .int) ∈ gU := gmU (gt8 _ (List.mem_of_getElem? (i := 45) rfl)) rfl
set_option maxRecDepth 20000 in
theorem winstanceMethod_yX10_isDrift : Cond.instanceMethod yX10_isDrift ∈ gU := gmU (gt8 _ (List.mem_of_getElem? (i := 40) rfl)) rfl
set_option maxRecDepth 20000 in
theorem ws_yX10_isDrift : Cond.selects yX10_isDrift.cls yX10_isDrift yX10_isDrift ∈ gU := gmU (gtS _ (List.mem_of_getElem? (i := 50) rfl)) rfl
set_option maxRecDepth 20000 in
theorem wc_yX10_isDrift : Cond.code yX10_isDrift cX10_isDrift 3 (some .boolean) ∈ gU := gmU (gt8 _ (List.mem_of_getElem? (i := 41) rfl)) rfl
set_option maxRecDepth 20000 in
theorem wstatic_yX10_isPart : Cond.static yX10_isPart ∈ gU := gmU (gt8 _ (List.mem_of_getElem? (i := 55) rfl)) rfl
set_option maxRecDepth 20000 in
theorem wc_yX10_isPart : Cond.code yX10_isPart cX10_isPart 3 (some .boolean) ∈ gU := gmU (gt8 _ (List.mem_of_getElem? (i := 56) rfl)) rfl
set_option maxRecDepth 20000 in
theorem wstatic_yX10_least : Cond.static yX10_least ∈ gU := gmU (gt8 _ (List.mem_of_getElem? (i := 63) rfl)) rfl
set_option maxRecDepth 20000 in
theorem wc_yX10_least : Cond.code yX10_least cX10_least 11 (some .long) ∈ gU := gmU (gt8 _ (List.mem_of_getElem? (i := 64) rfl)) rfl
set_option maxRecDepth 20000 in
theorem winstanceMethod_yX10_speaksHas : Cond.instanceMethod yX10_speaksHas ∈ gU := gmU (gt8 _ (List.mem_of_getElem? (i := 75) rfl)) rfl
set_option maxRecDepth 20000 in
theorem ws_yX10_speaksHas : Cond.selects yX10_speaksHas.cls yX10_speaksHas yX10_speaksHas ∈ gU := gmU (gtS _ (List.mem_of_getElem? (i := 53) rfl)) rfl
set_option maxRecDepth 20000 in
theorem wc_yX10_speaksHas : Cond.code yX10_speaksHas cX10_speaksHas 9 (some .int) ∈ gU := gmU (gt8 _ (List.mem_of_getElem? (i := 76) rfl)) rfl
set_option maxRecDepth 20000 in
theorem winstanceMethod_yX10_isRest : Cond.instanceMethod yX10_isRest ∈ gU := gmU (gt8 _ (List.mem_of_getElem? (i := 71) rfl)) rfl
set_option maxRecDepth 20000 in
theorem ws_yX10_isRest : Cond.selects yX10_isRest.cls yX10_isRest yX10_isRest ∈ gU := gmU (gtS _ (List.mem_of_getElem? (i := 52) rfl)) rfl
set_option maxRecDepth 20000 in
theorem wc_yX10_isRest : Cond.code yX10_isRest cX10_isRest 5 (some .boolean) ∈ gU := gmU (gt8 _ (List.mem_of_getElem? (i := 72) rfl)) rfl
set_option maxRecDepth 20000 in
theorem winstanceMethod_yX10_breadBy : Cond.instanceMethod yX10_breadBy ∈ gU := gmU (gt8 _ (List.mem_of_getElem? (i := 83) rfl)) rfl
set_option maxRecDepth 20000 in
theorem ws_yX10_breadBy : Cond.selects yX10_breadBy.cls yX10_breadBy yX10_breadBy ∈ gU := gmU (gtS _ (List.mem_of_getElem? (i := 54) rfl)) rfl
set_option maxRecDepth 20000 in
theorem wc_yX10_breadBy : Cond.code yX10_breadBy cX10_breadBy 5 (some .int) ∈ gU := gmU (gt8 _ (List.mem_of_getElem? (i := 84) rfl)) rfl
set_option maxRecDepth 20000 in
theorem winstanceMethod_yX10_partsBut : Cond.instanceMethod yX10_partsBut ∈ gU := gmU (gt8 _ (List.mem_of_getElem? (i := 99) rfl)) rfl
set_option maxRecDepth 20000 in
theorem ws_yX10_partsBut : Cond.selects yX10_partsBut.cls yX10_partsBut yX10_partsBut ∈ gU := gmU (gtS _ (List.mem_of_getElem? (i := 55) rfl)) rfl
set_option maxRecDepth 20000 in
theorem wc_yX10_partsBut : Cond.code yX10_partsBut cX10_partsBut 7 (some .int) ∈ gU := gmU (gt8 _ (List.mem_of_getElem? (i := 100) rfl)) rfl
set_option maxRecDepth 20000 in
theorem winstanceMethod_yX10_draws : Cond.instanceMethod yX10_draws ∈ gU := gmU (gt8 _ (List.mem_of_getElem? (i := 134) rfl)) rfl
set_option maxRecDepth 20000 in
theorem ws_yX10_draws : Cond.selects yX10_draws.cls yX10_draws yX10_draws ∈ gU := gmU (gtS _ (List.mem_of_getElem? (i := 57) rfl)) rfl
set_option maxRecDepth 20000 in
theorem wc_yX10_draws : Cond.code yX10_draws cX10_draws 2 (some .int) ∈ gU := gmU (gt8 _ (List.mem_of_getElem? (i := 135) rfl)) rfl
set_option maxRecDepth 20000 in
theorem winstanceMethod_yX10_termGoes : Cond.instanceMethod yX10_termGoes ∈ gU := gmU (gt8 _ (List.mem_of_getElem? (i := 130) rfl)) rfl
set_option maxRecDepth 20000 in
theorem ws_yX10_termGoes : Cond.selects yX10_termGoes.cls yX10_termGoes yX10_termGoes ∈ gU := gmU (gtS _ (List.mem_of_getElem? (i := 56) rfl)) rfl
set_option maxRecDepth 20000 in
theorem wc_yX10_termGoes : Cond.code yX10_termGoes cX10_termGoes 7 none ∈ gU := gmU (gt8 _ (List.mem_of_getElem? (i := 131) rfl)) rfl
set_option maxRecDepth 20000 in
theorem wstatic_yX10_isTerm : Cond.static yX10_isTerm ∈ gU := gmU (gt8 _ (List.mem_of_getElem? (i := 126) rfl)) rfl
set_option maxRecDepth 20000 in
theorem wc_yX10_isTerm : Cond.code yX10_isTerm cX10_isTerm 2 (some .boolean) ∈ gU := gmU (gt8 _ (List.mem_of_getElem? (i := 127) rfl)) rfl
set_option maxRecDepth 20000 in
theorem winstanceMethod_yX10_keepsRow : Cond.instanceMethod yX10_keepsRow ∈ gU := gmU (gt8 _ (List.mem_of_getElem? (i := 151) rfl)) rfl
set_option maxRecDepth 20000 in
theorem ws_yX10_keepsRow : Cond.selects yX10_keepsRow.cls yX10_keepsRow yX10_keepsRow ∈ gU := gmU (gtS _ (List.mem_of_getElem? (i := 59) rfl)) rfl
set_option maxRecDepth 20000 in
theorem wc_yX10_keepsRow : Cond.code yX10_keepsRow cX10_keepsRow 6 (some .int) ∈ gU := gmU (gt8 _ (List.mem_of_getElem? (i := 152) rfl)) rfl
set_option maxRecDepth 20000 in
theorem winstanceMethod_yX10_keepsAll : Cond.instanceMethod yX10_keepsAll ∈ gU := gmU (gt8 _ (List.mem_of_getElem? (i := 147) rfl)) rfl
set_option maxRecDepth 20000 in
theorem ws_yX10_keepsAll : Cond.selects yX10_keepsAll.cls yX10_keepsAll yX10_keepsAll ∈ gU := gmU (gtS _ (List.mem_of_getElem? (i := 58) rfl)) rfl
set_option maxRecDepth 20000 in
theorem wc_yX10_keepsAll : Cond.code yX10_keepsAll cX10_keepsAll 4 none ∈ gU := gmU (gt8 _ (List.mem_of_getElem? (i := 148) rfl)) rfl
set_option maxRecDepth 20000 in
theorem wstatic_yJ6_bitCount_0f7a4 : Cond.static yJ6_bitCount_0f7a4 ∈ gU := gmU (gt4 _ (List.mem_of_getElem? (i := 82) rfl)) rfl
set_option maxRecDepth 20000 in
theorem wi_java_lang_Integer : Cond.initialized RJ6 ∈ gU := gmU (gt1 _ (List.mem_of_getElem? (i := 21) rfl)) rfl
set_option maxRecDepth 20000 in
theorem wc_yJ6_bitCount_0f7a4 : Cond.code yJ6_bitCount_0f7a4 cJ6_bitCount_0f7a4 1 (some .int) ∈ gU := gmU (gt4 _ (List.mem_of_getElem? (i := 83) rfl)) rfl
set_option maxRecDepth 20000 in
theorem winstanceMethod_yJ0_length_8abf5 : Cond.instanceMethod yJ0_length_8abf5 ∈ gU := gmU (gt3 _ (List.mem_of_getElem? (i := 122) rfl)) rfl
set_option maxRecDepth 20000 in
theorem ws_yJ0_length_8abf5 : Cond.selects yJ0_length_8abf5.cls yJ0_length_8abf5 yJ0_length_8abf5 ∈ gU := gmU (gt3 _ (List.mem_of_getElem? (i := 123) rfl)) rfl
set_option maxRecDepth 20000 in
theorem wi_java_lang_String : Cond.initialized RJ0 ∈ gU := gmU (gt1 _ (List.mem_of_getElem? (i := 17) rfl)) rfl
set_option maxRecDepth 20000 in
theorem wc_yJ0_length_8abf5 : Cond.code yJ0_length_8abf5 cJ0_length_8abf5 1 (some .int) ∈ gU := gmU (gt3 _ (List.mem_of_getElem? (i := 124) rfl)) rfl
set_option maxRecDepth 20000 in
theorem winstanceMethod_yJ0_charAt_5068e : Cond.instanceMethod yJ0_charAt_5068e ∈ gU := gmU (gt3 _ (List.mem_of_getElem? (i := 132) rfl)) rfl
set_option maxRecDepth 20000 in
theorem ws_yJ0_charAt_5068e : Cond.selects yJ0_charAt_5068e.cls yJ0_charAt_5068e yJ0_charAt_5068e ∈ gU := gmU (gt3 _ (List.mem_of_getElem? (i := 133) rfl)) rfl
set_option maxRecDepth 20000 in
theorem wc_yJ0_charAt_5068e : Cond.code yJ0_charAt_5068e cJ0_charAt_5068e 2 (some .char) ∈ gU := gmU (gt3 _ (List.mem_of_getElem? (i := 134) rfl)) rfl
set_option maxRecDepth 20000 in
theorem winstanceMethod_yJ0_coder_7d493 : Cond.instanceMethod yJ0_coder_7d493 ∈ gU := gmU (gt3 _ (List.mem_of_getElem? (i := 126) rfl)) rfl
set_option maxRecDepth 20000 in
theorem ws_yJ0_coder_7d493 : Cond.selects yJ0_coder_7d493.cls yJ0_coder_7d493 yJ0_coder_7d493 ∈ gU := gmU (gt3 _ (List.mem_of_getElem? (i := 127) rfl)) rfl
set_option maxRecDepth 20000 in
theorem wc_yJ0_coder_7d493 : Cond.code yJ0_coder_7d493 cJ0_coder_7d493 1 (some .byte) ∈ gU := gmU (gt3 _ (List.mem_of_getElem? (i := 128) rfl)) rfl
set_option maxRecDepth 20000 in
theorem winstanceMethod_yJ0_isLatin1_aae02 : Cond.instanceMethod yJ0_isLatin1_aae02 ∈ gU := gmU (gt3 _ (List.mem_of_getElem? (i := 136) rfl)) rfl
set_option maxRecDepth 20000 in
theorem ws_yJ0_isLatin1_aae02 : Cond.selects yJ0_isLatin1_aae02.cls yJ0_isLatin1_aae02 yJ0_isLatin1_aae02 ∈ gU := gmU (gt3 _ (List.mem_of_getElem? (i := 137) rfl)) rfl
set_option maxRecDepth 20000 in
theorem wc_yJ0_isLatin1_aae02 : Cond.code yJ0_isLatin1_aae02 cJ0_isLatin1_aae02 1 (some .boolean) ∈ gU := gmU (gt3 _ (List.mem_of_getElem? (i := 138) rfl)) rfl
set_option maxRecDepth 20000 in
theorem wstatic_yJ1_charAt_3b067 : Cond.static yJ1_charAt_3b067 ∈ gU := gmU (gt3 _ (List.mem_of_getElem? (i := 140) rfl)) rfl
set_option maxRecDepth 20000 in
theorem wi_java_lang_StringLatin1 : Cond.initialized RJ1 ∈ gU := gmU (gt1 _ (List.mem_of_getElem? (i := 18) rfl)) rfl
set_option maxRecDepth 20000 in
theorem wc_yJ1_charAt_3b067 : Cond.code yJ1_charAt_3b067 cJ1_charAt_3b067 2 (some .char) ∈ gU := gmU (gt3 _ (List.mem_of_getElem? (i := 141) rfl)) rfl
set_option maxRecDepth 20000 in
theorem wstatic_yJ0_checkIndex_df160 : Cond.static yJ0_checkIndex_df160 ∈ gU := gmU (gt3 _ (List.mem_of_getElem? (i := 143) rfl)) rfl
set_option maxRecDepth 20000 in
theorem wc_yJ0_checkIndex_df160 : Cond.code yJ0_checkIndex_df160 cJ0_checkIndex_df160 2 none ∈ gU := gmU (gt3 _ (List.mem_of_getElem? (i := 144) rfl)) rfl
set_option maxRecDepth 20000 in
theorem wstatic_yJ3_checkIndex_8e157 : Cond.static yJ3_checkIndex_8e157 ∈ gU := gmU (gt3 _ (List.mem_of_getElem? (i := 148) rfl)) rfl
set_option maxRecDepth 20000 in
theorem wi_jdk_internal_util_Preconditions : Cond.initialized RJ3 ∈ gU := gmU (gt1 _ (List.mem_of_getElem? (i := 19) rfl)) rfl
set_option maxRecDepth 20000 in
theorem wc_yJ3_checkIndex_8e157 : Cond.code yJ3_checkIndex_8e157 cJ3_checkIndex_8e157 3 (some .int) ∈ gU := gmU (gt3 _ (List.mem_of_getElem? (i := 149) rfl)) rfl
set_option maxRecDepth 20000 in
theorem inU_X0 : ∀ w ∈ u_ws RX0 TX0 7, w ∈ gU := (show ∀ w ∈ [u_lay RX0 TX0 0, u_lay RX0 TX0 1, u_lay RX0 TX0 2, u_lay RX0 TX0 3, u_lay RX0 TX0 4, u_lay RX0 TX0 5, u_lay RX0 TX0 6], w ∈ gU from List.forall_mem_cons.mpr ⟨gmU (gt1 _ (List.mem_of_getElem? (i := 202) rfl)) rfl, List.forall_mem_cons.mpr ⟨gmU (gt1 _ (List.mem_of_getElem? (i := 204) rfl)) rfl, List.forall_mem_cons.mpr ⟨gmU (gt1 _ (List.mem_of_getElem? (i := 206) rfl)) rfl, List.forall_mem_cons.mpr ⟨gmU (gt1 _ (List.mem_of_getElem? (i := 208) rfl)) rfl, List.forall_mem_cons.mpr ⟨gmU (gt1 _ (List.mem_of_getElem? (i := 210) rfl)) rfl, List.forall_mem_cons.mpr ⟨gmU (gt1 _ (List.mem_of_getElem? (i := 212) rfl)) rfl, List.forall_mem_cons.mpr ⟨gmU (gt1 _ (List.mem_of_getElem? (i := 214) rfl)) rfl, fun _ h => absurd h List.not_mem_nil⟩⟩⟩⟩⟩⟩⟩)
set_option maxRecDepth 20000 in
theorem inU_X1 : ∀ w ∈ u_ws RX1 TX1 8, w ∈ gU := (show ∀ w ∈ [u_lay RX1 TX1 0, u_lay RX1 TX1 1, u_lay RX1 TX1 2, u_lay RX1 TX1 3, u_lay RX1 TX1 4, u_lay RX1 TX1 5, u_lay RX1 TX1 6, u_lay RX1 TX1 7], w ∈ gU from List.forall_mem_cons.mpr ⟨gmU (gt1 _ (List.mem_of_getElem? (i := 234) rfl)) rfl, List.forall_mem_cons.mpr ⟨gmU (gt1 _ (List.mem_of_getElem? (i := 236) rfl)) rfl, List.forall_mem_cons.mpr ⟨gmU (gt1 _ (List.mem_of_getElem? (i := 238) rfl)) rfl, List.forall_mem_cons.mpr ⟨gmU (gt2 _ (List.mem_of_getElem? (i := 0) rfl)) rfl, List.forall_mem_cons.mpr ⟨gmU (gt2 _ (List.mem_of_getElem? (i := 2) rfl)) rfl, List.forall_mem_cons.mpr ⟨gmU (gt2 _ (List.mem_of_getElem? (i := 4) rfl)) rfl, List.forall_mem_cons.mpr ⟨gmU (gt2 _ (List.mem_of_getElem? (i := 6) rfl)) rfl, List.forall_mem_cons.mpr ⟨gmU (gt2 _ (List.mem_of_getElem? (i := 8) rfl)) rfl, fun _ h => absurd h List.not_mem_nil⟩⟩⟩⟩⟩⟩⟩⟩)
set_option maxRecDepth 20000 in
theorem inU_X2 : ∀ w ∈ u_ws RX2 TX2 4, w ∈ gU := (show ∀ w ∈ [u_lay RX2 TX2 0, u_lay RX2 TX2 1, u_lay RX2 TX2 2, u_lay RX2 TX2 3], w ∈ gU from List.forall_mem_cons.mpr ⟨gmU (gt2 _ (List.mem_of_getElem? (i := 76) rfl)) rfl, List.forall_mem_cons.mpr ⟨gmU (gt2 _ (List.mem_of_getElem? (i := 78) rfl)) rfl, List.forall_mem_cons.mpr ⟨gmU (gt2 _ (List.mem_of_getElem? (i := 80) rfl)) rfl, List.forall_mem_cons.mpr ⟨gmU (gt2 _ (List.mem_of_getElem? (i := 82) rfl)) rfl, fun _ h => absurd h List.not_mem_nil⟩⟩⟩⟩)
set_option maxRecDepth 20000 in
theorem inU_X3 : ∀ w ∈ u_ws RX3 TX3 6, w ∈ gU := (show ∀ w ∈ [u_lay RX3 TX3 0, u_lay RX3 TX3 1, u_lay RX3 TX3 2, u_lay RX3 TX3 3, u_lay RX3 TX3 4, u_lay RX3 TX3 5], w ∈ gU from List.forall_mem_cons.mpr ⟨gmU (gt1 _ (List.mem_of_getElem? (i := 99) rfl)) rfl, List.forall_mem_cons.mpr ⟨gmU (gt1 _ (List.mem_of_getElem? (i := 101) rfl)) rfl, List.forall_mem_cons.mpr ⟨gmU (gt1 _ (List.mem_of_getElem? (i := 103) rfl)) rfl, List.forall_mem_cons.mpr ⟨gmU (gt1 _ (List.mem_of_getElem? (i := 105) rfl)) rfl, List.forall_mem_cons.mpr ⟨gmU (gt1 _ (List.mem_of_getElem? (i := 107) rfl)) rfl, List.forall_mem_cons.mpr ⟨gmU (gt1 _ (List.mem_of_getElem? (i := 109) rfl)) rfl, fun _ h => absurd h List.not_mem_nil⟩⟩⟩⟩⟩⟩)
set_option maxRecDepth 20000 in
theorem inU_X4 : ∀ w ∈ u_ws RX4 TX4 4, w ∈ gU := (show ∀ w ∈ [u_lay RX4 TX4 0, u_lay RX4 TX4 1, u_lay RX4 TX4 2, u_lay RX4 TX4 3], w ∈ gU from List.forall_mem_cons.mpr ⟨gmU (gt1 _ (List.mem_of_getElem? (i := 176) rfl)) rfl, List.forall_mem_cons.mpr ⟨gmU (gt1 _ (List.mem_of_getElem? (i := 178) rfl)) rfl, List.forall_mem_cons.mpr ⟨gmU (gt1 _ (List.mem_of_getElem? (i := 180) rfl)) rfl, List.forall_mem_cons.mpr ⟨gmU (gt1 _ (List.mem_of_getElem? (i := 182) rfl)) rfl, fun _ h => absurd h List.not_mem_nil⟩⟩⟩⟩)
set_option maxRecDepth 20000 in
theorem inU_X5 : ∀ w ∈ u_ws RX5 TX5 4, w ∈ gU := (show ∀ w ∈ [u_lay RX5 TX5 0, u_lay RX5 TX5 1, u_lay RX5 TX5 2, u_lay RX5 TX5 3], w ∈ gU from List.forall_mem_cons.mpr ⟨gmU (gt2 _ (List.mem_of_getElem? (i := 23) rfl)) rfl, List.forall_mem_cons.mpr ⟨gmU (gt2 _ (List.mem_of_getElem? (i := 25) rfl)) rfl, List.forall_mem_cons.mpr ⟨gmU (gt2 _ (List.mem_of_getElem? (i := 27) rfl)) rfl, List.forall_mem_cons.mpr ⟨gmU (gt2 _ (List.mem_of_getElem? (i := 29) rfl)) rfl, fun _ h => absurd h List.not_mem_nil⟩⟩⟩⟩)
set_option maxRecDepth 20000 in
theorem inU_X6 : ∀ w ∈ u_ws RX6 TX6 6, w ∈ gU := (show ∀ w ∈ [u_lay RX6 TX6 0, u_lay RX6 TX6 1, u_lay RX6 TX6 2, u_lay RX6 TX6 3, u_lay RX6 TX6 4, u_lay RX6 TX6 5], w ∈ gU from List.forall_mem_cons.mpr ⟨gmU (gt2 _ (List.mem_of_getElem? (i := 48) rfl)) rfl, List.forall_mem_cons.mpr ⟨gmU (gt2 _ (List.mem_of_getElem? (i := 50) rfl)) rfl, List.forall_mem_cons.mpr ⟨gmU (gt2 _ (List.mem_of_getElem? (i := 52) rfl)) rfl, List.forall_mem_cons.mpr ⟨gmU (gt2 _ (List.mem_of_getElem? (i := 54) rfl)) rfl, List.forall_mem_cons.mpr ⟨gmU (gt2 _ (List.mem_of_getElem? (i := 56) rfl)) rfl, List.forall_mem_cons.mpr ⟨gmU (gt2 _ (List.mem_of_getElem? (i := 58) rfl)) rfl, fun _ h => absurd h List.not_mem_nil⟩⟩⟩⟩⟩⟩)
set_option maxRecDepth 20000 in
theorem inU_X7 : ∀ w ∈ u_ws RX7 TX7 9, w ∈ gU := (show ∀ w ∈ [u_lay RX7 TX7 0, u_lay RX7 TX7 1, u_lay RX7 TX7 2, u_lay RX7 TX7 3, u_lay RX7 TX7 4, u_lay RX7 TX7 5, u_lay RX7 TX7 6, u_lay RX7 TX7 7, u_lay RX7 TX7 8], w ∈ gU from List.forall_mem_cons.mpr ⟨gmU (gt1 _ (List.mem_of_getElem? (i := 54) rfl)) rfl, List.forall_mem_cons.mpr ⟨gmU (gt1 _ (List.mem_of_getElem? (i := 56) rfl)) rfl, List.forall_mem_cons.mpr ⟨gmU (gt1 _ (List.mem_of_getElem? (i := 58) rfl)) rfl, List.forall_mem_cons.mpr ⟨gmU (gt1 _ (List.mem_of_getElem? (i := 60) rfl)) rfl, List.forall_mem_cons.mpr ⟨gmU (gt1 _ (List.mem_of_getElem? (i := 62) rfl)) rfl, List.forall_mem_cons.mpr ⟨gmU (gt1 _ (List.mem_of_getElem? (i := 64) rfl)) rfl, List.forall_mem_cons.mpr ⟨gmU (gt1 _ (List.mem_of_getElem? (i := 66) rfl)) rfl, List.forall_mem_cons.mpr ⟨gmU (gt1 _ (List.mem_of_getElem? (i := 68) rfl)) rfl, List.forall_mem_cons.mpr ⟨gmU (gt1 _ (List.mem_of_getElem? (i := 70) rfl)) rfl, fun _ h => absurd h List.not_mem_nil⟩⟩⟩⟩⟩⟩⟩⟩⟩)
set_option maxRecDepth 20000 in
theorem inU_X8 : ∀ w ∈ u_ws RX8 TX8 8, w ∈ gU := (show ∀ w ∈ [u_lay RX8 TX8 0, u_lay RX8 TX8 1, u_lay RX8 TX8 2, u_lay RX8 TX8 3, u_lay RX8 TX8 4, u_lay RX8 TX8 5, u_lay RX8 TX8 6, u_lay RX8 TX8 7], w ∈ gU from List.forall_mem_cons.mpr ⟨gmU (gt1 _ (List.mem_of_getElem? (i := 141) rfl)) rfl, List.forall_mem_cons.mpr ⟨gmU (gt1 _ (List.mem_of_getElem? (i := 143) rfl)) rfl, List.forall_mem_cons.mpr ⟨gmU (gt1 _ (List.mem_of_getElem? (i := 145) rfl)) rfl, List.forall_mem_cons.mpr ⟨gmU (gt1 _ (List.mem_of_getElem? (i := 147) rfl)) rfl, List.forall_mem_cons.mpr ⟨gmU (gt1 _ (List.mem_of_getElem? (i := 149) rfl)) rfl, List.forall_mem_cons.mpr ⟨gmU (gt1 _ (List.mem_of_getElem? (i := 151) rfl)) rfl, List.forall_mem_cons.mpr ⟨gmU (gt1 _ (List.mem_of_getElem? (i := 153) rfl)) rfl, List.forall_mem_cons.mpr ⟨gmU (gt1 _ (List.mem_of_getElem? (i := 155) rfl)) rfl, fun _ h => absurd h List.not_mem_nil⟩⟩⟩⟩⟩⟩⟩⟩)
set_option maxRecDepth 20000 in
theorem inU_X9 : ∀ w ∈ u_ws RX9 TX9 16, w ∈ gU := (show ∀ w ∈ [u_lay RX9 TX9 0, u_lay RX9 TX9 1, u_lay RX9 TX9 2, u_lay RX9 TX9 3, u_lay RX9 TX9 4, u_lay RX9 TX9 5, u_lay RX9 TX9 6, u_lay RX9 TX9 7, u_lay RX9 TX9 8, u_lay RX9 TX9 9, u_lay RX9 TX9 10, u_lay RX9 TX9 11, u_lay RX9 TX9 12, u_lay RX9 TX9 13, u_lay RX9 TX9 14, u_lay RX9 TX9 15], w ∈ gU from List.forall_mem_cons.mpr ⟨gmU (gt2 _ (List.mem_of_getElem? (i := 101) rfl)) rfl, List.forall_mem_cons.mpr ⟨gmU (gt2 _ (List.mem_of_getElem? (i := 103) rfl)) rfl, List.forall_mem_cons.mpr ⟨gmU (gt2 _ (List.mem_of_getElem? (i := 105) rfl)) rfl, List.forall_mem_cons.mpr ⟨gmU (gt2 _ (List.mem_of_getElem? (i := 107) rfl)) rfl, List.forall_mem_cons.mpr ⟨gmU (gt2 _ (List.mem_of_getElem? (i := 109) rfl)) rfl, List.forall_mem_cons.mpr ⟨gmU (gt2 _ (List.mem_of_getElem? (i := 111) rfl)) rfl, List.forall_mem_cons.mpr ⟨gmU (gt2 _ (List.mem_of_getElem? (i := 113) rfl)) rfl, List.forall_mem_cons.mpr ⟨gmU (gt2 _ (List.mem_of_getElem? (i := 115) rfl)) rfl, List.forall_mem_cons.mpr ⟨gmU (gt2 _ (List.mem_of_getElem? (i := 117) rfl)) rfl, List.forall_mem_cons.mpr ⟨gmU (gt2 _ (List.mem_of_getElem? (i := 119) rfl)) rfl, List.forall_mem_cons.mpr ⟨gmU (gt2 _ (List.mem_of_getElem? (i := 121) rfl)) rfl, List.forall_mem_cons.mpr ⟨gmU (gt2 _ (List.mem_of_getElem? (i := 123) rfl)) rfl, List.forall_mem_cons.mpr ⟨gmU (gt2 _ (List.mem_of_getElem? (i := 125) rfl)) rfl, List.forall_mem_cons.mpr ⟨gmU (gt2 _ (List.mem_of_getElem? (i := 127) rfl)) rfl, List.forall_mem_cons.mpr ⟨gmU (gt2 _ (List.mem_of_getElem? (i := 129) rfl)) rfl, List.forall_mem_cons.mpr ⟨gmU (gt2 _ (List.mem_of_getElem? (i := 131) rfl)) rfl, fun _ h => absurd h List.not_mem_nil⟩⟩⟩⟩⟩⟩⟩⟩⟩⟩⟩⟩⟩⟩⟩⟩)
set_option maxRecDepth 20000 in
theorem inU_X10 : ∀ w ∈ u_ws RX10 TX10 54, w ∈ gU := (show ∀ w ∈ [u_lay RX10 TX10 0, u_lay RX10 TX10 1, u_lay RX10 TX10 2, u_lay RX10 TX10 3, u_lay RX10 TX10 4, u_lay RX10 TX10 5, u_lay RX10 TX10 6, u_lay RX10 TX10 7, u_lay RX10 TX10 8, u_lay RX10 TX10 9, u_lay RX10 TX10 10, u_lay RX10 TX10 11, u_lay RX10 TX10 12, u_lay RX10 TX10 13, u_lay RX10 TX10 14, u_lay RX10 TX10 15, u_lay RX10 TX10 16, u_lay RX10 TX10 17, u_lay RX10 TX10 18, u_lay RX10 TX10 19, u_lay RX10 TX10 20, u_lay RX10 TX10 21, u_lay RX10 TX10 22, u_lay RX10 TX10 23, u_lay RX10 TX10 24, u_lay RX10 TX10 25, u_lay RX10 TX10 26, u_lay RX10 TX10 27, u_lay RX10 TX10 28, u_lay RX10 TX10 29, u_lay RX10 TX10 30, u_lay RX10 TX10 31, u_lay RX10 TX10 32, u_lay RX10 TX10 33, u_lay RX10 TX10 34, u_lay RX10 TX10 35, u_lay RX10 TX10 36, u_lay RX10 TX10 37, u_lay RX10 TX10 38, u_lay RX10 TX10 39, u_lay RX10 TX10 40, u_lay RX10 TX10 41, u_lay RX10 TX10 42, u_lay RX10 TX10 43, u_lay RX10 TX10 44, u_lay RX10 TX10 45, u_lay RX10 TX10 46, u_lay RX10 TX10 47, u_lay RX10 TX10 48, u_lay RX10 TX10 49, u_lay RX10 TX10 50, u_lay RX10 TX10 51, u_lay RX10 TX10 52, u_lay RX10 TX10 53], w ∈ gU from List.forall_mem_cons.mpr ⟨gmU (gt6 _ (List.mem_of_getElem? (i := 112) rfl)) rfl, List.forall_mem_cons.mpr ⟨gmU (gt6 _ (List.mem_of_getElem? (i := 114) rfl)) rfl, List.forall_mem_cons.mpr ⟨gmU (gt6 _ (List.mem_of_getElem? (i := 116) rfl)) rfl, List.forall_mem_cons.mpr ⟨gmU (gt6 _ (List.mem_of_getElem? (i := 118) rfl)) rfl, List.forall_mem_cons.mpr ⟨gmU (gt6 _ (List.mem_of_getElem? (i := 120) rfl)) rfl, List.forall_mem_cons.mpr ⟨gmU (gt6 _ (List.mem_of_getElem? (i := 122) rfl)) rfl, List.forall_mem_cons.mpr ⟨gmU (gt6 _ (List.mem_of_getElem? (i := 124) rfl)) rfl, List.forall_mem_cons.mpr ⟨gmU (gt6 _ (List.mem_of_getElem? (i := 126) rfl)) rfl, List.forall_mem_cons.mpr ⟨gmU (gt6 _ (List.mem_of_getElem? (i := 128) rfl)) rfl, List.forall_mem_cons.mpr ⟨gmU (gt6 _ (List.mem_of_getElem? (i := 130) rfl)) rfl, List.forall_mem_cons.mpr ⟨gmU (gt6 _ (List.mem_of_getElem? (i := 132) rfl)) rfl, List.forall_mem_cons.mpr ⟨gmU (gt6 _ (List.mem_of_getElem? (i := 134) rfl)) rfl, List.forall_mem_cons.mpr ⟨gmU (gt6 _ (List.mem_of_getElem? (i := 136) rfl)) rfl, List.forall_mem_cons.mpr ⟨gmU (gt6 _ (List.mem_of_getElem? (i := 138) rfl)) rfl, List.forall_mem_cons.mpr ⟨gmU (gt6 _ (List.mem_of_getElem? (i := 140) rfl)) rfl, List.forall_mem_cons.mpr ⟨gmU (gt6 _ (List.mem_of_getElem? (i := 142) rfl)) rfl, List.forall_mem_cons.mpr ⟨gmU (gt6 _ (List.mem_of_getElem? (i := 144) rfl)) rfl, List.forall_mem_cons.mpr ⟨gmU (gt6 _ (List.mem_of_getElem? (i := 146) rfl)) rfl, List.forall_mem_cons.mpr ⟨gmU (gt6 _ (List.mem_of_getElem? (i := 148) rfl)) rfl, List.forall_mem_cons.mpr ⟨gmU (gt6 _ (List.mem_of_getElem? (i := 150) rfl)) rfl, List.forall_mem_cons.mpr ⟨gmU (gt6 _ (List.mem_of_getElem? (i := 152) rfl)) rfl, List.forall_mem_cons.mpr ⟨gmU (gt6 _ (List.mem_of_getElem? (i := 154) rfl)) rfl, List.forall_mem_cons.mpr ⟨gmU (gt6 _ (List.mem_of_getElem? (i := 156) rfl)) rfl, List.forall_mem_cons.mpr ⟨gmU (gt6 _ (List.mem_of_getElem? (i := 158) rfl)) rfl, List.forall_mem_cons.mpr ⟨gmU (gt6 _ (List.mem_of_getElem? (i := 160) rfl)) rfl, List.forall_mem_cons.mpr ⟨gmU (gt6 _ (List.mem_of_getElem? (i := 162) rfl)) rfl, List.forall_mem_cons.mpr ⟨gmU (gt6 _ (List.mem_of_getElem? (i := 164) rfl)) rfl, List.forall_mem_cons.mpr ⟨gmU (gt6 _ (List.mem_of_getElem? (i := 166) rfl)) rfl, List.forall_mem_cons.mpr ⟨gmU (gt6 _ (List.mem_of_getElem? (i := 168) rfl)) rfl, List.forall_mem_cons.mpr ⟨gmU (gt6 _ (List.mem_of_getElem? (i := 170) rfl)) rfl, List.forall_mem_cons.mpr ⟨gmU (gt6 _ (List.mem_of_getElem? (i := 172) rfl)) rfl, List.forall_mem_cons.mpr ⟨gmU (gt6 _ (List.mem_of_getElem? (i := 174) rfl)) rfl, List.forall_mem_cons.mpr ⟨gmU (gt6 _ (List.mem_of_getElem? (i := 176) rfl)) rfl, List.forall_mem_cons.mpr ⟨gmU (gt6 _ (List.mem_of_getElem? (i := 178) rfl)) rfl, List.forall_mem_cons.mpr ⟨gmU (gt6 _ (List.mem_of_getElem? (i := 180) rfl)) rfl, List.forall_mem_cons.mpr ⟨gmU (gt6 _ (List.mem_of_getElem? (i := 182) rfl)) rfl, List.forall_mem_cons.mpr ⟨gmU (gt6 _ (List.mem_of_getElem? (i := 184) rfl)) rfl, List.forall_mem_cons.mpr ⟨gmU (gt6 _ (List.mem_of_getElem? (i := 186) rfl)) rfl, List.forall_mem_cons.mpr ⟨gmU (gt6 _ (List.mem_of_getElem? (i := 188) rfl)) rfl, List.forall_mem_cons.mpr ⟨gmU (gt6 _ (List.mem_of_getElem? (i := 190) rfl)) rfl, List.forall_mem_cons.mpr ⟨gmU (gt6 _ (List.mem_of_getElem? (i := 192) rfl)) rfl, List.forall_mem_cons.mpr ⟨gmU (gt6 _ (List.mem_of_getElem? (i := 194) rfl)) rfl, List.forall_mem_cons.mpr ⟨gmU (gt6 _ (List.mem_of_getElem? (i := 196) rfl)) rfl, List.forall_mem_cons.mpr ⟨gmU (gt6 _ (List.mem_of_getElem? (i := 198) rfl)) rfl, List.forall_mem_cons.mpr ⟨gmU (gt6 _ (List.mem_of_getElem? (i := 200) rfl)) rfl, List.forall_mem_cons.mpr ⟨gmU (gt6 _ (List.mem_of_getElem? (i := 202) rfl)) rfl, List.forall_mem_cons.mpr ⟨gmU (gt6 _ (List.mem_of_getElem? (i := 204) rfl)) rfl, List.forall_mem_cons.mpr ⟨gmU (gt6 _ (List.mem_of_getElem? (i := 206) rfl)) rfl, List.forall_mem_cons.mpr ⟨gmU (gt6 _ (List.mem_of_getElem? (i := 208) rfl)) rfl, List.forall_mem_cons.mpr ⟨gmU (gt6 _ (List.mem_of_getElem? (i := 210) rfl)) rfl, List.forall_mem_cons.mpr ⟨gmU (gt6 _ (List.mem_of_getElem? (i := 212) rfl)) rfl, List.forall_mem_cons.mpr ⟨gmU (gt6 _ (List.mem_of_getElem? (i := 214) rfl)) rfl, List.forall_mem_cons.mpr ⟨gmU (gt6 _ (List.mem_of_getElem? (i := 216) rfl)) rfl, List.forall_mem_cons.mpr ⟨gmU (gt6 _ (List.mem_of_getElem? (i := 218) rfl)) rfl, fun _ h => absurd h List.not_mem_nil⟩⟩⟩⟩⟩⟩⟩⟩⟩⟩⟩⟩⟩⟩⟩⟩⟩⟩⟩⟩⟩⟩⟩⟩⟩⟩⟩⟩⟩⟩⟩⟩⟩⟩⟩⟩⟩⟩⟩⟩⟩⟩⟩⟩⟩⟩⟩⟩⟩⟩⟩⟩⟩⟩)
