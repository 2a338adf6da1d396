/-! ===== the law's wrappers ===== -/
def gInfWL : List gInf := [(yL_state, cL_state, 4, (some .int), 1, [(0, 9, 12, 13)]),
  (yL_law, cL_law, 4, (some .int), 1, [(0, 9, 12, 13)]),
  (yL_work, cL_work, 4, (some .int), 1, [(0, 9, 12, 13)]),
  (yL_book, cL_book, 4, (some .int), 1, [(0, 9, 12, 13)]),
  (yL_told, cL_told, 4, (some .int), 1, [(0, 9, 12, 13)]),
  (yL_town, cL_town, 5, (some .int), 2, [(0, 10, 13, 31), (0, 10, 17, 13)]),
  (yL_road, cL_road, 5, (some .int), 2, [(0, 10, 13, 31), (0, 10, 17, 13)]),
  (yL_seats, cL_seats, 4, (some .int), 1, [(0, 9, 12, 13)]),
  (yL_would, cL_would, 13, (some .int), 4, [(0, 26, 29, 13)]),
  (yL_can, cL_can, 6, (some .int), 2, [(0, 19, 22, 31)]),
  (yL_ahead, cL_ahead, 5, (some .int), 1, [(0, 10, 13, 13)]),
  (yL_turn, cL_turn, 5, (some .int), 1, [(0, 10, 13, 13)]),
  (yL_swing, cL_swing, 4, (some .int), 1, [(0, 9, 12, 31)]),
  (yL_given, cL_given, 5, (some .int), 2, [(0, 10, 13, 31), (0, 10, 17, 13)]),
  (yL_league, cL_league, 4, (some .int), 1, [(0, 9, 12, 13)]),
  (yL_drift, cL_drift, 4, (some .int), 1, [(0, 9, 12, 13)]),
  (yL_look, cL_look, 4, (some .int), 1, [(0, 9, 12, 13)]),
  (yL_commas, cL_commas, 6, (some .int), 1, [(0, 12, 15, 13)]),
  (yL_odds, cL_odds, 6, (some .int), 2, [(0, 11, 14, 31), (0, 11, 18, 13)]),
  (yL_speak, cL_speak, 5, (some .int), 1, [(0, 10, 13, 13)]),
  (yL_bread, cL_bread, 6, (some .int), 2, [(0, 12, 15, 31), (0, 12, 19, 13)]),
  (yL_closest, cL_closest, 4, (some .int), 1, [(0, 9, 12, 13)]),
  (yL_safest, cL_safest, 4, (some .int), 1, [(0, 9, 12, 13)]),
  (yL_till, cL_till, 4, (some .int), 1, [(0, 9, 12, 13)]),
  (yL_most, cL_most, 5, (some .int), 2, [(0, 10, 13, 31)]),
  (yL_sides, cL_sides, 4, (some .int), 1, [(0, 9, 12, 13)]),
  (yL_lightest, cL_lightest, 4, (some .int), 1, [(0, 9, 12, 13)]),
  (yL_term, cL_term, 7, (some .int), 1, [(0, 14, 17, 13)]),
  (yL_span, cL_span, 8, (some .int), 2, [(0, 16, 19, 13)])]
def gInfW : Nat → gInf := fun M => if M < 258 then gInfT M else gInfWL.getD (M - 258) (yX0_clear, cX0_clear, 0, none, 0, [])
set_option maxRecDepth 20000 in
theorem wl_RL_13 : Cond.classLink RL 13 "java/lang/IllegalArgumentException" ∈ gU := gmU (gt3 _ (List.mem_of_getElem? (i := 0) rfl)) rfl
set_option maxRecDepth 20000 in
theorem wm_RL_7 : Cond.methodLink RL 7 yX9_state ∈ gU := gmU (gt3 _ (List.mem_of_getElem? (i := 1) rfl)) rfl
set_option maxRecDepth 20000 in
theorem winstanceMethod_yX9_state : Cond.instanceMethod yX9_state ∈ gU := gmU (gt3 _ (List.mem_of_getElem? (i := 2) rfl)) rfl
set_option maxRecDepth 20000 in
theorem ws_yX9_state : Cond.selects yX9_state.cls yX9_state yX9_state ∈ gU := gmU (gt3 _ (List.mem_of_getElem? (i := 3) rfl)) rfl
set_option maxRecDepth 20000 in
theorem wc_yX9_state : Cond.code yX9_state cX9_state 3 (some .int) ∈ gU := gmU (gt3 _ (List.mem_of_getElem? (i := 4) rfl)) rfl
set_option maxRecDepth 20000 in
theorem wm_RL_15 : Cond.methodLink RL 15 yX9_law ∈ gU := gmU (gt3 _ (List.mem_of_getElem? (i := 221) rfl)) rfl
set_option maxRecDepth 20000 in
theorem winstanceMethod_yX9_law : Cond.instanceMethod yX9_law ∈ gU := gmU (gt3 _ (List.mem_of_getElem? (i := 222) rfl)) rfl
set_option maxRecDepth 20000 in
theorem ws_yX9_law : Cond.selects yX9_law.cls yX9_law yX9_law ∈ gU := gmU (gt3 _ (List.mem_of_getElem? (i := 223) rfl)) rfl
set_option maxRecDepth 20000 in
theorem wc_yX9_law : Cond.code yX9_law cX9_law 3 (some .int) ∈ gU := gmU (gt3 _ (List.mem_of_getElem? (i := 224) rfl)) rfl
set_option maxRecDepth 20000 in
theorem wm_RL_18 : Cond.methodLink RL 18 yX9_work ∈ gU := gmU (gt4 _ (List.mem_of_getElem? (i := 12) rfl)) rfl
set_option maxRecDepth 20000 in
theorem winstanceMethod_yX9_work : Cond.instanceMethod yX9_work ∈ gU := gmU (gt4 _ (List.mem_of_getElem? (i := 13) rfl)) rfl
set_option maxRecDepth 20000 in
theorem ws_yX9_work : Cond.selects yX9_work.cls yX9_work yX9_work ∈ gU := gmU (gt4 _ (List.mem_of_getElem? (i := 14) rfl)) rfl
set_option maxRecDepth 20000 in
theorem wc_yX9_work : Cond.code yX9_work cX9_work 2 (some .int) ∈ gU := gmU (gt4 _ (List.mem_of_getElem? (i := 15) rfl)) rfl
set_option maxRecDepth 20000 in
theorem wm_RL_21 : Cond.methodLink RL 21 yX9_book ∈ gU := gmU (gt4 _ (List.mem_of_getElem? (i := 122) rfl)) rfl
set_option maxRecDepth 20000 in
theorem winstanceMethod_yX9_book : Cond.instanceMethod yX9_book ∈ gU := gmU (gt4 _ (List.mem_of_getElem? (i := 123) rfl)) rfl
set_option maxRecDepth 20000 in
theorem ws_yX9_book : Cond.selects yX9_book.cls yX9_book yX9_book ∈ gU := gmU (gt4 _ (List.mem_of_getElem? (i := 124) rfl)) rfl
set_option maxRecDepth 20000 in
theorem wc_yX9_book : Cond.code yX9_book cX9_book 3 (some .int) ∈ gU := gmU (gt4 _ (List.mem_of_getElem? (i := 125) rfl)) rfl
set_option maxRecDepth 20000 in
theorem wm_RL_24 : Cond.methodLink RL 24 yX9_told ∈ gU := gmU (gt4 _ (List.mem_of_getElem? (i := 148) rfl)) rfl
set_option maxRecDepth 20000 in
theorem winstanceMethod_yX9_told : Cond.instanceMethod yX9_told ∈ gU := gmU (gt4 _ (List.mem_of_getElem? (i := 149) rfl)) rfl
set_option maxRecDepth 20000 in
theorem ws_yX9_told : Cond.selects yX9_told.cls yX9_told yX9_told ∈ gU := gmU (gt4 _ (List.mem_of_getElem? (i := 150) rfl)) rfl
set_option maxRecDepth 20000 in
theorem wc_yX9_told : Cond.code yX9_told cX9_told 2 (some .int) ∈ gU := gmU (gt4 _ (List.mem_of_getElem? (i := 151) rfl)) rfl
set_option maxRecDepth 20000 in
theorem wl_RL_31 : Cond.classLink RL 31 "java/util/NoSuchElementException" ∈ gU := gmU (gt4 _ (List.mem_of_getElem? (i := 168) rfl)) rfl
set_option maxRecDepth 20000 in
theorem wm_RL_27 : Cond.methodLink RL 27 yX9_town ∈ gU := gmU (gt4 _ (List.mem_of_getElem? (i := 169) rfl)) rfl
set_option maxRecDepth 20000 in
theorem winstanceMethod_yX9_town : Cond.instanceMethod yX9_town ∈ gU := gmU (gt4 _ (List.mem_of_getElem? (i := 170) rfl)) rfl
set_option maxRecDepth 20000 in
theorem ws_yX9_town : Cond.selects yX9_town.cls yX9_town yX9_town ∈ gU := gmU (gt4 _ (List.mem_of_getElem? (i := 171) rfl)) rfl
set_option maxRecDepth 20000 in
theorem wc_yX9_town : Cond.code yX9_town cX9_town 3 (some .int) ∈ gU := gmU (gt4 _ (List.mem_of_getElem? (i := 172) rfl)) rfl
set_option maxRecDepth 20000 in
theorem wm_RL_33 : Cond.methodLink RL 33 yX9_road ∈ gU := gmU (gt4 _ (List.mem_of_getElem? (i := 206) rfl)) rfl
set_option maxRecDepth 20000 in
theorem winstanceMethod_yX9_road : Cond.instanceMethod yX9_road ∈ gU := gmU (gt4 _ (List.mem_of_getElem? (i := 207) rfl)) rfl
set_option maxRecDepth 20000 in
theorem ws_yX9_road : Cond.selects yX9_road.cls yX9_road yX9_road ∈ gU := gmU (gt4 _ (List.mem_of_getElem? (i := 208) rfl)) rfl
set_option maxRecDepth 20000 in
theorem wc_yX9_road : Cond.code yX9_road cX9_road 3 (some .int) ∈ gU := gmU (gt4 _ (List.mem_of_getElem? (i := 209) rfl)) rfl
set_option maxRecDepth 20000 in
theorem wm_RL_36 : Cond.methodLink RL 36 yX9_seats ∈ gU := gmU (gt4 _ (List.mem_of_getElem? (i := 213) rfl)) rfl
set_option maxRecDepth 20000 in
theorem winstanceMethod_yX9_seats : Cond.instanceMethod yX9_seats ∈ gU := gmU (gt4 _ (List.mem_of_getElem? (i := 214) rfl)) rfl
set_option maxRecDepth 20000 in
theorem ws_yX9_seats : Cond.selects yX9_seats.cls yX9_seats yX9_seats ∈ gU := gmU (gt4 _ (List.mem_of_getElem? (i := 215) rfl)) rfl
set_option maxRecDepth 20000 in
theorem wc_yX9_seats : Cond.code yX9_seats cX9_seats 2 (some .int) ∈ gU := gmU (gt4 _ (List.mem_of_getElem? (i := 216) rfl)) rfl
set_option maxRecDepth 20000 in
theorem wm_RL_39 : Cond.methodLink RL 39 yX9_would ∈ gU := gmU (gt4 _ (List.mem_of_getElem? (i := 220) rfl)) rfl
set_option maxRecDepth 20000 in
theorem winstanceMethod_yX9_would : Cond.instanceMethod yX9_would ∈ gU := gmU (gt4 _ (List.mem_of_getElem? (i := 221) rfl)) rfl
set_option maxRecDepth 20000 in
theorem ws_yX9_would : Cond.selects yX9_would.cls yX9_would yX9_would ∈ gU := gmU (gt4 _ (List.mem_of_getElem? (i := 222) rfl)) rfl
set_option maxRecDepth 20000 in
theorem wc_yX9_would : Cond.code yX9_would cX9_would 11 (some .int) ∈ gU := gmU (gt4 _ (List.mem_of_getElem? (i := 223) rfl)) rfl
set_option maxRecDepth 20000 in
theorem wm_RL_43 : Cond.methodLink RL 43 yX9_can ∈ gU := gmU (gt4 _ (List.mem_of_getElem? (i := 230) rfl)) rfl
set_option maxRecDepth 20000 in
theorem winstanceMethod_yX9_can : Cond.instanceMethod yX9_can ∈ gU := gmU (gt4 _ (List.mem_of_getElem? (i := 231) rfl)) rfl
set_option maxRecDepth 20000 in
theorem ws_yX9_can : Cond.selects yX9_can.cls yX9_can yX9_can ∈ gU := gmU (gt4 _ (List.mem_of_getElem? (i := 232) rfl)) rfl
set_option maxRecDepth 20000 in
theorem wc_yX9_can : Cond.code yX9_can cX9_can 4 (some .boolean) ∈ gU := gmU (gt4 _ (List.mem_of_getElem? (i := 233) rfl)) rfl
set_option maxRecDepth 20000 in
theorem wm_RL_47 : Cond.methodLink RL 47 yX9_ahead ∈ gU := gmU (gt4 _ (List.mem_of_getElem? (i := 238) rfl)) rfl
set_option maxRecDepth 20000 in
theorem winstanceMethod_yX9_ahead : Cond.instanceMethod yX9_ahead ∈ gU := gmU (gt4 _ (List.mem_of_getElem? (i := 239) rfl)) rfl
set_option maxRecDepth 20000 in
theorem ws_yX9_ahead : Cond.selects yX9_ahead.cls yX9_ahead yX9_ahead ∈ gU := gmU (gt5 _ (List.mem_of_getElem? (i := 0) rfl)) rfl
set_option maxRecDepth 20000 in
theorem wc_yX9_ahead : Cond.code yX9_ahead cX9_ahead 3 (some .int) ∈ gU := gmU (gt5 _ (List.mem_of_getElem? (i := 1) rfl)) rfl
set_option maxRecDepth 20000 in
theorem wm_RL_50 : Cond.methodLink RL 50 yX9_turn ∈ gU := gmU (gt5 _ (List.mem_of_getElem? (i := 11) rfl)) rfl
set_option maxRecDepth 20000 in
theorem winstanceMethod_yX9_turn : Cond.instanceMethod yX9_turn ∈ gU := gmU (gt5 _ (List.mem_of_getElem? (i := 12) rfl)) rfl
set_option maxRecDepth 20000 in
theorem ws_yX9_turn : Cond.selects yX9_turn.cls yX9_turn yX9_turn ∈ gU := gmU (gt5 _ (List.mem_of_getElem? (i := 13) rfl)) rfl
set_option maxRecDepth 20000 in
theorem wc_yX9_turn : Cond.code yX9_turn cX9_turn 4 (some .int) ∈ gU := gmU (gt5 _ (List.mem_of_getElem? (i := 14) rfl)) rfl
set_option maxRecDepth 20000 in
theorem wm_RL_53 : Cond.methodLink RL 53 yX9_swing ∈ gU := gmU (gt5 _ (List.mem_of_getElem? (i := 30) rfl)) rfl
set_option maxRecDepth 20000 in
theorem winstanceMethod_yX9_swing : Cond.instanceMethod yX9_swing ∈ gU := gmU (gt5 _ (List.mem_of_getElem? (i := 31) rfl)) rfl
set_option maxRecDepth 20000 in
theorem ws_yX9_swing : Cond.selects yX9_swing.cls yX9_swing yX9_swing ∈ gU := gmU (gt5 _ (List.mem_of_getElem? (i := 32) rfl)) rfl
set_option maxRecDepth 20000 in
theorem wc_yX9_swing : Cond.code yX9_swing cX9_swing 2 (some .int) ∈ gU := gmU (gt5 _ (List.mem_of_getElem? (i := 33) rfl)) rfl
set_option maxRecDepth 20000 in
theorem wm_RL_56 : Cond.methodLink RL 56 yX9_given ∈ gU := gmU (gt5 _ (List.mem_of_getElem? (i := 42) rfl)) rfl
set_option maxRecDepth 20000 in
theorem winstanceMethod_yX9_given : Cond.instanceMethod yX9_given ∈ gU := gmU (gt5 _ (List.mem_of_getElem? (i := 43) rfl)) rfl
set_option maxRecDepth 20000 in
theorem ws_yX9_given : Cond.selects yX9_given.cls yX9_given yX9_given ∈ gU := gmU (gt5 _ (List.mem_of_getElem? (i := 44) rfl)) rfl
set_option maxRecDepth 20000 in
theorem wc_yX9_given : Cond.code yX9_given cX9_given 3 (some .int) ∈ gU := gmU (gt5 _ (List.mem_of_getElem? (i := 45) rfl)) rfl
set_option maxRecDepth 20000 in
theorem wm_RL_59 : Cond.methodLink RL 59 yX9_league ∈ gU := gmU (gt5 _ (List.mem_of_getElem? (i := 53) rfl)) rfl
set_option maxRecDepth 20000 in
theorem winstanceMethod_yX9_league : Cond.instanceMethod yX9_league ∈ gU := gmU (gt5 _ (List.mem_of_getElem? (i := 54) rfl)) rfl
set_option maxRecDepth 20000 in
theorem ws_yX9_league : Cond.selects yX9_league.cls yX9_league yX9_league ∈ gU := gmU (gt5 _ (List.mem_of_getElem? (i := 55) rfl)) rfl
set_option maxRecDepth 20000 in
theorem wc_yX9_league : Cond.code yX9_league cX9_league 2 (some .int) ∈ gU := gmU (gt5 _ (List.mem_of_getElem? (i := 56) rfl)) rfl
set_option maxRecDepth 20000 in
theorem wm_RL_62 : Cond.methodLink RL 62 yX9_drift ∈ gU := gmU (gt5 _ (List.mem_of_getElem? (i := 69) rfl)) rfl
set_option maxRecDepth 20000 in
theorem winstanceMethod_yX9_drift : Cond.instanceMethod yX9_drift ∈ gU := gmU (gt5 _ (List.mem_of_getElem? (i := 70) rfl)) rfl
set_option maxRecDepth 20000 in
theorem ws_yX9_drift : Cond.selects yX9_drift.cls yX9_drift yX9_drift ∈ gU := gmU (gt5 _ (List.mem_of_getElem? (i := 71) rfl)) rfl
set_option maxRecDepth 20000 in
theorem wc_yX9_drift : Cond.code yX9_drift cX9_drift 2 (some .int) ∈ gU := gmU (gt5 _ (List.mem_of_getElem? (i := 72) rfl)) rfl
set_option maxRecDepth 20000 in
theorem wm_RL_65 : Cond.methodLink RL 65 yX9_look ∈ gU := gmU (gt5 _ (List.mem_of_getElem? (i := 90) rfl)) rfl
set_option maxRecDepth 20000 in
theorem winstanceMethod_yX9_look : Cond.instanceMethod yX9_look ∈ gU := gmU (gt5 _ (List.mem_of_getElem? (i := 91) rfl)) rfl
set_option maxRecDepth 20000 in
theorem ws_yX9_look : Cond.selects yX9_look.cls yX9_look yX9_look ∈ gU := gmU (gt5 _ (List.mem_of_getElem? (i := 92) rfl)) rfl
set_option maxRecDepth 20000 in
theorem wc_yX9_look : Cond.code yX9_look cX9_look 3 (some .int) ∈ gU := gmU (gt5 _ (List.mem_of_getElem? (i := 93) rfl)) rfl
set_option maxRecDepth 20000 in
theorem wm_RL_68 : Cond.methodLink RL 68 yX9_commas ∈ gU := gmU (gt5 _ (List.mem_of_getElem? (i := 107) rfl)) rfl
set_option maxRecDepth 20000 in
theorem winstanceMethod_yX9_commas : Cond.instanceMethod yX9_commas ∈ gU := gmU (gt5 _ (List.mem_of_getElem? (i := 108) rfl)) rfl
set_option maxRecDepth 20000 in
theorem ws_yX9_commas : Cond.selects yX9_commas.cls yX9_commas yX9_commas ∈ gU := gmU (gt5 _ (List.mem_of_getElem? (i := 109) rfl)) rfl
set_option maxRecDepth 20000 in
theorem wc_yX9_commas : Cond.code yX9_commas cX9_commas 5 (some .int) ∈ gU := gmU (gt5 _ (List.mem_of_getElem? (i := 110) rfl)) rfl
set_option maxRecDepth 20000 in
theorem wm_RL_72 : Cond.methodLink RL 72 yX9_odds ∈ gU := gmU (gt5 _ (List.mem_of_getElem? (i := 117) rfl)) rfl
set_option maxRecDepth 20000 in
theorem winstanceMethod_yX9_odds : Cond.instanceMethod yX9_odds ∈ gU := gmU (gt5 _ (List.mem_of_getElem? (i := 118) rfl)) rfl
set_option maxRecDepth 20000 in
theorem ws_yX9_odds : Cond.selects yX9_odds.cls yX9_odds yX9_odds ∈ gU := gmU (gt5 _ (List.mem_of_getElem? (i := 119) rfl)) rfl
set_option maxRecDepth 20000 in
theorem wc_yX9_odds : Cond.code yX9_odds cX9_odds 13 (some .long) ∈ gU := gmU (gt5 _ (List.mem_of_getElem? (i := 120) rfl)) rfl
set_option maxRecDepth 20000 in
theorem wm_RL_76 : Cond.methodLink RL 76 yX9_speak ∈ gU := gmU (gt5 _ (List.mem_of_getElem? (i := 136) rfl)) rfl
set_option maxRecDepth 20000 in
theorem winstanceMethod_yX9_speak : Cond.instanceMethod yX9_speak ∈ gU := gmU (gt5 _ (List.mem_of_getElem? (i := 137) rfl)) rfl
set_option maxRecDepth 20000 in
theorem ws_yX9_speak : Cond.selects yX9_speak.cls yX9_speak yX9_speak ∈ gU := gmU (gt5 _ (List.mem_of_getElem? (i := 138) rfl)) rfl
set_option maxRecDepth 20000 in
theorem wc_yX9_speak : Cond.code yX9_speak cX9_speak 3 (some .int) ∈ gU := gmU (gt5 _ (List.mem_of_getElem? (i := 139) rfl)) rfl
set_option maxRecDepth 20000 in
theorem wm_RL_79 : Cond.methodLink RL 79 yX9_bread ∈ gU := gmU (gt5 _ (List.mem_of_getElem? (i := 161) rfl)) rfl
set_option maxRecDepth 20000 in
theorem winstanceMethod_yX9_bread : Cond.instanceMethod yX9_bread ∈ gU := gmU (gt5 _ (List.mem_of_getElem? (i := 162) rfl)) rfl
set_option maxRecDepth 20000 in
theorem ws_yX9_bread : Cond.selects yX9_bread.cls yX9_bread yX9_bread ∈ gU := gmU (gt5 _ (List.mem_of_getElem? (i := 163) rfl)) rfl
set_option maxRecDepth 20000 in
theorem wc_yX9_bread : Cond.code yX9_bread cX9_bread 4 (some .int) ∈ gU := gmU (gt5 _ (List.mem_of_getElem? (i := 164) rfl)) rfl
set_option maxRecDepth 20000 in
theorem wm_RL_82 : Cond.methodLink RL 82 yX9_closest ∈ gU := gmU (gt5 _ (List.mem_of_getElem? (i := 177) rfl)) rfl
set_option maxRecDepth 20000 in
theorem winstanceMethod_yX9_closest : Cond.instanceMethod yX9_closest ∈ gU := gmU (gt5 _ (List.mem_of_getElem? (i := 178) rfl)) rfl
set_option maxRecDepth 20000 in
theorem ws_yX9_closest : Cond.selects yX9_closest.cls yX9_closest yX9_closest ∈ gU := gmU (gt5 _ (List.mem_of_getElem? (i := 179) rfl)) rfl
set_option maxRecDepth 20000 in
theorem wc_yX9_closest : Cond.code yX9_closest cX9_closest 3 (some .int) ∈ gU := gmU (gt5 _ (List.mem_of_getElem? (i := 180) rfl)) rfl
set_option maxRecDepth 20000 in
theorem wm_RL_85 : Cond.methodLink RL 85 yX9_safest ∈ gU := gmU (gt5 _ (List.mem_of_getElem? (i := 196) rfl)) rfl
set_option maxRecDepth 20000 in
theorem winstanceMethod_yX9_safest : Cond.instanceMethod yX9_safest ∈ gU := gmU (gt5 _ (List.mem_of_getElem? (i := 197) rfl)) rfl
set_option maxRecDepth 20000 in
theorem ws_yX9_safest : Cond.selects yX9_safest.cls yX9_safest yX9_safest ∈ gU := gmU (gt5 _ (List.mem_of_getElem? (i := 198) rfl)) rfl
set_option maxRecDepth 20000 in
theorem wc_yX9_safest : Cond.code yX9_safest cX9_safest 3 (some .int) ∈ gU := gmU (gt5 _ (List.mem_of_getElem? (i := 199) rfl)) rfl
set_option maxRecDepth 20000 in
theorem wm_RL_88 : Cond.methodLink RL 88 yX9_till ∈ gU := gmU (gt5 _ (List.mem_of_getElem? (i := 207) rfl)) rfl
set_option maxRecDepth 20000 in
theorem winstanceMethod_yX9_till : Cond.instanceMethod yX9_till ∈ gU := gmU (gt5 _ (List.mem_of_getElem? (i := 208) rfl)) rfl
set_option maxRecDepth 20000 in
theorem ws_yX9_till : Cond.selects yX9_till.cls yX9_till yX9_till ∈ gU := gmU (gt5 _ (List.mem_of_getElem? (i := 209) rfl)) rfl
set_option maxRecDepth 20000 in
theorem wc_yX9_till : Cond.code yX9_till cX9_till 2 (some .int) ∈ gU := gmU (gt5 _ (List.mem_of_getElem? (i := 210) rfl)) rfl
set_option maxRecDepth 20000 in
theorem wm_RL_91 : Cond.methodLink RL 91 yX9_most ∈ gU := gmU (gt5 _ (List.mem_of_getElem? (i := 218) rfl)) rfl
set_option maxRecDepth 20000 in
theorem winstanceMethod_yX9_most : Cond.instanceMethod yX9_most ∈ gU := gmU (gt5 _ (List.mem_of_getElem? (i := 219) rfl)) rfl
set_option maxRecDepth 20000 in
theorem ws_yX9_most : Cond.selects yX9_most.cls yX9_most yX9_most ∈ gU := gmU (gt5 _ (List.mem_of_getElem? (i := 220) rfl)) rfl
set_option maxRecDepth 20000 in
theorem wc_yX9_most : Cond.code yX9_most cX9_most 3 (some .int) ∈ gU := gmU (gt5 _ (List.mem_of_getElem? (i := 221) rfl)) rfl
set_option maxRecDepth 20000 in
theorem wm_RL_94 : Cond.methodLink RL 94 yX9_sides ∈ gU := gmU (gt5 _ (List.mem_of_getElem? (i := 226) rfl)) rfl
set_option maxRecDepth 20000 in
theorem winstanceMethod_yX9_sides : Cond.instanceMethod yX9_sides ∈ gU := gmU (gt5 _ (List.mem_of_getElem? (i := 227) rfl)) rfl
set_option maxRecDepth 20000 in
theorem ws_yX9_sides : Cond.selects yX9_sides.cls yX9_sides yX9_sides ∈ gU := gmU (gt5 _ (List.mem_of_getElem? (i := 228) rfl)) rfl
set_option maxRecDepth 20000 in
theorem wc_yX9_sides : Cond.code yX9_sides cX9_sides 2 (some .int) ∈ gU := gmU (gt5 _ (List.mem_of_getElem? (i := 229) rfl)) rfl
set_option maxRecDepth 20000 in
theorem wm_RL_97 : Cond.methodLink RL 97 yX9_lightest ∈ gU := gmU (gt5 _ (List.mem_of_getElem? (i := 234) rfl)) rfl
set_option maxRecDepth 20000 in
theorem winstanceMethod_yX9_lightest : Cond.instanceMethod yX9_lightest ∈ gU := gmU (gt5 _ (List.mem_of_getElem? (i := 235) rfl)) rfl
set_option maxRecDepth 20000 in
theorem ws_yX9_lightest : Cond.selects yX9_lightest.cls yX9_lightest yX9_lightest ∈ gU := gmU (gt5 _ (List.mem_of_getElem? (i := 236) rfl)) rfl
set_option maxRecDepth 20000 in
theorem wc_yX9_lightest : Cond.code yX9_lightest cX9_lightest 3 (some .int) ∈ gU := gmU (gt5 _ (List.mem_of_getElem? (i := 237) rfl)) rfl
set_option maxRecDepth 20000 in
theorem wm_RL_100 : Cond.methodLink RL 100 yX9_term ∈ gU := gmU (gt6 _ (List.mem_of_getElem? (i := 9) rfl)) rfl
set_option maxRecDepth 20000 in
theorem winstanceMethod_yX9_term : Cond.instanceMethod yX9_term ∈ gU := gmU (gt6 _ (List.mem_of_getElem? (i := 10) rfl)) rfl
set_option maxRecDepth 20000 in
theorem ws_yX9_term : Cond.selects yX9_term.cls yX9_term yX9_term ∈ gU := gmU (gt6 _ (List.mem_of_getElem? (i := 11) rfl)) rfl
set_option maxRecDepth 20000 in
theorem wc_yX9_term : Cond.code yX9_term cX9_term 5 (some .int) ∈ gU := gmU (gt6 _ (List.mem_of_getElem? (i := 12) rfl)) rfl
set_option maxRecDepth 20000 in
theorem wm_RL_104 : Cond.methodLink RL 104 yX9_span ∈ gU := gmU (gt6 _ (List.mem_of_getElem? (i := 31) rfl)) rfl
set_option maxRecDepth 20000 in
theorem winstanceMethod_yX9_span : Cond.instanceMethod yX9_span ∈ gU := gmU (gt6 _ (List.mem_of_getElem? (i := 32) rfl)) rfl
set_option maxRecDepth 20000 in
theorem ws_yX9_span : Cond.selects yX9_span.cls yX9_span yX9_span ∈ gU := gmU (gt6 _ (List.mem_of_getElem? (i := 33) rfl)) rfl
set_option maxRecDepth 20000 in
theorem wc_yX9_span : Cond.code yX9_span cX9_span 11 (some .int) ∈ gU := gmU (gt6 _ (List.mem_of_getElem? (i := 34) rfl)) rfl
set_option maxRecDepth 20000 in
theorem winstanceMethod_yX9_feed : Cond.instanceMethod yX9_feed ∈ gU := gmU (gt2 _ (List.mem_of_getElem? (i := 135) rfl)) rfl
set_option maxRecDepth 20000 in
theorem ws_yX9_feed : Cond.selects yX9_feed.cls yX9_feed yX9_feed ∈ gU := gmU (gt2 _ (List.mem_of_getElem? (i := 136) rfl)) rfl
set_option maxRecDepth 20000 in
theorem wc_yX9_feed : Cond.code yX9_feed cX9_feed 6 (some .int) ∈ gU := gmU (gt2 _ (List.mem_of_getElem? (i := 137) rfl)) rfl
set_option maxRecDepth 20000 in
theorem wm_RL_112 : Cond.methodLink RL 112 yX9_feed ∈ gU := gmU (gt2 _ (List.mem_of_getElem? (i := 134) rfl)) rfl
set_option maxRecDepth 20000 in
theorem winstanceMethod_yX10_feed : Cond.instanceMethod yX10_feed ∈ gU := gmU (gt6 _ (List.mem_of_getElem? (i := 222) rfl)) rfl
set_option maxRecDepth 20000 in
theorem ws_yX10_feed : Cond.selects yX10_feed.cls yX10_feed yX10_feed ∈ gU := gmU (gt6 _ (List.mem_of_getElem? (i := 223) rfl)) rfl
set_option maxRecDepth 20000 in
theorem wc_yX10_feed : Cond.code yX10_feed cX10_feed 8 (some .int) ∈ gU := gmU (gt6 _ (List.mem_of_getElem? (i := 224) rfl)) rfl
set_option maxRecDepth 20000 in
theorem wm_RL_115 : Cond.methodLink RL 115 yX10_feed ∈ gU := gmU (gt6 _ (List.mem_of_getElem? (i := 221) rfl)) rfl
set_option maxRecDepth 20000 in
theorem wm_RL_116 : Cond.methodLink RL 116 yL_state ∈ gU := gmU (gt2 _ (List.mem_of_getElem? (i := 237) rfl)) rfl
set_option maxRecDepth 20000 in
theorem winstanceMethod_yX10_state : Cond.instanceMethod yX10_state ∈ gU := gmU (gt6 _ (List.mem_of_getElem? (i := 230) rfl)) rfl
set_option maxRecDepth 20000 in
theorem ws_yX10_state : Cond.selects yX10_state.cls yX10_state yX10_state ∈ gU := gmU (gt6 _ (List.mem_of_getElem? (i := 231) rfl)) rfl
set_option maxRecDepth 20000 in
theorem wc_yX10_state : Cond.code yX10_state cX10_state 4 (some .int) ∈ gU := gmU (gt6 _ (List.mem_of_getElem? (i := 232) rfl)) rfl
set_option maxRecDepth 20000 in
theorem wm_RL_121 : Cond.methodLink RL 121 yX10_state ∈ gU := gmU (gt6 _ (List.mem_of_getElem? (i := 229) rfl)) rfl
set_option maxRecDepth 20000 in
theorem winstanceMethod_yX10_thrown : Cond.instanceMethod yX10_thrown ∈ gU := gmU (gt6 _ (List.mem_of_getElem? (i := 37) rfl)) rfl
set_option maxRecDepth 20000 in
theorem ws_yX10_thrown : Cond.selects yX10_thrown.cls yX10_thrown yX10_thrown ∈ gU := gmU (gt6 _ (List.mem_of_getElem? (i := 38) rfl)) rfl
set_option maxRecDepth 20000 in
theorem wc_yX10_thrown : Cond.code yX10_thrown cX10_thrown 1 (some .int) ∈ gU := gmU (gt6 _ (List.mem_of_getElem? (i := 39) rfl)) rfl
set_option maxRecDepth 20000 in
theorem wm_RL_122 : Cond.methodLink RL 122 yX10_thrown ∈ gU := gmU (gt6 _ (List.mem_of_getElem? (i := 36) rfl)) rfl
set_option maxRecDepth 20000 in
theorem wm_RL_126 : Cond.methodLink RL 126 yL_law ∈ gU := gmU (gt3 _ (List.mem_of_getElem? (i := 218) rfl)) rfl
set_option maxRecDepth 20000 in
theorem winstanceMethod_yX10_law : Cond.instanceMethod yX10_law ∈ gU := gmU (gt7 _ (List.mem_of_getElem? (i := 67) rfl)) rfl
set_option maxRecDepth 20000 in
theorem ws_yX10_law : Cond.selects yX10_law.cls yX10_law yX10_law ∈ gU := gmU (gt7 _ (List.mem_of_getElem? (i := 68) rfl)) rfl
set_option maxRecDepth 20000 in
theorem wc_yX10_law : Cond.code yX10_law cX10_law 3 (some .int) ∈ gU := gmU (gt7 _ (List.mem_of_getElem? (i := 69) rfl)) rfl
set_option maxRecDepth 20000 in
theorem wm_RL_128 : Cond.methodLink RL 128 yX10_law ∈ gU := gmU (gt7 _ (List.mem_of_getElem? (i := 66) rfl)) rfl
set_option maxRecDepth 20000 in
theorem wm_RL_129 : Cond.methodLink RL 129 yL_work ∈ gU := gmU (gt4 _ (List.mem_of_getElem? (i := 9) rfl)) rfl
set_option maxRecDepth 20000 in
theorem winstanceMethod_yX10_work : Cond.instanceMethod yX10_work ∈ gU := gmU (gt7 _ (List.mem_of_getElem? (i := 113) rfl)) rfl
set_option maxRecDepth 20000 in
theorem ws_yX10_work : Cond.selects yX10_work.cls yX10_work yX10_work ∈ gU := gmU (gt7 _ (List.mem_of_getElem? (i := 114) rfl)) rfl
set_option maxRecDepth 20000 in
theorem wc_yX10_work : Cond.code yX10_work cX10_work 4 (some .int) ∈ gU := gmU (gt7 _ (List.mem_of_getElem? (i := 115) rfl)) rfl
set_option maxRecDepth 20000 in
theorem wm_RL_131 : Cond.methodLink RL 131 yX10_work ∈ gU := gmU (gt7 _ (List.mem_of_getElem? (i := 112) rfl)) rfl
set_option maxRecDepth 20000 in
theorem wm_RL_132 : Cond.methodLink RL 132 yL_book ∈ gU := gmU (gt4 _ (List.mem_of_getElem? (i := 119) rfl)) rfl
set_option maxRecDepth 20000 in
theorem winstanceMethod_yX10_book : Cond.instanceMethod yX10_book ∈ gU := gmU (gt7 _ (List.mem_of_getElem? (i := 190) rfl)) rfl
set_option maxRecDepth 20000 in
theorem ws_yX10_book : Cond.selects yX10_book.cls yX10_book yX10_book ∈ gU := gmU (gt7 _ (List.mem_of_getElem? (i := 191) rfl)) rfl
set_option maxRecDepth 20000 in
theorem wc_yX10_book : Cond.code yX10_book cX10_book 6 (some .int) ∈ gU := gmU (gt7 _ (List.mem_of_getElem? (i := 192) rfl)) rfl
set_option maxRecDepth 20000 in
theorem wm_RL_134 : Cond.methodLink RL 134 yX10_book ∈ gU := gmU (gt7 _ (List.mem_of_getElem? (i := 189) rfl)) rfl
set_option maxRecDepth 20000 in
theorem winstanceMethod_yX9_fault : Cond.instanceMethod yX9_fault ∈ gU := gmU (gt2 _ (List.mem_of_getElem? (i := 143) rfl)) rfl
set_option maxRecDepth 20000 in
theorem ws_yX9_fault : Cond.selects yX9_fault.cls yX9_fault yX9_fault ∈ gU := gmU (gt2 _ (List.mem_of_getElem? (i := 144) rfl)) rfl
set_option maxRecDepth 20000 in
theorem wc_yX9_fault : Cond.code yX9_fault cX9_fault 1 (some .int) ∈ gU := gmU (gt2 _ (List.mem_of_getElem? (i := 145) rfl)) rfl
set_option maxRecDepth 20000 in
theorem wm_RL_135 : Cond.methodLink RL 135 yX9_fault ∈ gU := gmU (gt2 _ (List.mem_of_getElem? (i := 142) rfl)) rfl
set_option maxRecDepth 20000 in
theorem winstanceMethod_yX10_fault : Cond.instanceMethod yX10_fault ∈ gU := gmU (gt6 _ (List.mem_of_getElem? (i := 226) rfl)) rfl
set_option maxRecDepth 20000 in
theorem ws_yX10_fault : Cond.selects yX10_fault.cls yX10_fault yX10_fault ∈ gU := gmU (gt6 _ (List.mem_of_getElem? (i := 227) rfl)) rfl
set_option maxRecDepth 20000 in
theorem wc_yX10_fault : Cond.code yX10_fault cX10_fault 1 (some .int) ∈ gU := gmU (gt6 _ (List.mem_of_getElem? (i := 228) rfl)) rfl
set_option maxRecDepth 20000 in
theorem wm_RL_138 : Cond.methodLink RL 138 yX10_fault ∈ gU := gmU (gt6 _ (List.mem_of_getElem? (i := 225) rfl)) rfl
set_option maxRecDepth 20000 in
theorem winstanceMethod_yX9_undo : Cond.instanceMethod yX9_undo ∈ gU := gmU (gt2 _ (List.mem_of_getElem? (i := 147) rfl)) rfl
set_option maxRecDepth 20000 in
theorem ws_yX9_undo : Cond.selects yX9_undo.cls yX9_undo yX9_undo ∈ gU := gmU (gt2 _ (List.mem_of_getElem? (i := 148) rfl)) rfl
set_option maxRecDepth 20000 in
theorem wc_yX9_undo : Cond.code yX9_undo cX9_undo 1 (some .int) ∈ gU := gmU (gt2 _ (List.mem_of_getElem? (i := 149) rfl)) rfl
set_option maxRecDepth 20000 in
theorem wm_RL_139 : Cond.methodLink RL 139 yX9_undo ∈ gU := gmU (gt2 _ (List.mem_of_getElem? (i := 146) rfl)) rfl
set_option maxRecDepth 20000 in
theorem winstanceMethod_yX10_undo : Cond.instanceMethod yX10_undo ∈ gU := gmU (gt7 _ (List.mem_of_getElem? (i := 194) rfl)) rfl
set_option maxRecDepth 20000 in
theorem ws_yX10_undo : Cond.selects yX10_undo.cls yX10_undo yX10_undo ∈ gU := gmU (gt7 _ (List.mem_of_getElem? (i := 195) rfl)) rfl
set_option maxRecDepth 20000 in
theorem wc_yX10_undo : Cond.code yX10_undo cX10_undo 2 (some .int) ∈ gU := gmU (gt7 _ (List.mem_of_getElem? (i := 196) rfl)) rfl
set_option maxRecDepth 20000 in
theorem wm_RL_142 : Cond.methodLink RL 142 yX10_undo ∈ gU := gmU (gt7 _ (List.mem_of_getElem? (i := 193) rfl)) rfl
set_option maxRecDepth 20000 in
theorem wm_RL_143 : Cond.methodLink RL 143 yL_told ∈ gU := gmU (gt4 _ (List.mem_of_getElem? (i := 145) rfl)) rfl
set_option maxRecDepth 20000 in
theorem winstanceMethod_yX10_told : Cond.instanceMethod yX10_told ∈ gU := gmU (gt7 _ (List.mem_of_getElem? (i := 198) rfl)) rfl
set_option maxRecDepth 20000 in
theorem ws_yX10_told : Cond.selects yX10_told.cls yX10_told yX10_told ∈ gU := gmU (gt7 _ (List.mem_of_getElem? (i := 199) rfl)) rfl
set_option maxRecDepth 20000 in
theorem wc_yX10_told : Cond.code yX10_told cX10_told 2 (some .int) ∈ gU := gmU (gt7 _ (List.mem_of_getElem? (i := 200) rfl)) rfl
set_option maxRecDepth 20000 in
theorem wm_RL_145 : Cond.methodLink RL 145 yX10_told ∈ gU := gmU (gt7 _ (List.mem_of_getElem? (i := 197) rfl)) rfl
set_option maxRecDepth 20000 in
theorem wm_RL_146 : Cond.methodLink RL 146 yL_town ∈ gU := gmU (gt4 _ (List.mem_of_getElem? (i := 165) rfl)) rfl
set_option maxRecDepth 20000 in
theorem winstanceMethod_yX10_town : Cond.instanceMethod yX10_town ∈ gU := gmU (gt7 _ (List.mem_of_getElem? (i := 213) rfl)) rfl
set_option maxRecDepth 20000 in
theorem ws_yX10_town : Cond.selects yX10_town.cls yX10_town yX10_town ∈ gU := gmU (gt7 _ (List.mem_of_getElem? (i := 214) rfl)) rfl
set_option maxRecDepth 20000 in
theorem wc_yX10_town : Cond.code yX10_town cX10_town 3 (some .int) ∈ gU := gmU (gt7 _ (List.mem_of_getElem? (i := 215) rfl)) rfl
set_option maxRecDepth 20000 in
theorem wm_RL_149 : Cond.methodLink RL 149 yX10_town ∈ gU := gmU (gt7 _ (List.mem_of_getElem? (i := 212) rfl)) rfl
set_option maxRecDepth 20000 in
theorem wm_RL_150 : Cond.methodLink RL 150 yL_road ∈ gU := gmU (gt4 _ (List.mem_of_getElem? (i := 203) rfl)) rfl
set_option maxRecDepth 20000 in
theorem winstanceMethod_yX10_road : Cond.instanceMethod yX10_road ∈ gU := gmU (gt7 _ (List.mem_of_getElem? (i := 221) rfl)) rfl
set_option maxRecDepth 20000 in
theorem ws_yX10_road : Cond.selects yX10_road.cls yX10_road yX10_road ∈ gU := gmU (gt7 _ (List.mem_of_getElem? (i := 222) rfl)) rfl
set_option maxRecDepth 20000 in
theorem wc_yX10_road : Cond.code yX10_road cX10_road 3 (some .int) ∈ gU := gmU (gt7 _ (List.mem_of_getElem? (i := 223) rfl)) rfl
set_option maxRecDepth 20000 in
theorem wm_RL_152 : Cond.methodLink RL 152 yX10_road ∈ gU := gmU (gt7 _ (List.mem_of_getElem? (i := 220) rfl)) rfl
set_option maxRecDepth 20000 in
theorem wm_RL_153 : Cond.methodLink RL 153 yL_seats ∈ gU := gmU (gt4 _ (List.mem_of_getElem? (i := 210) rfl)) rfl
set_option maxRecDepth 20000 in
theorem winstanceMethod_yX10_seats : Cond.instanceMethod yX10_seats ∈ gU := gmU (gt7 _ (List.mem_of_getElem? (i := 225) rfl)) rfl
set_option maxRecDepth 20000 in
theorem ws_yX10_seats : Cond.selects yX10_seats.cls yX10_seats yX10_seats ∈ gU := gmU (gt7 _ (List.mem_of_getElem? (i := 226) rfl)) rfl
set_option maxRecDepth 20000 in
theorem wc_yX10_seats : Cond.code yX10_seats cX10_seats 2 (some .int) ∈ gU := gmU (gt7 _ (List.mem_of_getElem? (i := 227) rfl)) rfl
set_option maxRecDepth 20000 in
theorem wm_RL_155 : Cond.methodLink RL 155 yX10_seats ∈ gU := gmU (gt7 _ (List.mem_of_getElem? (i := 224) rfl)) rfl
set_option maxRecDepth 20000 in
theorem wm_RL_156 : Cond.methodLink RL 156 yL_would ∈ gU := gmU (gt4 _ (List.mem_of_getElem? (i := 217) rfl)) rfl
set_option maxRecDepth 20000 in
theorem winstanceMethod_yX10_would : Cond.instanceMethod yX10_would ∈ gU := gmU (gt7 _ (List.mem_of_getElem? (i := 229) rfl)) rfl
set_option maxRecDepth 20000 in
theorem ws_yX10_would : Cond.selects yX10_would.cls yX10_would yX10_would ∈ gU := gmU (gt7 _ (List.mem_of_getElem? (i := 230) rfl)) rfl
set_option maxRecDepth 20000 in
theorem wc_yX10_would : Cond.code yX10_would cX10_would 11 (some .int) ∈ gU := gmU (gt7 _ (List.mem_of_getElem? (i := 231) rfl)) rfl
set_option maxRecDepth 20000 in
theorem wm_RL_159 : Cond.methodLink RL 159 yX10_would ∈ gU := gmU (gt7 _ (List.mem_of_getElem? (i := 228) rfl)) rfl
set_option maxRecDepth 20000 in
theorem wm_RL_160 : Cond.methodLink RL 160 yL_can ∈ gU := gmU (gt4 _ (List.mem_of_getElem? (i := 227) rfl)) rfl
set_option maxRecDepth 20000 in
theorem winstanceMethod_yX10_can : Cond.instanceMethod yX10_can ∈ gU := gmU (gt7 _ (List.mem_of_getElem? (i := 233) rfl)) rfl
set_option maxRecDepth 20000 in
theorem ws_yX10_can : Cond.selects yX10_can.cls yX10_can yX10_can ∈ gU := gmU (gt7 _ (List.mem_of_getElem? (i := 234) rfl)) rfl
set_option maxRecDepth 20000 in
theorem wc_yX10_can : Cond.code yX10_can cX10_can 4 (some .boolean) ∈ gU := gmU (gt7 _ (List.mem_of_getElem? (i := 235) rfl)) rfl
set_option maxRecDepth 20000 in
theorem wm_RL_163 : Cond.methodLink RL 163 yX10_can ∈ gU := gmU (gt7 _ (List.mem_of_getElem? (i := 232) rfl)) rfl
set_option maxRecDepth 20000 in
theorem wm_RL_164 : Cond.methodLink RL 164 yL_ahead ∈ gU := gmU (gt4 _ (List.mem_of_getElem? (i := 235) rfl)) rfl
set_option maxRecDepth 20000 in
theorem winstanceMethod_yX10_ahead : Cond.instanceMethod yX10_ahead ∈ gU := gmU (gt7 _ (List.mem_of_getElem? (i := 237) rfl)) rfl
set_option maxRecDepth 20000 in
theorem ws_yX10_ahead : Cond.selects yX10_ahead.cls yX10_ahead yX10_ahead ∈ gU := gmU (gt7 _ (List.mem_of_getElem? (i := 238) rfl)) rfl
set_option maxRecDepth 20000 in
theorem wc_yX10_ahead : Cond.code yX10_ahead cX10_ahead 4 (some .int) ∈ gU := gmU (gt7 _ (List.mem_of_getElem? (i := 239) rfl)) rfl
set_option maxRecDepth 20000 in
theorem wm_RL_166 : Cond.methodLink RL 166 yX10_ahead ∈ gU := gmU (gt7 _ (List.mem_of_getElem? (i := 236) rfl)) rfl
set_option maxRecDepth 20000 in
theorem wm_RL_167 : Cond.methodLink RL 167 yL_turn ∈ gU := gmU (gt5 _ (List.mem_of_getElem? (i := 8) rfl)) rfl
set_option maxRecDepth 20000 in
theorem winstanceMethod_yX10_turn : Cond.instanceMethod yX10_turn ∈ gU := gmU (gt8 _ (List.mem_of_getElem? (i := 1) rfl)) rfl
set_option maxRecDepth 20000 in
theorem ws_yX10_turn : Cond.selects yX10_turn.cls yX10_turn yX10_turn ∈ gU := gmU (gt8 _ (List.mem_of_getElem? (i := 2) rfl)) rfl
set_option maxRecDepth 20000 in
theorem wc_yX10_turn : Cond.code yX10_turn cX10_turn 12 (some .int) ∈ gU := gmU (gt8 _ (List.mem_of_getElem? (i := 3) rfl)) rfl
set_option maxRecDepth 20000 in
theorem wm_RL_169 : Cond.methodLink RL 169 yX10_turn ∈ gU := gmU (gt8 _ (List.mem_of_getElem? (i := 0) rfl)) rfl
set_option maxRecDepth 20000 in
theorem wm_RL_170 : Cond.methodLink RL 170 yL_swing ∈ gU := gmU (gt5 _ (List.mem_of_getElem? (i := 27) rfl)) rfl
set_option maxRecDepth 20000 in
theorem winstanceMethod_yX10_swing : Cond.instanceMethod yX10_swing ∈ gU := gmU (gt8 _ (List.mem_of_getElem? (i := 9) rfl)) rfl
set_option maxRecDepth 20000 in
theorem ws_yX10_swing : Cond.selects yX10_swing.cls yX10_swing yX10_swing ∈ gU := gmU (gt8 _ (List.mem_of_getElem? (i := 10) rfl)) rfl
set_option maxRecDepth 20000 in
theorem wc_yX10_swing : Cond.code yX10_swing cX10_swing 4 (some .int) ∈ gU := gmU (gt8 _ (List.mem_of_getElem? (i := 11) rfl)) rfl
set_option maxRecDepth 20000 in
theorem wm_RL_172 : Cond.methodLink RL 172 yX10_swing ∈ gU := gmU (gt8 _ (List.mem_of_getElem? (i := 8) rfl)) rfl
set_option maxRecDepth 20000 in
theorem wm_RL_173 : Cond.methodLink RL 173 yL_given ∈ gU := gmU (gt5 _ (List.mem_of_getElem? (i := 39) rfl)) rfl
set_option maxRecDepth 20000 in
theorem winstanceMethod_yX10_given : Cond.instanceMethod yX10_given ∈ gU := gmU (gt8 _ (List.mem_of_getElem? (i := 13) rfl)) rfl
set_option maxRecDepth 20000 in
theorem ws_yX10_given : Cond.selects yX10_given.cls yX10_given yX10_given ∈ gU := gmU (gt8 _ (List.mem_of_getElem? (i := 14) rfl)) rfl
set_option maxRecDepth 20000 in
theorem wc_yX10_given : Cond.code yX10_given cX10_given 6 (some .int) ∈ gU := gmU (gt8 _ (List.mem_of_getElem? (i := 15) rfl)) rfl
set_option maxRecDepth 20000 in
theorem wm_RL_175 : Cond.methodLink RL 175 yX10_given ∈ gU := gmU (gt8 _ (List.mem_of_getElem? (i := 12) rfl)) rfl
set_option maxRecDepth 20000 in
theorem wm_RL_176 : Cond.methodLink RL 176 yL_league ∈ gU := gmU (gt5 _ (List.mem_of_getElem? (i := 50) rfl)) rfl
set_option maxRecDepth 20000 in
theorem winstanceMethod_yX10_league : Cond.instanceMethod yX10_league ∈ gU := gmU (gt8 _ (List.mem_of_getElem? (i := 17) rfl)) rfl
set_option maxRecDepth 20000 in
theorem ws_yX10_league : Cond.selects yX10_league.cls yX10_league yX10_league ∈ gU := gmU (gt8 _ (List.mem_of_getElem? (i := 18) rfl)) rfl
set_option maxRecDepth 20000 in
theorem wc_yX10_league : Cond.code yX10_league cX10_league 4 (some .int) ∈ gU := gmU (gt8 _ (List.mem_of_getElem? (i := 19) rfl)) rfl
set_option maxRecDepth 20000 in
theorem wm_RL_178 : Cond.methodLink RL 178 yX10_league ∈ gU := gmU (gt8 _ (List.mem_of_getElem? (i := 16) rfl)) rfl
set_option maxRecDepth 20000 in
theorem wm_RL_179 : Cond.methodLink RL 179 yL_drift ∈ gU := gmU (gt5 _ (List.mem_of_getElem? (i := 66) rfl)) rfl
set_option maxRecDepth 20000 in
theorem winstanceMethod_yX10_drift : Cond.instanceMethod yX10_drift ∈ gU := gmU (gt8 _ (List.mem_of_getElem? (i := 35) rfl)) rfl
set_option maxRecDepth 20000 in
theorem ws_yX10_drift : Cond.selects yX10_drift.cls yX10_drift yX10_drift ∈ gU := gmU (gt8 _ (List.mem_of_getElem? (i := 36) rfl)) rfl
set_option maxRecDepth 20000 in
theorem wc_yX10_drift : Cond.code yX10_drift cX10_drift 6 (some .int) ∈ gU := gmU (gt8 _ (List.mem_of_getElem? (i := 37) rfl)) rfl
set_option maxRecDepth 20000 in
theorem wm_RL_181 : Cond.methodLink RL 181 yX10_drift ∈ gU := gmU (gt8 _ (List.mem_of_getElem? (i := 34) rfl)) rfl
set_option maxRecDepth 20000 in
theorem wm_RL_182 : Cond.methodLink RL 182 yL_look ∈ gU := gmU (gt5 _ (List.mem_of_getElem? (i := 87) rfl)) rfl
set_option maxRecDepth 20000 in
theorem winstanceMethod_yX10_look : Cond.instanceMethod yX10_look ∈ gU := gmU (gt8 _ (List.mem_of_getElem? (i := 47) rfl)) rfl
set_option maxRecDepth 20000 in
theorem ws_yX10_look : Cond.selects yX10_look.cls yX10_look yX10_look ∈ gU := gmU (gt8 _ (List.mem_of_getElem? (i := 48) rfl)) rfl
set_option maxRecDepth 20000 in
theorem wc_yX10_look : Cond.code yX10_look cX10_look 7 (some .int) ∈ gU := gmU (gt8 _ (List.mem_of_getElem? (i := 49) rfl)) rfl
set_option maxRecDepth 20000 in
theorem wm_RL_184 : Cond.methodLink RL 184 yX10_look ∈ gU := gmU (gt8 _ (List.mem_of_getElem? (i := 46) rfl)) rfl
set_option maxRecDepth 20000 in
theorem wm_RL_185 : Cond.methodLink RL 185 yL_commas ∈ gU := gmU (gt5 _ (List.mem_of_getElem? (i := 104) rfl)) rfl
set_option maxRecDepth 20000 in
theorem winstanceMethod_yX10_commas : Cond.instanceMethod yX10_commas ∈ gU := gmU (gt8 _ (List.mem_of_getElem? (i := 51) rfl)) rfl
set_option maxRecDepth 20000 in
theorem ws_yX10_commas : Cond.selects yX10_commas.cls yX10_commas yX10_commas ∈ gU := gmU (gt8 _ (List.mem_of_getElem? (i := 52) rfl)) rfl
set_option maxRecDepth 20000 in
theorem wc_yX10_commas : Cond.code yX10_commas cX10_commas 8 (some .int) ∈ gU := gmU (gt8 _ (List.mem_of_getElem? (i := 53) rfl)) rfl
set_option maxRecDepth 20000 in
theorem wm_RL_187 : Cond.methodLink RL 187 yX10_commas ∈ gU := gmU (gt8 _ (List.mem_of_getElem? (i := 50) rfl)) rfl
set_option maxRecDepth 20000 in
theorem wm_RL_188 : Cond.methodLink RL 188 yL_odds ∈ gU := gmU (gt5 _ (List.mem_of_getElem? (i := 114) rfl)) rfl
set_option maxRecDepth 20000 in
theorem winstanceMethod_yX10_odds : Cond.instanceMethod yX10_odds ∈ gU := gmU (gt8 _ (List.mem_of_getElem? (i := 58) rfl)) rfl
set_option maxRecDepth 20000 in
theorem ws_yX10_odds : Cond.selects yX10_odds.cls yX10_odds yX10_odds ∈ gU := gmU (gt8 _ (List.mem_of_getElem? (i := 59) rfl)) rfl
set_option maxRecDepth 20000 in
theorem wc_yX10_odds : Cond.code yX10_odds cX10_odds 14 (some .long) ∈ gU := gmU (gt8 _ (List.mem_of_getElem? (i := 60) rfl)) rfl
set_option maxRecDepth 20000 in
theorem wm_RL_190 : Cond.methodLink RL 190 yX10_odds ∈ gU := gmU (gt8 _ (List.mem_of_getElem? (i := 57) rfl)) rfl
set_option maxRecDepth 20000 in
theorem wm_RL_191 : Cond.methodLink RL 191 yL_speak ∈ gU := gmU (gt5 _ (List.mem_of_getElem? (i := 133) rfl)) rfl
set_option maxRecDepth 20000 in
theorem winstanceMethod_yX10_speak : Cond.instanceMethod yX10_speak ∈ gU := gmU (gt8 _ (List.mem_of_getElem? (i := 66) rfl)) rfl
set_option maxRecDepth 20000 in
theorem ws_yX10_speak : Cond.selects yX10_speak.cls yX10_speak yX10_speak ∈ gU := gmU (gt8 _ (List.mem_of_getElem? (i := 67) rfl)) rfl
set_option maxRecDepth 20000 in
theorem wc_yX10_speak : Cond.code yX10_speak cX10_speak 6 (some .int) ∈ gU := gmU (gt8 _ (List.mem_of_getElem? (i := 68) rfl)) rfl
set_option maxRecDepth 20000 in
theorem wm_RL_193 : Cond.methodLink RL 193 yX10_speak ∈ gU := gmU (gt8 _ (List.mem_of_getElem? (i := 65) rfl)) rfl
set_option maxRecDepth 20000 in
theorem wm_RL_194 : Cond.methodLink RL 194 yL_bread ∈ gU := gmU (gt5 _ (List.mem_of_getElem? (i := 158) rfl)) rfl
set_option maxRecDepth 20000 in
theorem winstanceMethod_yX10_bread : Cond.instanceMethod yX10_bread ∈ gU := gmU (gt8 _ (List.mem_of_getElem? (i := 78) rfl)) rfl
set_option maxRecDepth 20000 in
theorem ws_yX10_bread : Cond.selects yX10_bread.cls yX10_bread yX10_bread ∈ gU := gmU (gt8 _ (List.mem_of_getElem? (i := 79) rfl)) rfl
set_option maxRecDepth 20000 in
theorem wc_yX10_bread : Cond.code yX10_bread cX10_bread 7 (some .int) ∈ gU := gmU (gt8 _ (List.mem_of_getElem? (i := 80) rfl)) rfl
set_option maxRecDepth 20000 in
theorem wm_RL_196 : Cond.methodLink RL 196 yX10_bread ∈ gU := gmU (gt8 _ (List.mem_of_getElem? (i := 77) rfl)) rfl
set_option maxRecDepth 20000 in
theorem wm_RL_197 : Cond.methodLink RL 197 yL_closest ∈ gU := gmU (gt5 _ (List.mem_of_getElem? (i := 174) rfl)) rfl
set_option maxRecDepth 20000 in
theorem winstanceMethod_yX10_closest : Cond.instanceMethod yX10_closest ∈ gU := gmU (gt8 _ (List.mem_of_getElem? (i := 86) rfl)) rfl
set_option maxRecDepth 20000 in
theorem ws_yX10_closest : Cond.selects yX10_closest.cls yX10_closest yX10_closest ∈ gU := gmU (gt8 _ (List.mem_of_getElem? (i := 87) rfl)) rfl
set_option maxRecDepth 20000 in
theorem wc_yX10_closest : Cond.code yX10_closest cX10_closest 6 (some .int) ∈ gU := gmU (gt8 _ (List.mem_of_getElem? (i := 88) rfl)) rfl
set_option maxRecDepth 20000 in
theorem wm_RL_199 : Cond.methodLink RL 199 yX10_closest ∈ gU := gmU (gt8 _ (List.mem_of_getElem? (i := 85) rfl)) rfl
set_option maxRecDepth 20000 in
theorem winstanceMethod_yX9_parts : Cond.instanceMethod yX9_parts ∈ gU := gmU (gt2 _ (List.mem_of_getElem? (i := 182) rfl)) rfl
set_option maxRecDepth 20000 in
theorem ws_yX9_parts : Cond.selects yX9_parts.cls yX9_parts yX9_parts ∈ gU := gmU (gt2 _ (List.mem_of_getElem? (i := 183) rfl)) rfl
set_option maxRecDepth 20000 in
theorem wc_yX9_parts : Cond.code yX9_parts cX9_parts 1 (some .int) ∈ gU := gmU (gt2 _ (List.mem_of_getElem? (i := 184) rfl)) rfl
set_option maxRecDepth 20000 in
theorem wm_RL_200 : Cond.methodLink RL 200 yX9_parts ∈ gU := gmU (gt2 _ (List.mem_of_getElem? (i := 181) rfl)) rfl
set_option maxRecDepth 20000 in
theorem winstanceMethod_yX10_parts : Cond.instanceMethod yX10_parts ∈ gU := gmU (gt8 _ (List.mem_of_getElem? (i := 31) rfl)) rfl
set_option maxRecDepth 20000 in
theorem ws_yX10_parts : Cond.selects yX10_parts.cls yX10_parts yX10_parts ∈ gU := gmU (gt8 _ (List.mem_of_getElem? (i := 32) rfl)) rfl
set_option maxRecDepth 20000 in
theorem wc_yX10_parts : Cond.code yX10_parts cX10_parts 4 (some .int) ∈ gU := gmU (gt8 _ (List.mem_of_getElem? (i := 33) rfl)) rfl
set_option maxRecDepth 20000 in
theorem wm_RL_203 : Cond.methodLink RL 203 yX10_parts ∈ gU := gmU (gt8 _ (List.mem_of_getElem? (i := 30) rfl)) rfl
set_option maxRecDepth 20000 in
theorem wm_RL_204 : Cond.methodLink RL 204 yL_safest ∈ gU := gmU (gt5 _ (List.mem_of_getElem? (i := 193) rfl)) rfl
set_option maxRecDepth 20000 in
theorem winstanceMethod_yX10_safest : Cond.instanceMethod yX10_safest ∈ gU := gmU (gt8 _ (List.mem_of_getElem? (i := 90) rfl)) rfl
set_option maxRecDepth 20000 in
theorem ws_yX10_safest : Cond.selects yX10_safest.cls yX10_safest yX10_safest ∈ gU := gmU (gt8 _ (List.mem_of_getElem? (i := 91) rfl)) rfl
set_option maxRecDepth 20000 in
theorem wc_yX10_safest : Cond.code yX10_safest cX10_safest 6 (some .int) ∈ gU := gmU (gt8 _ (List.mem_of_getElem? (i := 92) rfl)) rfl
set_option maxRecDepth 20000 in
theorem wm_RL_206 : Cond.methodLink RL 206 yX10_safest ∈ gU := gmU (gt8 _ (List.mem_of_getElem? (i := 89) rfl)) rfl
set_option maxRecDepth 20000 in
theorem winstanceMethod_yX9_bridges : Cond.instanceMethod yX9_bridges ∈ gU := gmU (gt2 _ (List.mem_of_getElem? (i := 198) rfl)) rfl
set_option maxRecDepth 20000 in
theorem ws_yX9_bridges : Cond.selects yX9_bridges.cls yX9_bridges yX9_bridges ∈ gU := gmU (gt2 _ (List.mem_of_getElem? (i := 199) rfl)) rfl
set_option maxRecDepth 20000 in
theorem wc_yX9_bridges : Cond.code yX9_bridges cX9_bridges 1 (some .int) ∈ gU := gmU (gt2 _ (List.mem_of_getElem? (i := 200) rfl)) rfl
set_option maxRecDepth 20000 in
theorem wm_RL_207 : Cond.methodLink RL 207 yX9_bridges ∈ gU := gmU (gt2 _ (List.mem_of_getElem? (i := 197) rfl)) rfl
set_option maxRecDepth 20000 in
theorem winstanceMethod_yX10_bridges : Cond.instanceMethod yX10_bridges ∈ gU := gmU (gt8 _ (List.mem_of_getElem? (i := 94) rfl)) rfl
set_option maxRecDepth 20000 in
theorem ws_yX10_bridges : Cond.selects yX10_bridges.cls yX10_bridges yX10_bridges ∈ gU := gmU (gt8 _ (List.mem_of_getElem? (i := 95) rfl)) rfl
set_option maxRecDepth 20000 in
theorem wc_yX10_bridges : Cond.code yX10_bridges cX10_bridges 4 (some .int) ∈ gU := gmU (gt8 _ (List.mem_of_getElem? (i := 96) rfl)) rfl
set_option maxRecDepth 20000 in
theorem wm_RL_210 : Cond.methodLink RL 210 yX10_bridges ∈ gU := gmU (gt8 _ (List.mem_of_getElem? (i := 93) rfl)) rfl
set_option maxRecDepth 20000 in
theorem wm_RL_211 : Cond.methodLink RL 211 yL_till ∈ gU := gmU (gt5 _ (List.mem_of_getElem? (i := 204) rfl)) rfl
set_option maxRecDepth 20000 in
theorem winstanceMethod_yX10_till : Cond.instanceMethod yX10_till ∈ gU := gmU (gt8 _ (List.mem_of_getElem? (i := 102) rfl)) rfl
set_option maxRecDepth 20000 in
theorem ws_yX10_till : Cond.selects yX10_till.cls yX10_till yX10_till ∈ gU := gmU (gt8 _ (List.mem_of_getElem? (i := 103) rfl)) rfl
set_option maxRecDepth 20000 in
theorem wc_yX10_till : Cond.code yX10_till cX10_till 3 (some .int) ∈ gU := gmU (gt8 _ (List.mem_of_getElem? (i := 104) rfl)) rfl
set_option maxRecDepth 20000 in
theorem wm_RL_213 : Cond.methodLink RL 213 yX10_till ∈ gU := gmU (gt8 _ (List.mem_of_getElem? (i := 101) rfl)) rfl
set_option maxRecDepth 20000 in
theorem wm_RL_214 : Cond.methodLink RL 214 yL_most ∈ gU := gmU (gt5 _ (List.mem_of_getElem? (i := 215) rfl)) rfl
set_option maxRecDepth 20000 in
theorem winstanceMethod_yX10_most : Cond.instanceMethod yX10_most ∈ gU := gmU (gt8 _ (List.mem_of_getElem? (i := 106) rfl)) rfl
set_option maxRecDepth 20000 in
theorem ws_yX10_most : Cond.selects yX10_most.cls yX10_most yX10_most ∈ gU := gmU (gt8 _ (List.mem_of_getElem? (i := 107) rfl)) rfl
set_option maxRecDepth 20000 in
theorem wc_yX10_most : Cond.code yX10_most cX10_most 4 (some .int) ∈ gU := gmU (gt8 _ (List.mem_of_getElem? (i := 108) rfl)) rfl
set_option maxRecDepth 20000 in
theorem wm_RL_216 : Cond.methodLink RL 216 yX10_most ∈ gU := gmU (gt8 _ (List.mem_of_getElem? (i := 105) rfl)) rfl
set_option maxRecDepth 20000 in
theorem wm_RL_217 : Cond.methodLink RL 217 yL_sides ∈ gU := gmU (gt5 _ (List.mem_of_getElem? (i := 223) rfl)) rfl
set_option maxRecDepth 20000 in
theorem winstanceMethod_yX10_sides : Cond.instanceMethod yX10_sides ∈ gU := gmU (gt8 _ (List.mem_of_getElem? (i := 110) rfl)) rfl
set_option maxRecDepth 20000 in
theorem ws_yX10_sides : Cond.selects yX10_sides.cls yX10_sides yX10_sides ∈ gU := gmU (gt8 _ (List.mem_of_getElem? (i := 111) rfl)) rfl
set_option maxRecDepth 20000 in
theorem wc_yX10_sides : Cond.code yX10_sides cX10_sides 4 (some .int) ∈ gU := gmU (gt8 _ (List.mem_of_getElem? (i := 112) rfl)) rfl
set_option maxRecDepth 20000 in
theorem wm_RL_219 : Cond.methodLink RL 219 yX10_sides ∈ gU := gmU (gt8 _ (List.mem_of_getElem? (i := 109) rfl)) rfl
set_option maxRecDepth 20000 in
theorem winstanceMethod_yX9_margin : Cond.instanceMethod yX9_margin ∈ gU := gmU (gt2 _ (List.mem_of_getElem? (i := 159) rfl)) rfl
set_option maxRecDepth 20000 in
theorem ws_yX9_margin : Cond.selects yX9_margin.cls yX9_margin yX9_margin ∈ gU := gmU (gt2 _ (List.mem_of_getElem? (i := 160) rfl)) rfl
set_option maxRecDepth 20000 in
theorem wc_yX9_margin : Cond.code yX9_margin cX9_margin 1 (some .int) ∈ gU := gmU (gt2 _ (List.mem_of_getElem? (i := 161) rfl)) rfl
set_option maxRecDepth 20000 in
theorem wm_RL_220 : Cond.methodLink RL 220 yX9_margin ∈ gU := gmU (gt2 _ (List.mem_of_getElem? (i := 158) rfl)) rfl
set_option maxRecDepth 20000 in
theorem winstanceMethod_yX10_margin : Cond.instanceMethod yX10_margin ∈ gU := gmU (gt8 _ (List.mem_of_getElem? (i := 114) rfl)) rfl
set_option maxRecDepth 20000 in
theorem ws_yX10_margin : Cond.selects yX10_margin.cls yX10_margin yX10_margin ∈ gU := gmU (gt8 _ (List.mem_of_getElem? (i := 115) rfl)) rfl
set_option maxRecDepth 20000 in
theorem wc_yX10_margin : Cond.code yX10_margin cX10_margin 1 (some .int) ∈ gU := gmU (gt8 _ (List.mem_of_getElem? (i := 116) rfl)) rfl
set_option maxRecDepth 20000 in
theorem wm_RL_223 : Cond.methodLink RL 223 yX10_margin ∈ gU := gmU (gt8 _ (List.mem_of_getElem? (i := 113) rfl)) rfl
set_option maxRecDepth 20000 in
theorem wm_RL_224 : Cond.methodLink RL 224 yL_lightest ∈ gU := gmU (gt5 _ (List.mem_of_getElem? (i := 231) rfl)) rfl
set_option maxRecDepth 20000 in
theorem winstanceMethod_yX10_lightest : Cond.instanceMethod yX10_lightest ∈ gU := gmU (gt8 _ (List.mem_of_getElem? (i := 118) rfl)) rfl
set_option maxRecDepth 20000 in
theorem ws_yX10_lightest : Cond.selects yX10_lightest.cls yX10_lightest yX10_lightest ∈ gU := gmU (gt8 _ (List.mem_of_getElem? (i := 119) rfl)) rfl
set_option maxRecDepth 20000 in
theorem wc_yX10_lightest : Cond.code yX10_lightest cX10_lightest 4 (some .int) ∈ gU := gmU (gt8 _ (List.mem_of_getElem? (i := 120) rfl)) rfl
set_option maxRecDepth 20000 in
theorem wm_RL_226 : Cond.methodLink RL 226 yX10_lightest ∈ gU := gmU (gt8 _ (List.mem_of_getElem? (i := 117) rfl)) rfl
set_option maxRecDepth 20000 in
theorem wm_RL_227 : Cond.methodLink RL 227 yL_term ∈ gU := gmU (gt6 _ (List.mem_of_getElem? (i := 6) rfl)) rfl
set_option maxRecDepth 20000 in
theorem winstanceMethod_yX10_term : Cond.instanceMethod yX10_term ∈ gU := gmU (gt8 _ (List.mem_of_getElem? (i := 122) rfl)) rfl
set_option maxRecDepth 20000 in
theorem ws_yX10_term : Cond.selects yX10_term.cls yX10_term yX10_term ∈ gU := gmU (gt8 _ (List.mem_of_getElem? (i := 123) rfl)) rfl
set_option maxRecDepth 20000 in
theorem wc_yX10_term : Cond.code yX10_term cX10_term 5 (some .int) ∈ gU := gmU (gt8 _ (List.mem_of_getElem? (i := 124) rfl)) rfl
set_option maxRecDepth 20000 in
theorem wm_RL_230 : Cond.methodLink RL 230 yX10_term ∈ gU := gmU (gt8 _ (List.mem_of_getElem? (i := 121) rfl)) rfl
set_option maxRecDepth 20000 in
theorem wm_RL_231 : Cond.methodLink RL 231 yL_span ∈ gU := gmU (gt6 _ (List.mem_of_getElem? (i := 28) rfl)) rfl
set_option maxRecDepth 20000 in
theorem winstanceMethod_yX10_span : Cond.instanceMethod yX10_span ∈ gU := gmU (gt8 _ (List.mem_of_getElem? (i := 138) rfl)) rfl
set_option maxRecDepth 20000 in
theorem ws_yX10_span : Cond.selects yX10_span.cls yX10_span yX10_span ∈ gU := gmU (gt8 _ (List.mem_of_getElem? (i := 139) rfl)) rfl
set_option maxRecDepth 20000 in
theorem wc_yX10_span : Cond.code yX10_span cX10_span 11 (some .int) ∈ gU := gmU (gt8 _ (List.mem_of_getElem? (i := 140) rfl)) rfl
set_option maxRecDepth 20000 in
theorem wm_RL_234 : Cond.methodLink RL 234 yX10_span ∈ gU := gmU (gt8 _ (List.mem_of_getElem? (i := 137) rfl)) rfl
set_option maxRecDepth 20000 in
theorem winstanceMethod_yX9_image : Cond.instanceMethod yX9_image ∈ gU := gmU (gt2 _ (List.mem_of_getElem? (i := 207) rfl)) rfl
set_option maxRecDepth 20000 in
theorem ws_yX9_image : Cond.selects yX9_image.cls yX9_image yX9_image ∈ gU := gmU (gt2 _ (List.mem_of_getElem? (i := 208) rfl)) rfl
set_option maxRecDepth 20000 in
theorem wc_yX9_image : Cond.code yX9_image cX9_image 1 (some .int) ∈ gU := gmU (gt2 _ (List.mem_of_getElem? (i := 209) rfl)) rfl
set_option maxRecDepth 20000 in
theorem wm_RL_235 : Cond.methodLink RL 235 yX9_image ∈ gU := gmU (gt2 _ (List.mem_of_getElem? (i := 206) rfl)) rfl
set_option maxRecDepth 20000 in
theorem winstanceMethod_yX10_image : Cond.instanceMethod yX10_image ∈ gU := gmU (gt8 _ (List.mem_of_getElem? (i := 142) rfl)) rfl
set_option maxRecDepth 20000 in
theorem ws_yX10_image : Cond.selects yX10_image.cls yX10_image yX10_image ∈ gU := gmU (gt8 _ (List.mem_of_getElem? (i := 143) rfl)) rfl
set_option maxRecDepth 20000 in
theorem wc_yX10_image : Cond.code yX10_image cX10_image 1 (some .int) ∈ gU := gmU (gt8 _ (List.mem_of_getElem? (i := 144) rfl)) rfl
set_option maxRecDepth 20000 in
theorem wm_RL_238 : Cond.methodLink RL 238 yX10_image ∈ gU := gmU (gt8 _ (List.mem_of_getElem? (i := 141) rfl)) rfl
set_option maxRecDepth 20000 in
theorem winstanceMethod_yX9_restore : Cond.instanceMethod yX9_restore ∈ gU := gmU (gt2 _ (List.mem_of_getElem? (i := 222) rfl)) rfl
set_option maxRecDepth 20000 in
theorem ws_yX9_restore : Cond.selects yX9_restore.cls yX9_restore yX9_restore ∈ gU := gmU (gt2 _ (List.mem_of_getElem? (i := 223) rfl)) rfl
set_option maxRecDepth 20000 in
theorem wc_yX9_restore : Cond.code yX9_restore cX9_restore 1 (some .int) ∈ gU := gmU (gt2 _ (List.mem_of_getElem? (i := 224) rfl)) rfl
set_option maxRecDepth 20000 in
theorem wm_RL_239 : Cond.methodLink RL 239 yX9_restore ∈ gU := gmU (gt2 _ (List.mem_of_getElem? (i := 221) rfl)) rfl
set_option maxRecDepth 20000 in
theorem winstanceMethod_yX10_restore : Cond.instanceMethod yX10_restore ∈ gU := gmU (gt8 _ (List.mem_of_getElem? (i := 154) rfl)) rfl
set_option maxRecDepth 20000 in
theorem ws_yX10_restore : Cond.selects yX10_restore.cls yX10_restore yX10_restore ∈ gU := gmU (gt8 _ (List.mem_of_getElem? (i := 155) rfl)) rfl
set_option maxRecDepth 20000 in
theorem wc_yX10_restore : Cond.code yX10_restore cX10_restore 1 (some .int) ∈ gU := gmU (gt8 _ (List.mem_of_getElem? (i := 156) rfl)) rfl
set_option maxRecDepth 20000 in
theorem wm_RL_242 : Cond.methodLink RL 242 yX10_restore ∈ gU := gmU (gt8 _ (List.mem_of_getElem? (i := 153) rfl)) rfl
set_option maxRecDepth 20000 in
theorem winstanceMethod_yX9_status : Cond.instanceMethod yX9_status ∈ gU := gmU (gt2 _ (List.mem_of_getElem? (i := 230) rfl)) rfl
set_option maxRecDepth 20000 in
theorem ws_yX9_status : Cond.selects yX9_status.cls yX9_status yX9_status ∈ gU := gmU (gt2 _ (List.mem_of_getElem? (i := 231) rfl)) rfl
set_option maxRecDepth 20000 in
theorem wc_yX9_status : Cond.code yX9_status cX9_status 2 (some .int) ∈ gU := gmU (gt2 _ (List.mem_of_getElem? (i := 232) rfl)) rfl
set_option maxRecDepth 20000 in
theorem wm_RL_243 : Cond.methodLink RL 243 yX9_status ∈ gU := gmU (gt2 _ (List.mem_of_getElem? (i := 229) rfl)) rfl
set_option maxRecDepth 20000 in
theorem winstanceMethod_yX10_status : Cond.instanceMethod yX10_status ∈ gU := gmU (gt8 _ (List.mem_of_getElem? (i := 158) rfl)) rfl
set_option maxRecDepth 20000 in
theorem ws_yX10_status : Cond.selects yX10_status.cls yX10_status yX10_status ∈ gU := gmU (gt8 _ (List.mem_of_getElem? (i := 159) rfl)) rfl
set_option maxRecDepth 20000 in
theorem wc_yX10_status : Cond.code yX10_status cX10_status 2 (some .int) ∈ gU := gmU (gt8 _ (List.mem_of_getElem? (i := 160) rfl)) rfl
set_option maxRecDepth 20000 in
theorem wm_RL_246 : Cond.methodLink RL 246 yX10_status ∈ gU := gmU (gt8 _ (List.mem_of_getElem? (i := 157) rfl)) rfl
set_option maxRecDepth 20000 in
theorem winstanceMethod_yX9_count : Cond.instanceMethod yX9_count ∈ gU := gmU (gt2 _ (List.mem_of_getElem? (i := 234) rfl)) rfl
set_option maxRecDepth 20000 in
theorem ws_yX9_count : Cond.selects yX9_count.cls yX9_count yX9_count ∈ gU := gmU (gt2 _ (List.mem_of_getElem? (i := 235) rfl)) rfl
set_option maxRecDepth 20000 in
theorem wc_yX9_count : Cond.code yX9_count cX9_count 2 (some .int) ∈ gU := gmU (gt2 _ (List.mem_of_getElem? (i := 236) rfl)) rfl
set_option maxRecDepth 20000 in
theorem wm_RL_247 : Cond.methodLink RL 247 yX9_count ∈ gU := gmU (gt2 _ (List.mem_of_getElem? (i := 233) rfl)) rfl
set_option maxRecDepth 20000 in
theorem winstanceMethod_yX10_count : Cond.instanceMethod yX10_count ∈ gU := gmU (gt8 _ (List.mem_of_getElem? (i := 162) rfl)) rfl
set_option maxRecDepth 20000 in
theorem ws_yX10_count : Cond.selects yX10_count.cls yX10_count yX10_count ∈ gU := gmU (gt8 _ (List.mem_of_getElem? (i := 163) rfl)) rfl
set_option maxRecDepth 20000 in
theorem wc_yX10_count : Cond.code yX10_count cX10_count 2 (some .int) ∈ gU := gmU (gt8 _ (List.mem_of_getElem? (i := 164) rfl)) rfl
set_option maxRecDepth 20000 in
theorem wm_RL_250 : Cond.methodLink RL 250 yX10_count ∈ gU := gmU (gt8 _ (List.mem_of_getElem? (i := 161) rfl)) rfl
set_option maxRecDepth 20000 in
theorem wstatic_yL_state : Cond.static yL_state ∈ gU := gmU (gt2 _ (List.mem_of_getElem? (i := 238) rfl)) rfl
set_option maxRecDepth 20000 in
theorem wi_CommaStateLaw : Cond.initialized RL ∈ gU := gmU (gt1 _ (List.mem_of_getElem? (i := 0) rfl)) rfl
set_option maxRecDepth 20000 in
theorem wc_yL_state : Cond.codeWith yL_state cL_state 4 (some .int) [(0, 9, 12, 13)] ∈ gU := gmU (gt2 _ (List.mem_of_getElem? (i := 239) rfl)) rfl
set_option maxRecDepth 20000 in
theorem wstatic_yL_law : Cond.static yL_law ∈ gU := gmU (gt3 _ (List.mem_of_getElem? (i := 219) rfl)) rfl
set_option maxRecDepth 20000 in
theorem wc_yL_law : Cond.codeWith yL_law cL_law 4 (some .int) [(0, 9, 12, 13)] ∈ gU := gmU (gt3 _ (List.mem_of_getElem? (i := 220) rfl)) rfl
set_option maxRecDepth 20000 in
theorem wstatic_yL_work : Cond.static yL_work ∈ gU := gmU (gt4 _ (List.mem_of_getElem? (i := 10) rfl)) rfl
set_option maxRecDepth 20000 in
theorem wc_yL_work : Cond.codeWith yL_work cL_work 4 (some .int) [(0, 9, 12, 13)] ∈ gU := gmU (gt4 _ (List.mem_of_getElem? (i := 11) rfl)) rfl
set_option maxRecDepth 20000 in
theorem wstatic_yL_book : Cond.static yL_book ∈ gU := gmU (gt4 _ (List.mem_of_getElem? (i := 120) rfl)) rfl
set_option maxRecDepth 20000 in
theorem wc_yL_book : Cond.codeWith yL_book cL_book 4 (some .int) [(0, 9, 12, 13)] ∈ gU := gmU (gt4 _ (List.mem_of_getElem? (i := 121) rfl)) rfl
set_option maxRecDepth 20000 in
theorem wstatic_yL_told : Cond.static yL_told ∈ gU := gmU (gt4 _ (List.mem_of_getElem? (i := 146) rfl)) rfl
set_option maxRecDepth 20000 in
theorem wc_yL_told : Cond.codeWith yL_told cL_told 4 (some .int) [(0, 9, 12, 13)] ∈ gU := gmU (gt4 _ (List.mem_of_getElem? (i := 147) rfl)) rfl
set_option maxRecDepth 20000 in
theorem wstatic_yL_town : Cond.static yL_town ∈ gU := gmU (gt4 _ (List.mem_of_getElem? (i := 166) rfl)) rfl
set_option maxRecDepth 20000 in
theorem wc_yL_town : Cond.codeWith yL_town cL_town 5 (some .int) [(0, 10, 13, 31), (0, 10, 17, 13)] ∈ gU := gmU (gt4 _ (List.mem_of_getElem? (i := 167) rfl)) rfl
set_option maxRecDepth 20000 in
theorem wstatic_yL_road : Cond.static yL_road ∈ gU := gmU (gt4 _ (List.mem_of_getElem? (i := 204) rfl)) rfl
set_option maxRecDepth 20000 in
theorem wc_yL_road : Cond.codeWith yL_road cL_road 5 (some .int) [(0, 10, 13, 31), (0, 10, 17, 13)] ∈ gU := gmU (gt4 _ (List.mem_of_getElem? (i := 205) rfl)) rfl
set_option maxRecDepth 20000 in
theorem wstatic_yL_seats : Cond.static yL_seats ∈ gU := gmU (gt4 _ (List.mem_of_getElem? (i := 211) rfl)) rfl
set_option maxRecDepth 20000 in
theorem wc_yL_seats : Cond.codeWith yL_seats cL_seats 4 (some .int) [(0, 9, 12, 13)] ∈ gU := gmU (gt4 _ (List.mem_of_getElem? (i := 212) rfl)) rfl
set_option maxRecDepth 20000 in
theorem wstatic_yL_would : Cond.static yL_would ∈ gU := gmU (gt4 _ (List.mem_of_getElem? (i := 218) rfl)) rfl
set_option maxRecDepth 20000 in
theorem wc_yL_would : Cond.codeWith yL_would cL_would 13 (some .int) [(0, 26, 29, 13)] ∈ gU := gmU (gt4 _ (List.mem_of_getElem? (i := 219) rfl)) rfl
set_option maxRecDepth 20000 in
theorem wstatic_yL_can : Cond.static yL_can ∈ gU := gmU (gt4 _ (List.mem_of_getElem? (i := 228) rfl)) rfl
set_option maxRecDepth 20000 in
theorem wc_yL_can : Cond.codeWith yL_can cL_can 6 (some .int) [(0, 19, 22, 31)] ∈ gU := gmU (gt4 _ (List.mem_of_getElem? (i := 229) rfl)) rfl
set_option maxRecDepth 20000 in
theorem wstatic_yL_ahead : Cond.static yL_ahead ∈ gU := gmU (gt4 _ (List.mem_of_getElem? (i := 236) rfl)) rfl
set_option maxRecDepth 20000 in
theorem wc_yL_ahead : Cond.codeWith yL_ahead cL_ahead 5 (some .int) [(0, 10, 13, 13)] ∈ gU := gmU (gt4 _ (List.mem_of_getElem? (i := 237) rfl)) rfl
set_option maxRecDepth 20000 in
theorem wstatic_yL_turn : Cond.static yL_turn ∈ gU := gmU (gt5 _ (List.mem_of_getElem? (i := 9) rfl)) rfl
set_option maxRecDepth 20000 in
theorem wc_yL_turn : Cond.codeWith yL_turn cL_turn 5 (some .int) [(0, 10, 13, 13)] ∈ gU := gmU (gt5 _ (List.mem_of_getElem? (i := 10) rfl)) rfl
set_option maxRecDepth 20000 in
theorem wstatic_yL_swing : Cond.static yL_swing ∈ gU := gmU (gt5 _ (List.mem_of_getElem? (i := 28) rfl)) rfl
set_option maxRecDepth 20000 in
theorem wc_yL_swing : Cond.codeWith yL_swing cL_swing 4 (some .int) [(0, 9, 12, 31)] ∈ gU := gmU (gt5 _ (List.mem_of_getElem? (i := 29) rfl)) rfl
set_option maxRecDepth 20000 in
theorem wstatic_yL_given : Cond.static yL_given ∈ gU := gmU (gt5 _ (List.mem_of_getElem? (i := 40) rfl)) rfl
set_option maxRecDepth 20000 in
theorem wc_yL_given : Cond.codeWith yL_given cL_given 5 (some .int) [(0, 10, 13, 31), (0, 10, 17, 13)] ∈ gU := gmU (gt5 _ (List.mem_of_getElem? (i := 41) rfl)) rfl
set_option maxRecDepth 20000 in
theorem wstatic_yL_league : Cond.static yL_league ∈ gU := gmU (gt5 _ (List.mem_of_getElem? (i := 51) rfl)) rfl
set_option maxRecDepth 20000 in
theorem wc_yL_league : Cond.codeWith yL_league cL_league 4 (some .int) [(0, 9, 12, 13)] ∈ gU := gmU (gt5 _ (List.mem_of_getElem? (i := 52) rfl)) rfl
set_option maxRecDepth 20000 in
theorem wstatic_yL_drift : Cond.static yL_drift ∈ gU := gmU (gt5 _ (List.mem_of_getElem? (i := 67) rfl)) rfl
set_option maxRecDepth 20000 in
theorem wc_yL_drift : Cond.codeWith yL_drift cL_drift 4 (some .int) [(0, 9, 12, 13)] ∈ gU := gmU (gt5 _ (List.mem_of_getElem? (i := 68) rfl)) rfl
set_option maxRecDepth 20000 in
theorem wstatic_yL_look : Cond.static yL_look ∈ gU := gmU (gt5 _ (List.mem_of_getElem? (i := 88) rfl)) rfl
set_option maxRecDepth 20000 in
theorem wc_yL_look : Cond.codeWith yL_look cL_look 4 (some .int) [(0, 9, 12, 13)] ∈ gU := gmU (gt5 _ (List.mem_of_getElem? (i := 89) rfl)) rfl
set_option maxRecDepth 20000 in
theorem wstatic_yL_commas : Cond.static yL_commas ∈ gU := gmU (gt5 _ (List.mem_of_getElem? (i := 105) rfl)) rfl
set_option maxRecDepth 20000 in
theorem wc_yL_commas : Cond.codeWith yL_commas cL_commas 6 (some .int) [(0, 12, 15, 13)] ∈ gU := gmU (gt5 _ (List.mem_of_getElem? (i := 106) rfl)) rfl
set_option maxRecDepth 20000 in
theorem wstatic_yL_odds : Cond.static yL_odds ∈ gU := gmU (gt5 _ (List.mem_of_getElem? (i := 115) rfl)) rfl
set_option maxRecDepth 20000 in
theorem wc_yL_odds : Cond.codeWith yL_odds cL_odds 6 (some .int) [(0, 11, 14, 31), (0, 11, 18, 13)] ∈ gU := gmU (gt5 _ (List.mem_of_getElem? (i := 116) rfl)) rfl
set_option maxRecDepth 20000 in
theorem wstatic_yL_speak : Cond.static yL_speak ∈ gU := gmU (gt5 _ (List.mem_of_getElem? (i := 134) rfl)) rfl
set_option maxRecDepth 20000 in
theorem wc_yL_speak : Cond.codeWith yL_speak cL_speak 5 (some .int) [(0, 10, 13, 13)] ∈ gU := gmU (gt5 _ (List.mem_of_getElem? (i := 135) rfl)) rfl
set_option maxRecDepth 20000 in
theorem wstatic_yL_bread : Cond.static yL_bread ∈ gU := gmU (gt5 _ (List.mem_of_getElem? (i := 159) rfl)) rfl
set_option maxRecDepth 20000 in
theorem wc_yL_bread : Cond.codeWith yL_bread cL_bread 6 (some .int) [(0, 12, 15, 31), (0, 12, 19, 13)] ∈ gU := gmU (gt5 _ (List.mem_of_getElem? (i := 160) rfl)) rfl
set_option maxRecDepth 20000 in
theorem wstatic_yL_closest : Cond.static yL_closest ∈ gU := gmU (gt5 _ (List.mem_of_getElem? (i := 175) rfl)) rfl
set_option maxRecDepth 20000 in
theorem wc_yL_closest : Cond.codeWith yL_closest cL_closest 4 (some .int) [(0, 9, 12, 13)] ∈ gU := gmU (gt5 _ (List.mem_of_getElem? (i := 176) rfl)) rfl
set_option maxRecDepth 20000 in
theorem wstatic_yL_safest : Cond.static yL_safest ∈ gU := gmU (gt5 _ (List.mem_of_getElem? (i := 194) rfl)) rfl
set_option maxRecDepth 20000 in
theorem wc_yL_safest : Cond.codeWith yL_safest cL_safest 4 (some .int) [(0, 9, 12, 13)] ∈ gU := gmU (gt5 _ (List.mem_of_getElem? (i := 195) rfl)) rfl
set_option maxRecDepth 20000 in
theorem wstatic_yL_till : Cond.static yL_till ∈ gU := gmU (gt5 _ (List.mem_of_getElem? (i := 205) rfl)) rfl
set_option maxRecDepth 20000 in
theorem wc_yL_till : Cond.codeWith yL_till cL_till 4 (some .int) [(0, 9, 12, 13)] ∈ gU := gmU (gt5 _ (List.mem_of_getElem? (i := 206) rfl)) rfl
set_option maxRecDepth 20000 in
theorem wstatic_yL_most : Cond.static yL_most ∈ gU := gmU (gt5 _ (List.mem_of_getElem? (i := 216) rfl)) rfl
set_option maxRecDepth 20000 in
theorem wc_yL_most : Cond.codeWith yL_most cL_most 5 (some .int) [(0, 10, 13, 31)] ∈ gU := gmU (gt5 _ (List.mem_of_getElem? (i := 217) rfl)) rfl
set_option maxRecDepth 20000 in
theorem wstatic_yL_sides : Cond.static yL_sides ∈ gU := gmU (gt5 _ (List.mem_of_getElem? (i := 224) rfl)) rfl
set_option maxRecDepth 20000 in
theorem wc_yL_sides : Cond.codeWith yL_sides cL_sides 4 (some .int) [(0, 9, 12, 13)] ∈ gU := gmU (gt5 _ (List.mem_of_getElem? (i := 225) rfl)) rfl
set_option maxRecDepth 20000 in
theorem wstatic_yL_lightest : Cond.static yL_lightest ∈ gU := gmU (gt5 _ (List.mem_of_getElem? (i := 232) rfl)) rfl
set_option maxRecDepth 20000 in
theorem wc_yL_lightest : Cond.codeWith yL_lightest cL_lightest 4 (some .int) [(0, 9, 12, 13)] ∈ gU := gmU (gt5 _ (List.mem_of_getElem? (i := 233) rfl)) rfl
set_option maxRecDepth 20000 in
theorem wstatic_yL_term : Cond.static yL_term ∈ gU := gmU (gt6 _ (List.mem_of_getElem? (i := 7) rfl)) rfl
set_option maxRecDepth 20000 in
theorem wc_yL_term : Cond.codeWith yL_term cL_term 7 (some .int) [(0, 14, 17, 13)] ∈ gU := gmU (gt6 _ (List.mem_of_getElem? (i := 8) rfl)) rfl
set_option maxRecDepth 20000 in
theorem wstatic_yL_span : Cond.static yL_span ∈ gU := gmU (gt6 _ (List.mem_of_getElem? (i := 29) rfl)) rfl
set_option maxRecDepth 20000 in
theorem wc_yL_span : Cond.codeWith yL_span cL_span 8 (some .int) [(0, 16, 19, 13)] ∈ gU := gmU (gt6 _ (List.mem_of_getElem? (i := 30) rfl)) rfl
set_option maxRecDepth 20000 in
theorem cw_99 : gCeeV gInfW gCl gU 99 yX9_state 9 1 1 := ⟨cX9_state, 3, (some .int), TX9, 16, rfl, rfl, winstanceMethod_yX9_state, ws_yX9_state, wi_CommaState, wc_yX9_state, by decide +kernel, by decide⟩
set_option maxRecDepth 20000 in
theorem cw_100 : gCeeV gInfW gCl gU 100 yX9_law 9 1 1 := ⟨cX9_law, 3, (some .int), TX9, 16, rfl, rfl, winstanceMethod_yX9_law, ws_yX9_law, wi_CommaState, wc_yX9_law, by decide +kernel, by decide⟩
set_option maxRecDepth 20000 in
theorem cw_101 : gCeeV gInfW gCl gU 101 yX9_work 9 1 1 := ⟨cX9_work, 2, (some .int), TX9, 16, rfl, rfl, winstanceMethod_yX9_work, ws_yX9_work, wi_CommaState, wc_yX9_work, by decide +kernel, by decide⟩
set_option maxRecDepth 20000 in
theorem cw_102 : gCeeV gInfW gCl gU 102 yX9_book 9 1 1 := ⟨cX9_book, 3, (some .int), TX9, 16, rfl, rfl, winstanceMethod_yX9_book, ws_yX9_book, wi_CommaState, wc_yX9_book, by decide +kernel, by decide⟩
set_option maxRecDepth 20000 in
theorem cw_105 : gCeeV gInfW gCl gU 105 yX9_told 9 1 1 := ⟨cX9_told, 2, (some .int), TX9, 16, rfl, rfl, winstanceMethod_yX9_told, ws_yX9_told, wi_CommaState, wc_yX9_told, by decide +kernel, by decide⟩
set_option maxRecDepth 20000 in
theorem cw_106 : gCeeV gInfW gCl gU 106 yX9_town 9 2 2 := ⟨cX9_town, 3, (some .int), TX9, 16, rfl, rfl, winstanceMethod_yX9_town, ws_yX9_town, wi_CommaState, wc_yX9_town, by decide +kernel, by decide⟩
set_option maxRecDepth 20000 in
theorem cw_107 : gCeeV gInfW gCl gU 107 yX9_road 9 2 2 := ⟨cX9_road, 3, (some .int), TX9, 16, rfl, rfl, winstanceMethod_yX9_road, ws_yX9_road, wi_CommaState, wc_yX9_road, by decide +kernel, by decide⟩
set_option maxRecDepth 20000 in
theorem cw_108 : gCeeV gInfW gCl gU 108 yX9_seats 9 1 1 := ⟨cX9_seats, 2, (some .int), TX9, 16, rfl, rfl, winstanceMethod_yX9_seats, ws_yX9_seats, wi_CommaState, wc_yX9_seats, by decide +kernel, by decide⟩
set_option maxRecDepth 20000 in
theorem cw_109 : gCeeV gInfW gCl gU 109 yX9_would 9 10 4 := ⟨cX9_would, 11, (some .int), TX9, 16, rfl, rfl, winstanceMethod_yX9_would, ws_yX9_would, wi_CommaState, wc_yX9_would, by decide +kernel, by decide⟩
set_option maxRecDepth 20000 in
theorem cw_110 : gCeeV gInfW gCl gU 110 yX9_can 9 3 2 := ⟨cX9_can, 4, (some .boolean), TX9, 16, rfl, rfl, winstanceMethod_yX9_can, ws_yX9_can, wi_CommaState, wc_yX9_can, by decide +kernel, by decide⟩
set_option maxRecDepth 20000 in
theorem cw_117 : gCeeV gInfW gCl gU 117 yX9_ahead 9 2 1 := ⟨cX9_ahead, 3, (some .int), TX9, 16, rfl, rfl, winstanceMethod_yX9_ahead, ws_yX9_ahead, wi_CommaState, wc_yX9_ahead, by decide +kernel, by decide⟩
set_option maxRecDepth 20000 in
theorem cw_121 : gCeeV gInfW gCl gU 121 yX9_turn 9 2 1 := ⟨cX9_turn, 4, (some .int), TX9, 16, rfl, rfl, winstanceMethod_yX9_turn, ws_yX9_turn, wi_CommaState, wc_yX9_turn, by decide +kernel, by decide⟩
set_option maxRecDepth 20000 in
theorem cw_122 : gCeeV gInfW gCl gU 122 yX9_swing 9 1 1 := ⟨cX9_swing, 2, (some .int), TX9, 16, rfl, rfl, winstanceMethod_yX9_swing, ws_yX9_swing, wi_CommaState, wc_yX9_swing, by decide +kernel, by decide⟩
set_option maxRecDepth 20000 in
theorem cw_123 : gCeeV gInfW gCl gU 123 yX9_given 9 2 2 := ⟨cX9_given, 3, (some .int), TX9, 16, rfl, rfl, winstanceMethod_yX9_given, ws_yX9_given, wi_CommaState, wc_yX9_given, by decide +kernel, by decide⟩
set_option maxRecDepth 20000 in
theorem cw_124 : gCeeV gInfW gCl gU 124 yX9_league 9 1 1 := ⟨cX9_league, 2, (some .int), TX9, 16, rfl, rfl, winstanceMethod_yX9_league, ws_yX9_league, wi_CommaState, wc_yX9_league, by decide +kernel, by decide⟩
set_option maxRecDepth 20000 in
theorem cw_127 : gCeeV gInfW gCl gU 127 yX9_drift 9 1 1 := ⟨cX9_drift, 2, (some .int), TX9, 16, rfl, rfl, winstanceMethod_yX9_drift, ws_yX9_drift, wi_CommaState, wc_yX9_drift, by decide +kernel, by decide⟩
set_option maxRecDepth 20000 in
theorem cw_128 : gCeeV gInfW gCl gU 128 yX9_look 9 1 1 := ⟨cX9_look, 3, (some .int), TX9, 16, rfl, rfl, winstanceMethod_yX9_look, ws_yX9_look, wi_CommaState, wc_yX9_look, by decide +kernel, by decide⟩
set_option maxRecDepth 20000 in
theorem cw_129 : gCeeV gInfW gCl gU 129 yX9_commas 9 3 1 := ⟨cX9_commas, 5, (some .int), TX9, 16, rfl, rfl, winstanceMethod_yX9_commas, ws_yX9_commas, wi_CommaState, wc_yX9_commas, by decide +kernel, by decide⟩
set_option maxRecDepth 20000 in
theorem cw_130 : gCeeV gInfW gCl gU 130 yX9_odds 9 3 2 := ⟨cX9_odds, 13, (some .long), TX9, 16, rfl, rfl, winstanceMethod_yX9_odds, ws_yX9_odds, wi_CommaState, wc_yX9_odds, by decide +kernel, by decide⟩
set_option maxRecDepth 20000 in
theorem cw_131 : gCeeV gInfW gCl gU 131 yX9_speak 9 2 1 := ⟨cX9_speak, 3, (some .int), TX9, 16, rfl, rfl, winstanceMethod_yX9_speak, ws_yX9_speak, wi_CommaState, wc_yX9_speak, by decide +kernel, by decide⟩
set_option maxRecDepth 20000 in
theorem cw_132 : gCeeV gInfW gCl gU 132 yX9_bread 9 3 2 := ⟨cX9_bread, 4, (some .int), TX9, 16, rfl, rfl, winstanceMethod_yX9_bread, ws_yX9_bread, wi_CommaState, wc_yX9_bread, by decide +kernel, by decide⟩
set_option maxRecDepth 20000 in
theorem cw_114 : gCeeV gInfW gCl gU 114 yX9_closest 9 1 1 := ⟨cX9_closest, 3, (some .int), TX9, 16, rfl, rfl, winstanceMethod_yX9_closest, ws_yX9_closest, wi_CommaState, wc_yX9_closest, by decide +kernel, by decide⟩
set_option maxRecDepth 20000 in
theorem cw_115 : gCeeV gInfW gCl gU 115 yX9_safest 9 1 1 := ⟨cX9_safest, 3, (some .int), TX9, 16, rfl, rfl, winstanceMethod_yX9_safest, ws_yX9_safest, wi_CommaState, wc_yX9_safest, by decide +kernel, by decide⟩
set_option maxRecDepth 20000 in
theorem cw_118 : gCeeV gInfW gCl gU 118 yX9_till 9 1 1 := ⟨cX9_till, 2, (some .int), TX9, 16, rfl, rfl, winstanceMethod_yX9_till, ws_yX9_till, wi_CommaState, wc_yX9_till, by decide +kernel, by decide⟩
set_option maxRecDepth 20000 in
theorem cw_111 : gCeeV gInfW gCl gU 111 yX9_most 9 2 2 := ⟨cX9_most, 3, (some .int), TX9, 16, rfl, rfl, winstanceMethod_yX9_most, ws_yX9_most, wi_CommaState, wc_yX9_most, by decide +kernel, by decide⟩
set_option maxRecDepth 20000 in
theorem cw_112 : gCeeV gInfW gCl gU 112 yX9_sides 9 1 1 := ⟨cX9_sides, 2, (some .int), TX9, 16, rfl, rfl, winstanceMethod_yX9_sides, ws_yX9_sides, wi_CommaState, wc_yX9_sides, by decide +kernel, by decide⟩
set_option maxRecDepth 20000 in
theorem cw_116 : gCeeV gInfW gCl gU 116 yX9_lightest 9 1 1 := ⟨cX9_lightest, 3, (some .int), TX9, 16, rfl, rfl, winstanceMethod_yX9_lightest, ws_yX9_lightest, wi_CommaState, wc_yX9_lightest, by decide +kernel, by decide⟩
set_option maxRecDepth 20000 in
theorem cw_119 : gCeeV gInfW gCl gU 119 yX9_term 9 4 1 := ⟨cX9_term, 5, (some .int), TX9, 16, rfl, rfl, winstanceMethod_yX9_term, ws_yX9_term, wi_CommaState, wc_yX9_term, by decide +kernel, by decide⟩
set_option maxRecDepth 20000 in
theorem cw_120 : gCeeV gInfW gCl gU 120 yX9_span 9 5 2 := ⟨cX9_span, 11, (some .int), TX9, 16, rfl, rfl, winstanceMethod_yX9_span, ws_yX9_span, wi_CommaState, wc_yX9_span, by decide +kernel, by decide⟩
set_option maxRecDepth 20000 in
theorem cw_98 : gCeeV gInfW gCl gU 98 yX9_feed 9 5 0 := ⟨cX9_feed, 6, (some .int), TX9, 16, rfl, rfl, winstanceMethod_yX9_feed, ws_yX9_feed, wi_CommaState, wc_yX9_feed, by decide +kernel, by decide⟩
set_option maxRecDepth 20000 in
theorem cw_145 : gCeeV gInfW gCl gU 145 yX10_feed 10 5 0 := ⟨cX10_feed, 8, (some .int), TX10, 54, rfl, rfl, winstanceMethod_yX10_feed, ws_yX10_feed, wi_CommaStateModel, wc_yX10_feed, by decide +kernel, by decide⟩
set_option maxRecDepth 20000 in
theorem cw_167 : gCeeV gInfW gCl gU 167 yX10_state 10 1 0 := ⟨cX10_state, 4, (some .int), TX10, 54, rfl, rfl, winstanceMethod_yX10_state, ws_yX10_state, wi_CommaStateModel, wc_yX10_state, by decide +kernel, by decide⟩
set_option maxRecDepth 20000 in
theorem cw_142 : gCeeV gInfW gCl gU 142 yX10_thrown 10 0 0 := ⟨cX10_thrown, 1, (some .int), TX10, 54, rfl, rfl, winstanceMethod_yX10_thrown, ws_yX10_thrown, wi_CommaStateModel, wc_yX10_thrown, by decide +kernel, by decide⟩
set_option maxRecDepth 20000 in
theorem cw_176 : gCeeV gInfW gCl gU 176 yX10_law 10 1 0 := ⟨cX10_law, 3, (some .int), TX10, 54, rfl, rfl, winstanceMethod_yX10_law, ws_yX10_law, wi_CommaStateModel, wc_yX10_law, by decide +kernel, by decide⟩
set_option maxRecDepth 20000 in
theorem cw_182 : gCeeV gInfW gCl gU 182 yX10_work 10 1 0 := ⟨cX10_work, 4, (some .int), TX10, 54, rfl, rfl, winstanceMethod_yX10_work, ws_yX10_work, wi_CommaStateModel, wc_yX10_work, by decide +kernel, by decide⟩
set_option maxRecDepth 20000 in
theorem cw_196 : gCeeV gInfW gCl gU 196 yX10_book 10 1 0 := ⟨cX10_book, 6, (some .int), TX10, 54, rfl, rfl, winstanceMethod_yX10_book, ws_yX10_book, wi_CommaStateModel, wc_yX10_book, by decide +kernel, by decide⟩
set_option maxRecDepth 20000 in
theorem cw_103 : gCeeV gInfW gCl gU 103 yX9_fault 9 0 0 := ⟨cX9_fault, 1, (some .int), TX9, 16, rfl, rfl, winstanceMethod_yX9_fault, ws_yX9_fault, wi_CommaState, wc_yX9_fault, by decide +kernel, by decide⟩
set_option maxRecDepth 20000 in
theorem cw_159 : gCeeV gInfW gCl gU 159 yX10_fault 10 0 0 := ⟨cX10_fault, 1, (some .int), TX10, 54, rfl, rfl, winstanceMethod_yX10_fault, ws_yX10_fault, wi_CommaStateModel, wc_yX10_fault, by decide +kernel, by decide⟩
set_option maxRecDepth 20000 in
theorem cw_104 : gCeeV gInfW gCl gU 104 yX9_undo 9 0 0 := ⟨cX9_undo, 1, (some .int), TX9, 16, rfl, rfl, winstanceMethod_yX9_undo, ws_yX9_undo, wi_CommaState, wc_yX9_undo, by decide +kernel, by decide⟩
set_option maxRecDepth 20000 in
theorem cw_197 : gCeeV gInfW gCl gU 197 yX10_undo 10 0 0 := ⟨cX10_undo, 2, (some .int), TX10, 54, rfl, rfl, winstanceMethod_yX10_undo, ws_yX10_undo, wi_CommaStateModel, wc_yX10_undo, by decide +kernel, by decide⟩
set_option maxRecDepth 20000 in
theorem cw_200 : gCeeV gInfW gCl gU 200 yX10_told 10 1 0 := ⟨cX10_told, 2, (some .int), TX10, 54, rfl, rfl, winstanceMethod_yX10_told, ws_yX10_told, wi_CommaStateModel, wc_yX10_told, by decide +kernel, by decide⟩
set_option maxRecDepth 20000 in
theorem cw_202 : gCeeV gInfW gCl gU 202 yX10_town 10 2 0 := ⟨cX10_town, 3, (some .int), TX10, 54, rfl, rfl, winstanceMethod_yX10_town, ws_yX10_town, wi_CommaStateModel, wc_yX10_town, by decide +kernel, by decide⟩
set_option maxRecDepth 20000 in
theorem cw_203 : gCeeV gInfW gCl gU 203 yX10_road 10 2 0 := ⟨cX10_road, 3, (some .int), TX10, 54, rfl, rfl, winstanceMethod_yX10_road, ws_yX10_road, wi_CommaStateModel, wc_yX10_road, by decide +kernel, by decide⟩
set_option maxRecDepth 20000 in
theorem cw_204 : gCeeV gInfW gCl gU 204 yX10_seats 10 1 0 := ⟨cX10_seats, 2, (some .int), TX10, 54, rfl, rfl, winstanceMethod_yX10_seats, ws_yX10_seats, wi_CommaStateModel, wc_yX10_seats, by decide +kernel, by decide⟩
set_option maxRecDepth 20000 in
theorem cw_205 : gCeeV gInfW gCl gU 205 yX10_would 10 10 0 := ⟨cX10_would, 11, (some .int), TX10, 54, rfl, rfl, winstanceMethod_yX10_would, ws_yX10_would, wi_CommaStateModel, wc_yX10_would, by decide +kernel, by decide⟩
set_option maxRecDepth 20000 in
theorem cw_206 : gCeeV gInfW gCl gU 206 yX10_can 10 3 0 := ⟨cX10_can, 4, (some .boolean), TX10, 54, rfl, rfl, winstanceMethod_yX10_can, ws_yX10_can, wi_CommaStateModel, wc_yX10_can, by decide +kernel, by decide⟩
set_option maxRecDepth 20000 in
theorem cw_207 : gCeeV gInfW gCl gU 207 yX10_ahead 10 2 0 := ⟨cX10_ahead, 4, (some .int), TX10, 54, rfl, rfl, winstanceMethod_yX10_ahead, ws_yX10_ahead, wi_CommaStateModel, wc_yX10_ahead, by decide +kernel, by decide⟩
set_option maxRecDepth 20000 in
theorem cw_209 : gCeeV gInfW gCl gU 209 yX10_turn 10 2 0 := ⟨cX10_turn, 12, (some .int), TX10, 54, rfl, rfl, winstanceMethod_yX10_turn, ws_yX10_turn, wi_CommaStateModel, wc_yX10_turn, by decide +kernel, by decide⟩
set_option maxRecDepth 20000 in
theorem cw_210 : gCeeV gInfW gCl gU 210 yX10_swing 10 1 0 := ⟨cX10_swing, 4, (some .int), TX10, 54, rfl, rfl, winstanceMethod_yX10_swing, ws_yX10_swing, wi_CommaStateModel, wc_yX10_swing, by decide +kernel, by decide⟩
set_option maxRecDepth 20000 in
theorem cw_211 : gCeeV gInfW gCl gU 211 yX10_given 10 2 0 := ⟨cX10_given, 6, (some .int), TX10, 54, rfl, rfl, winstanceMethod_yX10_given, ws_yX10_given, wi_CommaStateModel, wc_yX10_given, by decide +kernel, by decide⟩
set_option maxRecDepth 20000 in
theorem cw_215 : gCeeV gInfW gCl gU 215 yX10_league 10 1 0 := ⟨cX10_league, 4, (some .int), TX10, 54, rfl, rfl, winstanceMethod_yX10_league, ws_yX10_league, wi_CommaStateModel, wc_yX10_league, by decide +kernel, by decide⟩
set_option maxRecDepth 20000 in
theorem cw_219 : gCeeV gInfW gCl gU 219 yX10_drift 10 1 0 := ⟨cX10_drift, 6, (some .int), TX10, 54, rfl, rfl, winstanceMethod_yX10_drift, ws_yX10_drift, wi_CommaStateModel, wc_yX10_drift, by decide +kernel, by decide⟩
set_option maxRecDepth 20000 in
theorem cw_220 : gCeeV gInfW gCl gU 220 yX10_look 10 1 0 := ⟨cX10_look, 7, (some .int), TX10, 54, rfl, rfl, winstanceMethod_yX10_look, ws_yX10_look, wi_CommaStateModel, wc_yX10_look, by decide +kernel, by decide⟩
set_option maxRecDepth 20000 in
theorem cw_221 : gCeeV gInfW gCl gU 221 yX10_commas 10 3 0 := ⟨cX10_commas, 8, (some .int), TX10, 54, rfl, rfl, winstanceMethod_yX10_commas, ws_yX10_commas, wi_CommaStateModel, wc_yX10_commas, by decide +kernel, by decide⟩
set_option maxRecDepth 20000 in
theorem cw_224 : gCeeV gInfW gCl gU 224 yX10_odds 10 3 0 := ⟨cX10_odds, 14, (some .long), TX10, 54, rfl, rfl, winstanceMethod_yX10_odds, ws_yX10_odds, wi_CommaStateModel, wc_yX10_odds, by decide +kernel, by decide⟩
set_option maxRecDepth 20000 in
theorem cw_227 : gCeeV gInfW gCl gU 227 yX10_speak 10 2 0 := ⟨cX10_speak, 6, (some .int), TX10, 54, rfl, rfl, winstanceMethod_yX10_speak, ws_yX10_speak, wi_CommaStateModel, wc_yX10_speak, by decide +kernel, by decide⟩
set_option maxRecDepth 20000 in
theorem cw_229 : gCeeV gInfW gCl gU 229 yX10_bread 10 3 0 := ⟨cX10_bread, 7, (some .int), TX10, 54, rfl, rfl, winstanceMethod_yX10_bread, ws_yX10_bread, wi_CommaStateModel, wc_yX10_bread, by decide +kernel, by decide⟩
set_option maxRecDepth 20000 in
theorem cw_230 : gCeeV gInfW gCl gU 230 yX10_closest 10 1 0 := ⟨cX10_closest, 6, (some .int), TX10, 54, rfl, rfl, winstanceMethod_yX10_closest, ws_yX10_closest, wi_CommaStateModel, wc_yX10_closest, by decide +kernel, by decide⟩
set_option maxRecDepth 20000 in
theorem cw_125 : gCeeV gInfW gCl gU 125 yX9_parts 9 0 0 := ⟨cX9_parts, 1, (some .int), TX9, 16, rfl, rfl, winstanceMethod_yX9_parts, ws_yX9_parts, wi_CommaState, wc_yX9_parts, by decide +kernel, by decide⟩
set_option maxRecDepth 20000 in
theorem cw_216 : gCeeV gInfW gCl gU 216 yX10_parts 10 0 0 := ⟨cX10_parts, 4, (some .int), TX10, 54, rfl, rfl, winstanceMethod_yX10_parts, ws_yX10_parts, wi_CommaStateModel, wc_yX10_parts, by decide +kernel, by decide⟩
set_option maxRecDepth 20000 in
theorem cw_231 : gCeeV gInfW gCl gU 231 yX10_safest 10 1 0 := ⟨cX10_safest, 6, (some .int), TX10, 54, rfl, rfl, winstanceMethod_yX10_safest, ws_yX10_safest, wi_CommaStateModel, wc_yX10_safest, by decide +kernel, by decide⟩
set_option maxRecDepth 20000 in
theorem cw_126 : gCeeV gInfW gCl gU 126 yX9_bridges 9 0 0 := ⟨cX9_bridges, 1, (some .int), TX9, 16, rfl, rfl, winstanceMethod_yX9_bridges, ws_yX9_bridges, wi_CommaState, wc_yX9_bridges, by decide +kernel, by decide⟩
set_option maxRecDepth 20000 in
theorem cw_233 : gCeeV gInfW gCl gU 233 yX10_bridges 10 0 0 := ⟨cX10_bridges, 4, (some .int), TX10, 54, rfl, rfl, winstanceMethod_yX10_bridges, ws_yX10_bridges, wi_CommaStateModel, wc_yX10_bridges, by decide +kernel, by decide⟩
set_option maxRecDepth 20000 in
theorem cw_234 : gCeeV gInfW gCl gU 234 yX10_till 10 1 0 := ⟨cX10_till, 3, (some .int), TX10, 54, rfl, rfl, winstanceMethod_yX10_till, ws_yX10_till, wi_CommaStateModel, wc_yX10_till, by decide +kernel, by decide⟩
set_option maxRecDepth 20000 in
theorem cw_235 : gCeeV gInfW gCl gU 235 yX10_most 10 2 0 := ⟨cX10_most, 4, (some .int), TX10, 54, rfl, rfl, winstanceMethod_yX10_most, ws_yX10_most, wi_CommaStateModel, wc_yX10_most, by decide +kernel, by decide⟩
set_option maxRecDepth 20000 in
theorem cw_236 : gCeeV gInfW gCl gU 236 yX10_sides 10 1 0 := ⟨cX10_sides, 4, (some .int), TX10, 54, rfl, rfl, winstanceMethod_yX10_sides, ws_yX10_sides, wi_CommaStateModel, wc_yX10_sides, by decide +kernel, by decide⟩
set_option maxRecDepth 20000 in
theorem cw_113 : gCeeV gInfW gCl gU 113 yX9_margin 9 0 0 := ⟨cX9_margin, 1, (some .int), TX9, 16, rfl, rfl, winstanceMethod_yX9_margin, ws_yX9_margin, wi_CommaState, wc_yX9_margin, by decide +kernel, by decide⟩
set_option maxRecDepth 20000 in
theorem cw_237 : gCeeV gInfW gCl gU 237 yX10_margin 10 0 0 := ⟨cX10_margin, 1, (some .int), TX10, 54, rfl, rfl, winstanceMethod_yX10_margin, ws_yX10_margin, wi_CommaStateModel, wc_yX10_margin, by decide +kernel, by decide⟩
set_option maxRecDepth 20000 in
theorem cw_238 : gCeeV gInfW gCl gU 238 yX10_lightest 10 1 0 := ⟨cX10_lightest, 4, (some .int), TX10, 54, rfl, rfl, winstanceMethod_yX10_lightest, ws_yX10_lightest, wi_CommaStateModel, wc_yX10_lightest, by decide +kernel, by decide⟩
set_option maxRecDepth 20000 in
theorem cw_242 : gCeeV gInfW gCl gU 242 yX10_term 10 4 0 := ⟨cX10_term, 5, (some .int), TX10, 54, rfl, rfl, winstanceMethod_yX10_term, ws_yX10_term, wi_CommaStateModel, wc_yX10_term, by decide +kernel, by decide⟩
set_option maxRecDepth 20000 in
theorem cw_243 : gCeeV gInfW gCl gU 243 yX10_span 10 5 0 := ⟨cX10_span, 11, (some .int), TX10, 54, rfl, rfl, winstanceMethod_yX10_span, ws_yX10_span, wi_CommaStateModel, wc_yX10_span, by decide +kernel, by decide⟩
set_option maxRecDepth 20000 in
theorem cw_133 : gCeeV gInfW gCl gU 133 yX9_image 9 0 0 := ⟨cX9_image, 1, (some .int), TX9, 16, rfl, rfl, winstanceMethod_yX9_image, ws_yX9_image, wi_CommaState, wc_yX9_image, by decide +kernel, by decide⟩
set_option maxRecDepth 20000 in
theorem cw_246 : gCeeV gInfW gCl gU 246 yX10_image 10 0 0 := ⟨cX10_image, 1, (some .int), TX10, 54, rfl, rfl, winstanceMethod_yX10_image, ws_yX10_image, wi_CommaStateModel, wc_yX10_image, by decide +kernel, by decide⟩
set_option maxRecDepth 20000 in
theorem cw_134 : gCeeV gInfW gCl gU 134 yX9_restore 9 0 0 := ⟨cX9_restore, 1, (some .int), TX9, 16, rfl, rfl, winstanceMethod_yX9_restore, ws_yX9_restore, wi_CommaState, wc_yX9_restore, by decide +kernel, by decide⟩
set_option maxRecDepth 20000 in
theorem cw_247 : gCeeV gInfW gCl gU 247 yX10_restore 10 0 0 := ⟨cX10_restore, 1, (some .int), TX10, 54, rfl, rfl, winstanceMethod_yX10_restore, ws_yX10_restore, wi_CommaStateModel, wc_yX10_restore, by decide +kernel, by decide⟩
set_option maxRecDepth 20000 in
theorem cw_135 : gCeeV gInfW gCl gU 135 yX9_status 9 1 0 := ⟨cX9_status, 2, (some .int), TX9, 16, rfl, rfl, winstanceMethod_yX9_status, ws_yX9_status, wi_CommaState, wc_yX9_status, by decide +kernel, by decide⟩
set_option maxRecDepth 20000 in
theorem cw_248 : gCeeV gInfW gCl gU 248 yX10_status 10 1 0 := ⟨cX10_status, 2, (some .int), TX10, 54, rfl, rfl, winstanceMethod_yX10_status, ws_yX10_status, wi_CommaStateModel, wc_yX10_status, by decide +kernel, by decide⟩
set_option maxRecDepth 20000 in
theorem cw_136 : gCeeV gInfW gCl gU 136 yX9_count 9 1 0 := ⟨cX9_count, 2, (some .int), TX9, 16, rfl, rfl, winstanceMethod_yX9_count, ws_yX9_count, wi_CommaState, wc_yX9_count, by decide +kernel, by decide⟩
set_option maxRecDepth 20000 in
theorem cw_249 : gCeeV gInfW gCl gU 249 yX10_count 10 1 0 := ⟨cX10_count, 2, (some .int), TX10, 54, rfl, rfl, winstanceMethod_yX10_count, ws_yX10_count, wi_CommaStateModel, wc_yX10_count, by decide +kernel, by decide⟩
def gCeeW (inf : Nat → gInf) (U : List Cond) (M : Nat) (y : MethodName) (na zM : Nat) : Prop :=
  ∃ (cM : ByteArray) (nM : Nat) (rM : Option FieldType) (h0 : Nat × Nat × Nat × Nat) (h1 : List (Nat × Nat × Nat × Nat)), inf M = (y, cM, nM, rM, zM, h0 :: h1) ∧ Cond.static y ∈ U ∧ Cond.initialized y.cls ∈ U ∧ Cond.codeWith y cM nM rM (h0 :: h1) ∈ U ∧
    (y.cls ≠ "java/lang/invoke/MethodHandle" ∧ y.cls ≠ "java/lang/invoke/VarHandle" ∧ (parseMethodDescriptor y.desc).map (fun d => d.parameters.length) = some na) ∧ nM ≤ 45
section GKBW
variable {inf : Nat → gInf} {cl : List vw_C} {U : List Cond} {SS : Nat → gS} {d : Nat} {TH : Nat → String → Prop} {cc : ByteArray} {nL : Nat} {own : String} {z : Nat → Nat} {mc k : Nat}
theorem gs_cvH {Ls : Nat} {xs : Nat → Int32} {hh : List (Nat × Nat × Nat × Nat)} {hs : List (String × Int32)} {M idx ci np zM : Nat} {y : MethodName} (hU : ∀ w ∈ U, goodWord w = true) (hm : ∀ M, gSmono (SS M)) (h : gCeeV inf cl U M y ci np zM) (hlink : Cond.methodLink own idx y ∈ U) (hdec : decode cc k = .ok (.invokevirtual idx, 3)) (hz : z k + zM ≤ z (k + 3)) (hcat : ∀ E n, (E, n) ∈ hs → gCatch U cc nL own hh k E n) : gOkW hh (gEXv Ls xs) inf cl U SS d TH cc nL own (some .int) z mc k (gi_callvH (SS M) ci (k + 3) (np + 1) hs) := by
  obtain ⟨cM, nM, rM, T0, N, hi, h1, h2, h3, h4, h5, h6, h7⟩ := h
  exact gs_callvH hU (hm M) (by rw [hi]) (by rw [hi]; exact h1) (by rw [hi]; exact hlink) (by rw [hi]; exact h2) (by rw [hi]; exact h3) (by rw [hi]; exact h4) (by rw [hi]; exact h5) (by rw [hi]; exact h6) (by rw [hi]; exact h7) hdec (by rw [hi]; exact hz) hcat
theorem gs_csX {EX : gEX} {rt : Option FieldType} {M idx na zM : Nat} {y : MethodName} (hU : ∀ w ∈ U, goodWord w = true) (hm : ∀ M, gSmono (SS M)) (h : gCeeW inf U M y na zM) (hlink : Cond.methodLink own idx y ∈ U) (hdec : decode cc k = .ok (.invokestatic idx, 3)) (hz : z k + zM ≤ z (k + 3)) : gOk EX inf cl U SS d TH cc nL own rt z mc k (gi_calls (SS M) (k + 3) na) := by
  obtain ⟨cM, nM, rM, h0, h1, hi, h2, h4, h5, h6, h7⟩ := h
  exact gs_callsX (h0 := h0) (h1 := h1) hU (hm M) (by rw [hi]) (by rw [hi]; exact hlink) (by rw [hi]; exact h2) (by rw [hi]; exact h4) (by rw [hi]; exact h5) (by rw [hi]; exact h6) (by rw [hi]; exact h7) hdec (by rw [hi]; exact hz)
end GKBW
set_option maxRecDepth 20000 in
theorem cx_258 : gCeeW gInfW gU 258 yL_state 3 1 := ⟨cL_state, 4, (some .int), (0, 9, 12, 13), [], rfl, wstatic_yL_state, wi_CommaStateLaw, wc_yL_state, by decide +kernel, by decide⟩
set_option maxRecDepth 20000 in
theorem cx_259 : gCeeW gInfW gU 259 yL_law 3 1 := ⟨cL_law, 4, (some .int), (0, 9, 12, 13), [], rfl, wstatic_yL_law, wi_CommaStateLaw, wc_yL_law, by decide +kernel, by decide⟩
set_option maxRecDepth 20000 in
theorem cx_260 : gCeeW gInfW gU 260 yL_work 3 1 := ⟨cL_work, 4, (some .int), (0, 9, 12, 13), [], rfl, wstatic_yL_work, wi_CommaStateLaw, wc_yL_work, by decide +kernel, by decide⟩
set_option maxRecDepth 20000 in
theorem cx_261 : gCeeW gInfW gU 261 yL_book 3 1 := ⟨cL_book, 4, (some .int), (0, 9, 12, 13), [], rfl, wstatic_yL_book, wi_CommaStateLaw, wc_yL_book, by decide +kernel, by decide⟩
set_option maxRecDepth 20000 in
theorem cx_262 : gCeeW gInfW gU 262 yL_told 3 1 := ⟨cL_told, 4, (some .int), (0, 9, 12, 13), [], rfl, wstatic_yL_told, wi_CommaStateLaw, wc_yL_told, by decide +kernel, by decide⟩
set_option maxRecDepth 20000 in
theorem cx_263 : gCeeW gInfW gU 263 yL_town 4 2 := ⟨cL_town, 5, (some .int), (0, 10, 13, 31), [(0, 10, 17, 13)], rfl, wstatic_yL_town, wi_CommaStateLaw, wc_yL_town, by decide +kernel, by decide⟩
set_option maxRecDepth 20000 in
theorem cx_264 : gCeeW gInfW gU 264 yL_road 4 2 := ⟨cL_road, 5, (some .int), (0, 10, 13, 31), [(0, 10, 17, 13)], rfl, wstatic_yL_road, wi_CommaStateLaw, wc_yL_road, by decide +kernel, by decide⟩
set_option maxRecDepth 20000 in
theorem cx_265 : gCeeW gInfW gU 265 yL_seats 3 1 := ⟨cL_seats, 4, (some .int), (0, 9, 12, 13), [], rfl, wstatic_yL_seats, wi_CommaStateLaw, wc_yL_seats, by decide +kernel, by decide⟩
set_option maxRecDepth 20000 in
theorem cx_266 : gCeeW gInfW gU 266 yL_would 12 4 := ⟨cL_would, 13, (some .int), (0, 26, 29, 13), [], rfl, wstatic_yL_would, wi_CommaStateLaw, wc_yL_would, by decide +kernel, by decide⟩
set_option maxRecDepth 20000 in
theorem cx_267 : gCeeW gInfW gU 267 yL_can 5 2 := ⟨cL_can, 6, (some .int), (0, 19, 22, 31), [], rfl, wstatic_yL_can, wi_CommaStateLaw, wc_yL_can, by decide +kernel, by decide⟩
set_option maxRecDepth 20000 in
theorem cx_268 : gCeeW gInfW gU 268 yL_ahead 4 1 := ⟨cL_ahead, 5, (some .int), (0, 10, 13, 13), [], rfl, wstatic_yL_ahead, wi_CommaStateLaw, wc_yL_ahead, by decide +kernel, by decide⟩
set_option maxRecDepth 20000 in
theorem cx_269 : gCeeW gInfW gU 269 yL_turn 4 1 := ⟨cL_turn, 5, (some .int), (0, 10, 13, 13), [], rfl, wstatic_yL_turn, wi_CommaStateLaw, wc_yL_turn, by decide +kernel, by decide⟩
set_option maxRecDepth 20000 in
theorem cx_270 : gCeeW gInfW gU 270 yL_swing 3 1 := ⟨cL_swing, 4, (some .int), (0, 9, 12, 31), [], rfl, wstatic_yL_swing, wi_CommaStateLaw, wc_yL_swing, by decide +kernel, by decide⟩
set_option maxRecDepth 20000 in
theorem cx_271 : gCeeW gInfW gU 271 yL_given 4 2 := ⟨cL_given, 5, (some .int), (0, 10, 13, 31), [(0, 10, 17, 13)], rfl, wstatic_yL_given, wi_CommaStateLaw, wc_yL_given, by decide +kernel, by decide⟩
set_option maxRecDepth 20000 in
theorem cx_272 : gCeeW gInfW gU 272 yL_league 3 1 := ⟨cL_league, 4, (some .int), (0, 9, 12, 13), [], rfl, wstatic_yL_league, wi_CommaStateLaw, wc_yL_league, by decide +kernel, by decide⟩
set_option maxRecDepth 20000 in
theorem cx_273 : gCeeW gInfW gU 273 yL_drift 3 1 := ⟨cL_drift, 4, (some .int), (0, 9, 12, 13), [], rfl, wstatic_yL_drift, wi_CommaStateLaw, wc_yL_drift, by decide +kernel, by decide⟩
set_option maxRecDepth 20000 in
theorem cx_274 : gCeeW gInfW gU 274 yL_look 3 1 := ⟨cL_look, 4, (some .int), (0, 9, 12, 13), [], rfl, wstatic_yL_look, wi_CommaStateLaw, wc_yL_look, by decide +kernel, by decide⟩
set_option maxRecDepth 20000 in
theorem cx_275 : gCeeW gInfW gU 275 yL_commas 5 1 := ⟨cL_commas, 6, (some .int), (0, 12, 15, 13), [], rfl, wstatic_yL_commas, wi_CommaStateLaw, wc_yL_commas, by decide +kernel, by decide⟩
set_option maxRecDepth 20000 in
theorem cx_276 : gCeeW gInfW gU 276 yL_odds 5 2 := ⟨cL_odds, 6, (some .int), (0, 11, 14, 31), [(0, 11, 18, 13)], rfl, wstatic_yL_odds, wi_CommaStateLaw, wc_yL_odds, by decide +kernel, by decide⟩
set_option maxRecDepth 20000 in
theorem cx_277 : gCeeW gInfW gU 277 yL_speak 4 1 := ⟨cL_speak, 5, (some .int), (0, 10, 13, 13), [], rfl, wstatic_yL_speak, wi_CommaStateLaw, wc_yL_speak, by decide +kernel, by decide⟩
set_option maxRecDepth 20000 in
theorem cx_278 : gCeeW gInfW gU 278 yL_bread 5 2 := ⟨cL_bread, 6, (some .int), (0, 12, 15, 31), [(0, 12, 19, 13)], rfl, wstatic_yL_bread, wi_CommaStateLaw, wc_yL_bread, by decide +kernel, by decide⟩
set_option maxRecDepth 20000 in
theorem cx_279 : gCeeW gInfW gU 279 yL_closest 3 1 := ⟨cL_closest, 4, (some .int), (0, 9, 12, 13), [], rfl, wstatic_yL_closest, wi_CommaStateLaw, wc_yL_closest, by decide +kernel, by decide⟩
set_option maxRecDepth 20000 in
theorem cx_280 : gCeeW gInfW gU 280 yL_safest 3 1 := ⟨cL_safest, 4, (some .int), (0, 9, 12, 13), [], rfl, wstatic_yL_safest, wi_CommaStateLaw, wc_yL_safest, by decide +kernel, by decide⟩
set_option maxRecDepth 20000 in
theorem cx_281 : gCeeW gInfW gU 281 yL_till 3 1 := ⟨cL_till, 4, (some .int), (0, 9, 12, 13), [], rfl, wstatic_yL_till, wi_CommaStateLaw, wc_yL_till, by decide +kernel, by decide⟩
set_option maxRecDepth 20000 in
theorem cx_282 : gCeeW gInfW gU 282 yL_most 4 2 := ⟨cL_most, 5, (some .int), (0, 10, 13, 31), [], rfl, wstatic_yL_most, wi_CommaStateLaw, wc_yL_most, by decide +kernel, by decide⟩
set_option maxRecDepth 20000 in
theorem cx_283 : gCeeW gInfW gU 283 yL_sides 3 1 := ⟨cL_sides, 4, (some .int), (0, 9, 12, 13), [], rfl, wstatic_yL_sides, wi_CommaStateLaw, wc_yL_sides, by decide +kernel, by decide⟩
set_option maxRecDepth 20000 in
theorem cx_284 : gCeeW gInfW gU 284 yL_lightest 3 1 := ⟨cL_lightest, 4, (some .int), (0, 9, 12, 13), [], rfl, wstatic_yL_lightest, wi_CommaStateLaw, wc_yL_lightest, by decide +kernel, by decide⟩
set_option maxRecDepth 20000 in
theorem cx_285 : gCeeW gInfW gU 285 yL_term 6 1 := ⟨cL_term, 7, (some .int), (0, 14, 17, 13), [], rfl, wstatic_yL_term, wi_CommaStateLaw, wc_yL_term, by decide +kernel, by decide⟩
set_option maxRecDepth 20000 in
theorem cx_286 : gCeeW gInfW gU 286 yL_span 7 2 := ⟨cL_span, 8, (some .int), (0, 16, 19, 13), [], rfl, wstatic_yL_span, wi_CommaStateLaw, wc_yL_span, by decide +kernel, by decide⟩
