/-! ===== method numbers, their facts ===== -/
def gInfL : List gInf := [(yX0_clear, cX0_clear, 1, none, 0, []),
  (yX0_read, cX0_read, 4, none, 0, []),
  (yX0_readLine, cX0_readLine, 4, none, 0, []),
  (yX0_holds, cX0_holds, 2, (some .boolean), 0, []),
  (yX0_fits, cX0_fits, 5, (some .boolean), 0, []),
  (yX0_sideThen, cX0_sideThen, 4, (some .int), 0, []),
  (yX0_measure, cX0_measure, 5, none, 0, []),
  (yX0_worst, cX0_worst, 3, (some .int), 0, []),
  (yX0_nextTown, cX0_nextTown, 4, (some .int), 0, []),
  (yX1_read, cX1_read, 4, none, 0, []),
  (yX1_readStep, cX1_readStep, 6, none, 0, []),
  (yX1_readHeld, cX1_readHeld, 5, none, 0, []),
  (yX1_forget, cX1_forget, 1, none, 0, []),
  (yX1_enact, cX1_enact, 10, none, 0, []),
  (yX1_enactStep, cX1_enactStep, 5, (some .boolean), 0, []),
  (yX2_holdVotes, cX2_holdVotes, 6, none, 0, []),
  (yX2_votesTill, cX2_votesTill, 6, (some .int), 0, []),
  (yX2_draw, cX2_draw, 3, (some .int), 0, []),
  (yX2_serveTerm, cX2_serveTerm, 9, none, 0, []),
  (yX2_liveDay, cX2_liveDay, 5, none, 0, []),
  (yX3_read, cX3_read, 4, none, 0, []),
  (yX3_readClause, cX3_readClause, 7, none, 0, []),
  (yX3_readTown, cX3_readTown, 6, none, 0, []),
  (yX3_readRoad, cX3_readRoad, 4, none, 0, []),
  (yX3_allSeats, cX3_allSeats, 1, (some .int), 0, []),
  (yX3_seatsIn, cX3_seatsIn, 4, (some .int), 0, []),
  (yX3_everyTown, cX3_everyTown, 1, (some .int), 0, []),
  (yX3_knows, cX3_knows, 2, (some .boolean), 0, []),
  (yX3_reached, cX3_reached, 9, (some .int), 0, []),
  (yX3_pieces, cX3_pieces, 5, (some .int), 0, []),
  (yX3_cuts, cX3_cuts, 4, (some .int), 0, []),
  (yX3_fewestTogether, cX3_fewestTogether, 7, (some .int), 0, []),
  (yX4_setPlain, cX4_setPlain, 1, none, 0, []),
  (yX4_emit, cX4_emit, 2, none, 0, []),
  (yX4_read, cX4_read, 2, none, 0, []),
  (yX4_readSum, cX4_readSum, 5, none, 0, []),
  (yX4_readProduct, cX4_readProduct, 5, none, 0, []),
  (yX4_readUnit, cX4_readUnit, 5, none, 0, []),
  (yX4_tellTown, cX4_tellTown, 7, none, 0, []),
  (yX4_tellAll, cX4_tellAll, 5, none, 0, []),
  (yX4_outcome, cX4_outcome, 5, (some .int), 0, []),
  (yX4_join, cX4_join, 3, (some .int), 0, []),
  (yX5_clear, cX5_clear, 1, none, 0, []),
  (yX5_keepWork, cX5_keepWork, 2, none, 0, []),
  (yX5_takeWork, cX5_takeWork, 2, none, 0, []),
  (yX5_keepImage, cX5_keepImage, 3, none, 0, []),
  (yX5_takeImage, cX5_takeImage, 3, none, 0, []),
  (yX6_nearestToHalf, cX6_nearestToHalf, 5, (some .int), 0, []),
  (yX6_farthestFromHalf, cX6_farthestFromHalf, 5, (some .int), 0, []),
  (yX6_fewestBySeat, cX6_fewestBySeat, 5, (some .int), 0, []),
  (yX6_votersBySeat, cX6_votersBySeat, 5, (some .int), 0, []),
  (yX6_cheapestTurn, cX6_cheapestTurn, 11, (some .int), 0, []),
  (yX6_turnCost, cX6_turnCost, 9, (some .int), 0, []),
  (yX6_swingSets, cX6_swingSets, 8, (some .int), 0, []),
  (yX6_giveSeats, cX6_giveSeats, 9, none, 0, []),
  (yX6_hearBoth, cX6_hearBoth, 6, none, 0, []),
  (yX6_noteRest, cX6_noteRest, 3, none, 0, []),
  (yX6_paid, cX6_paid, 11, (some .int), 0, []),
  (yX6_isRest, cX6_isRest, 7, (some .boolean), 0, []),
  (yX6_breadBound, cX6_breadBound, 7, (some .int), 0, []),
  (yX6_breadGiven, cX6_breadGiven, 7, (some .int), 0, []),
  (yX6_choose, cX6_choose, 5, (some .long), 0, []),
  (yX6_power, cX6_power, 6, (some .long), 0, []),
  (yX6_waysForMost, cX6_waysForMost, 5, (some .long), 0, []),
  (yX6_commonDivisor, cX6_commonDivisor, 11, (some .long), 0, []),
  (yX7_put, cX7_put, 3, none, 0, []),
  (yX7_drop, cX7_drop, 1, none, 0, []),
  (yX7_open, cX7_open, 2, none, 0, []),
  (yX7_sound, cX7_sound, 1, (some .boolean), 0, []),
  (yX7_answer, cX7_answer, 1, (some .int), 0, []),
  (yX7_fail, cX7_fail, 2, none, 0, []),
  (yX7_advance, cX7_advance, 1, none, 0, []),
  (yX7_atSign, cX7_atSign, 2, (some .boolean), 0, []),
  (yX7_sign, cX7_sign, 2, none, 0, []),
  (yX7_numberHere, cX7_numberHere, 3, (some .int), 0, []),
  (yX7_number, cX7_number, 4, (some .int), 0, []),
  (yX7_wordHere, cX7_wordHere, 7, (some .int), 0, []),
  (yX8_clear, cX8_clear, 1, none, 0, []),
  (yX8_copy, cX8_copy, 3, none, 0, []),
  (yX8_save, cX8_save, 4, none, 0, []),
  (yX8_load, cX8_load, 4, none, 0, []),
  (yX8_sideBy, cX8_sideBy, 2, (some .int), 0, []),
  (yX8_side, cX8_side, 2, (some .int), 0, []),
  (yX8_shifted, cX8_shifted, 3, (some .int), 0, []),
  (yX8_apart, cX8_apart, 2, (some .int), 0, []),
  (yX8_parted, cX8_parted, 2, (some .int), 0, []),
  (yX8_sideBits, cX8_sideBits, 5, (some .int), 0, []),
  (yX8_seatsOf, cX8_seatsOf, 3, (some .int), 0, []),
  (yX8_allVoters, cX8_allVoters, 4, (some .int), 0, []),
  (yX8_allBreathe, cX8_allBreathe, 4, (some .int), 0, []),
  (yX8_sway, cX8_sway, 4, (some .int), 0, []),
  (yX8_swayBy, cX8_swayBy, 6, (some .int), 0, []),
  (yX8_holdVote, cX8_holdVote, 5, none, 0, []),
  (yX8_mostMovable, cX8_mostMovable, 5, (some .int), 0, []),
  (yX8_movable, cX8_movable, 4, (some .boolean), 0, []),
  (yX8_move, cX8_move, 4, (some .boolean), 0, []),
  (yX8_nextYear, cX8_nextYear, 1, (some .boolean), 0, []),
  (yX8_flip, cX8_flip, 1, none, 0, []),
  (yX9_feed, cX9_feed, 6, (some .int), 0, []),
  (yX9_state, cX9_state, 3, (some .int), 1, []),
  (yX9_law, cX9_law, 3, (some .int), 1, []),
  (yX9_work, cX9_work, 2, (some .int), 1, []),
  (yX9_book, cX9_book, 3, (some .int), 1, []),
  (yX9_fault, cX9_fault, 1, (some .int), 0, []),
  (yX9_undo, cX9_undo, 1, (some .int), 0, []),
  (yX9_told, cX9_told, 2, (some .int), 1, []),
  (yX9_town, cX9_town, 3, (some .int), 2, []),
  (yX9_road, cX9_road, 3, (some .int), 2, []),
  (yX9_seats, cX9_seats, 2, (some .int), 1, []),
  (yX9_would, cX9_would, 11, (some .int), 4, []),
  (yX9_can, cX9_can, 4, (some .boolean), 2, []),
  (yX9_most, cX9_most, 3, (some .int), 2, []),
  (yX9_sides, cX9_sides, 2, (some .int), 1, []),
  (yX9_margin, cX9_margin, 1, (some .int), 0, []),
  (yX9_closest, cX9_closest, 3, (some .int), 1, []),
  (yX9_safest, cX9_safest, 3, (some .int), 1, []),
  (yX9_lightest, cX9_lightest, 3, (some .int), 1, []),
  (yX9_ahead, cX9_ahead, 3, (some .int), 1, []),
  (yX9_till, cX9_till, 2, (some .int), 1, []),
  (yX9_term, cX9_term, 5, (some .int), 1, []),
  (yX9_span, cX9_span, 11, (some .int), 2, []),
  (yX9_turn, cX9_turn, 4, (some .int), 1, []),
  (yX9_swing, cX9_swing, 2, (some .int), 1, []),
  (yX9_given, cX9_given, 3, (some .int), 2, []),
  (yX9_league, cX9_league, 2, (some .int), 1, []),
  (yX9_parts, cX9_parts, 1, (some .int), 0, []),
  (yX9_bridges, cX9_bridges, 1, (some .int), 0, []),
  (yX9_drift, cX9_drift, 2, (some .int), 1, []),
  (yX9_look, cX9_look, 3, (some .int), 1, []),
  (yX9_commas, cX9_commas, 5, (some .int), 1, []),
  (yX9_odds, cX9_odds, 13, (some .long), 2, []),
  (yX9_speak, cX9_speak, 3, (some .int), 1, []),
  (yX9_bread, cX9_bread, 4, (some .int), 2, []),
  (yX9_image, cX9_image, 1, (some .int), 0, []),
  (yX9_restore, cX9_restore, 1, (some .int), 0, []),
  (yX9_status, cX9_status, 2, (some .int), 0, []),
  (yX9_count, cX9_count, 2, (some .int), 0, []),
  (yX9_within, cX9_within, 3, (some .boolean), 0, []),
  (yX9_need, cX9_need, 2, none, 1, []),
  (yX9_needSuch, cX9_needSuch, 2, none, 1, []),
  (yX9_needTown, cX9_needTown, 2, none, 1, []),
  (yX9_needText, cX9_needText, 3, none, 1, []),
  (yX10_thrown, cX10_thrown, 1, (some .int), 0, []),
  (yX10_may, cX10_may, 4, (some .boolean), 0, []),
  (yX10_within, cX10_within, 3, (some .boolean), 0, []),
  (yX10_feed, cX10_feed, 8, (some .int), 0, []),
  (yX10_fine, cX10_fine, 1, (some .boolean), 0, []),
  (yX10_wrong, cX10_wrong, 3, none, 0, []),
  (yX10_here, cX10_here, 1, (some .int), 0, []),
  (yX10_isSmall, cX10_isSmall, 1, (some .boolean), 0, []),
  (yX10_isDigit, cX10_isDigit, 1, (some .boolean), 0, []),
  (yX10_word, cX10_word, 4, (some .int), 0, []),
  (yX10_of, cX10_of, 3, (some .int), 0, []),
  (yX10_pass, cX10_pass, 1, none, 0, []),
  (yX10_readNumber, cX10_readNumber, 6, (some .int), 0, []),
  (yX10_sign, cX10_sign, 2, none, 0, []),
  (yX10_isMore, cX10_isMore, 1, (some .boolean), 0, []),
  (yX10_begins, cX10_begins, 2, none, 0, []),
  (yX10_result, cX10_result, 2, (some .int), 0, []),
  (yX10_fault, cX10_fault, 1, (some .int), 0, []),
  (yX10_copies, cX10_copies, 5, none, 0, []),
  (yX10_clears, cX10_clears, 1, none, 0, []),
  (yX10_sets, cX10_sets, 2, none, 0, []),
  (yX10_readTown, cX10_readTown, 1, (some .int), 0, []),
  (yX10_readRoad, cX10_readRoad, 7, none, 0, []),
  (yX10_isRow, cX10_isRow, 1, (some .boolean), 0, []),
  (yX10_readRow, cX10_readRow, 2, none, 0, []),
  (yX10_state, cX10_state, 4, (some .int), 0, []),
  (yX10_emit, cX10_emit, 3, none, 0, []),
  (yX10_opensOne, cX10_opensOne, 2, none, 0, []),
  (yX10_readSum, cX10_readSum, 2, none, 0, []),
  (yX10_readProduct, cX10_readProduct, 2, none, 0, []),
  (yX10_readTwo, cX10_readTwo, 3, none, 0, []),
  (yX10_standsHere, cX10_standsHere, 3, (some .boolean), 0, []),
  (yX10_factHere, cX10_factHere, 2, (some .int), 0, []),
  (yX10_readUnit, cX10_readUnit, 2, none, 0, []),
  (yX10_law, cX10_law, 3, (some .int), 0, []),
  (yX10_valueNow, cX10_valueNow, 4, (some .int), 0, []),
  (yX10_both, cX10_both, 3, (some .int), 0, []),
  (yX10_swayNow, cX10_swayNow, 2, (some .int), 0, []),
  (yX10_tellsStep, cX10_tellsStep, 5, none, 0, []),
  (yX10_readStep, cX10_readStep, 4, none, 0, []),
  (yX10_work, cX10_work, 4, (some .int), 0, []),
  (yX10_goesSteps, cX10_goesSteps, 6, none, 0, []),
  (yX10_take, cX10_take, 1, none, 0, []),
  (yX10_goesTo, cX10_goesTo, 2, (some .int), 0, []),
  (yX10_partyOf, cX10_partyOf, 2, (some .int), 0, []),
  (yX10_roadsOf, cX10_roadsOf, 4, (some .int), 0, []),
  (yX10_nearOf, cX10_nearOf, 5, (some .int), 0, []),
  (yX10_swayOf, cX10_swayOf, 11, (some .int), 0, []),
  (yX10_swayBy, cX10_swayBy, 2, (some .int), 0, []),
  (yX10_held, cX10_held, 2, (some .int), 0, []),
  (yX10_seatsOf, cX10_seatsOf, 4, (some .int), 0, []),
  (yX10_canMove, cX10_canMove, 4, (some .boolean), 0, []),
  (yX10_votes, cX10_votes, 3, none, 0, []),
  (yX10_goes, cX10_goes, 5, (some .boolean), 0, []),
  (yX10_book, cX10_book, 6, (some .int), 0, []),
  (yX10_undo, cX10_undo, 2, (some .int), 0, []),
  (yX10_sumOf, cX10_sumOf, 4, (some .int), 0, []),
  (yX10_seatsAll, cX10_seatsAll, 3, (some .int), 0, []),
  (yX10_told, cX10_told, 2, (some .int), 0, []),
  (yX10_isTown, cX10_isTown, 3, (some .boolean), 0, []),
  (yX10_town, cX10_town, 3, (some .int), 0, []),
  (yX10_road, cX10_road, 3, (some .int), 0, []),
  (yX10_seats, cX10_seats, 2, (some .int), 0, []),
  (yX10_would, cX10_would, 11, (some .int), 0, []),
  (yX10_can, cX10_can, 4, (some .boolean), 0, []),
  (yX10_ahead, cX10_ahead, 4, (some .int), 0, []),
  (yX10_turnsOf, cX10_turnsOf, 4, (some .int), 0, []),
  (yX10_turn, cX10_turn, 12, (some .int), 0, []),
  (yX10_swing, cX10_swing, 4, (some .int), 0, []),
  (yX10_given, cX10_given, 6, (some .int), 0, []),
  (yX10_hangs, cX10_hangs, 6, (some .int), 0, []),
  (yX10_first, cX10_first, 2, (some .int), 0, []),
  (yX10_ones, cX10_ones, 3, (some .int), 0, []),
  (yX10_league, cX10_league, 4, (some .int), 0, []),
  (yX10_parts, cX10_parts, 4, (some .int), 0, []),
  (yX10_driftTo, cX10_driftTo, 3, (some .int), 0, []),
  (yX10_isDrift, cX10_isDrift, 3, (some .boolean), 0, []),
  (yX10_drift, cX10_drift, 6, (some .int), 0, []),
  (yX10_look, cX10_look, 7, (some .int), 0, []),
  (yX10_commas, cX10_commas, 8, (some .int), 0, []),
  (yX10_isPart, cX10_isPart, 3, (some .boolean), 0, []),
  (yX10_least, cX10_least, 11, (some .long), 0, []),
  (yX10_odds, cX10_odds, 14, (some .long), 0, []),
  (yX10_speaksHas, cX10_speaksHas, 9, (some .int), 0, []),
  (yX10_isRest, cX10_isRest, 5, (some .boolean), 0, []),
  (yX10_speak, cX10_speak, 6, (some .int), 0, []),
  (yX10_breadBy, cX10_breadBy, 5, (some .int), 0, []),
  (yX10_bread, cX10_bread, 7, (some .int), 0, []),
  (yX10_closest, cX10_closest, 6, (some .int), 0, []),
  (yX10_safest, cX10_safest, 6, (some .int), 0, []),
  (yX10_partsBut, cX10_partsBut, 7, (some .int), 0, []),
  (yX10_bridges, cX10_bridges, 4, (some .int), 0, []),
  (yX10_till, cX10_till, 3, (some .int), 0, []),
  (yX10_most, cX10_most, 4, (some .int), 0, []),
  (yX10_sides, cX10_sides, 4, (some .int), 0, []),
  (yX10_margin, cX10_margin, 1, (some .int), 0, []),
  (yX10_lightest, cX10_lightest, 4, (some .int), 0, []),
  (yX10_draws, cX10_draws, 2, (some .int), 0, []),
  (yX10_termGoes, cX10_termGoes, 7, none, 0, []),
  (yX10_isTerm, cX10_isTerm, 2, (some .boolean), 0, []),
  (yX10_term, cX10_term, 5, (some .int), 0, []),
  (yX10_span, cX10_span, 11, (some .int), 0, []),
  (yX10_keepsRow, cX10_keepsRow, 6, (some .int), 0, []),
  (yX10_keepsAll, cX10_keepsAll, 4, none, 0, []),
  (yX10_image, cX10_image, 1, (some .int), 0, []),
  (yX10_restore, cX10_restore, 1, (some .int), 0, []),
  (yX10_status, cX10_status, 2, (some .int), 0, []),
  (yX10_count, cX10_count, 2, (some .int), 0, []),
  (yJ6_bitCount_0f7a4, cJ6_bitCount_0f7a4, 1, (some .int), 0, []),
  (yJ0_length_8abf5, cJ0_length_8abf5, 1, (some .int), 0, []),
  (yJ0_charAt_5068e, cJ0_charAt_5068e, 2, (some .char), 0, []),
  (yJ0_coder_7d493, cJ0_coder_7d493, 1, (some .byte), 0, []),
  (yJ0_isLatin1_aae02, cJ0_isLatin1_aae02, 1, (some .boolean), 0, []),
  (yJ1_charAt_3b067, cJ1_charAt_3b067, 2, (some .char), 0, []),
  (yJ0_checkIndex_df160, cJ0_checkIndex_df160, 2, none, 0, []),
  (yJ3_checkIndex_8e157, cJ3_checkIndex_8e157, 3, (some .int), 0, [])]
def gInfT : Nat → gInf := fun M => gInfL.getD M (yX0_clear, cX0_clear, 0, none, 0, [])
set_option maxRecDepth 20000 in
theorem cv_0 : gCeeV gInfT gCl gU 0 yX0_clear 0 0 0 := ⟨cX0_clear, 1, none, TX0, 7, rfl, rfl, winstanceMethod_yX0_clear, ws_yX0_clear, wi_CommaState_Book, wc_yX0_clear, by decide +kernel, by decide⟩
set_option maxRecDepth 20000 in
theorem cv_1 : gCeeV gInfT gCl gU 1 yX0_read 0 2 0 := ⟨cX0_read, 4, none, TX0, 7, rfl, rfl, winstanceMethod_yX0_read, ws_yX0_read, wi_CommaState_Book, wc_yX0_read, by decide +kernel, by decide⟩
set_option maxRecDepth 20000 in
theorem cv_2 : gCeeV gInfT gCl gU 2 yX0_readLine 0 2 0 := ⟨cX0_readLine, 4, none, TX0, 7, rfl, rfl, winstanceMethod_yX0_readLine, ws_yX0_readLine, wi_CommaState_Book, wc_yX0_readLine, by decide +kernel, by decide⟩
set_option maxRecDepth 20000 in
theorem cv_3 : gCeeV gInfT gCl gU 3 yX0_holds 0 1 0 := ⟨cX0_holds, 2, (some .boolean), TX0, 7, rfl, rfl, winstanceMethod_yX0_holds, ws_yX0_holds, wi_CommaState_Book, wc_yX0_holds, by decide +kernel, by decide⟩
set_option maxRecDepth 20000 in
theorem cv_4 : gCeeV gInfT gCl gU 4 yX0_fits 0 3 0 := ⟨cX0_fits, 5, (some .boolean), TX0, 7, rfl, rfl, winstanceMethod_yX0_fits, ws_yX0_fits, wi_CommaState_Book, wc_yX0_fits, by decide +kernel, by decide⟩
set_option maxRecDepth 20000 in
theorem cv_5 : gCeeV gInfT gCl gU 5 yX0_sideThen 0 3 0 := ⟨cX0_sideThen, 4, (some .int), TX0, 7, rfl, rfl, winstanceMethod_yX0_sideThen, ws_yX0_sideThen, wi_CommaState_Book, wc_yX0_sideThen, by decide +kernel, by decide⟩
set_option maxRecDepth 20000 in
theorem cv_6 : gCeeV gInfT gCl gU 6 yX0_measure 0 2 0 := ⟨cX0_measure, 5, none, TX0, 7, rfl, rfl, winstanceMethod_yX0_measure, ws_yX0_measure, wi_CommaState_Book, wc_yX0_measure, by decide +kernel, by decide⟩
set_option maxRecDepth 20000 in
theorem cv_7 : gCeeV gInfT gCl gU 7 yX0_worst 0 1 0 := ⟨cX0_worst, 3, (some .int), TX0, 7, rfl, rfl, winstanceMethod_yX0_worst, ws_yX0_worst, wi_CommaState_Book, wc_yX0_worst, by decide +kernel, by decide⟩
set_option maxRecDepth 20000 in
theorem cv_8 : gCeeV gInfT gCl gU 8 yX0_nextTown 0 1 0 := ⟨cX0_nextTown, 4, (some .int), TX0, 7, rfl, rfl, winstanceMethod_yX0_nextTown, ws_yX0_nextTown, wi_CommaState_Book, wc_yX0_nextTown, by decide +kernel, by decide⟩
set_option maxRecDepth 20000 in
theorem cv_9 : gCeeV gInfT gCl gU 9 yX1_read 1 2 0 := ⟨cX1_read, 4, none, TX1, 8, rfl, rfl, winstanceMethod_yX1_read, ws_yX1_read, wi_CommaState_Deeds, wc_yX1_read, by decide +kernel, by decide⟩
set_option maxRecDepth 20000 in
theorem cv_10 : gCeeV gInfT gCl gU 10 yX1_readStep 1 3 0 := ⟨cX1_readStep, 6, none, TX1, 8, rfl, rfl, winstanceMethod_yX1_readStep, ws_yX1_readStep, wi_CommaState_Deeds, wc_yX1_readStep, by decide +kernel, by decide⟩
set_option maxRecDepth 20000 in
theorem cv_11 : gCeeV gInfT gCl gU 11 yX1_readHeld 1 3 0 := ⟨cX1_readHeld, 5, none, TX1, 8, rfl, rfl, winstanceMethod_yX1_readHeld, ws_yX1_readHeld, wi_CommaState_Deeds, wc_yX1_readHeld, by decide +kernel, by decide⟩
set_option maxRecDepth 20000 in
theorem cv_12 : gCeeV gInfT gCl gU 12 yX1_forget 1 0 0 := ⟨cX1_forget, 1, none, TX1, 8, rfl, rfl, winstanceMethod_yX1_forget, ws_yX1_forget, wi_CommaState_Deeds, wc_yX1_forget, by decide +kernel, by decide⟩
set_option maxRecDepth 20000 in
theorem cv_13 : gCeeV gInfT gCl gU 13 yX1_enact 1 6 0 := ⟨cX1_enact, 10, none, TX1, 8, rfl, rfl, winstanceMethod_yX1_enact, ws_yX1_enact, wi_CommaState_Deeds, wc_yX1_enact, by decide +kernel, by decide⟩
set_option maxRecDepth 20000 in
theorem cv_14 : gCeeV gInfT gCl gU 14 yX1_enactStep 1 4 0 := ⟨cX1_enactStep, 5, (some .boolean), TX1, 8, rfl, rfl, winstanceMethod_yX1_enactStep, ws_yX1_enactStep, wi_CommaState_Deeds, wc_yX1_enactStep, by decide +kernel, by decide⟩
set_option maxRecDepth 20000 in
theorem cv_15 : gCeeV gInfT gCl gU 15 yX2_holdVotes 2 4 0 := ⟨cX2_holdVotes, 6, none, TX2, 4, rfl, rfl, winstanceMethod_yX2_holdVotes, ws_yX2_holdVotes, wi_CommaState_Fate, wc_yX2_holdVotes, by decide +kernel, by decide⟩
set_option maxRecDepth 20000 in
theorem cv_16 : gCeeV gInfT gCl gU 16 yX2_votesTill 2 4 0 := ⟨cX2_votesTill, 6, (some .int), TX2, 4, rfl, rfl, winstanceMethod_yX2_votesTill, ws_yX2_votesTill, wi_CommaState_Fate, wc_yX2_votesTill, by decide +kernel, by decide⟩
set_option maxRecDepth 20000 in
theorem cv_17 : gCeeV gInfT gCl gU 17 yX2_draw 2 1 0 := ⟨cX2_draw, 3, (some .int), TX2, 4, rfl, rfl, winstanceMethod_yX2_draw, ws_yX2_draw, wi_CommaState_Fate, wc_yX2_draw, by decide +kernel, by decide⟩
set_option maxRecDepth 20000 in
theorem cv_18 : gCeeV gInfT gCl gU 18 yX2_serveTerm 2 6 0 := ⟨cX2_serveTerm, 9, none, TX2, 4, rfl, rfl, winstanceMethod_yX2_serveTerm, ws_yX2_serveTerm, wi_CommaState_Fate, wc_yX2_serveTerm, by decide +kernel, by decide⟩
set_option maxRecDepth 20000 in
theorem cv_19 : gCeeV gInfT gCl gU 19 yX2_liveDay 2 2 0 := ⟨cX2_liveDay, 5, none, TX2, 4, rfl, rfl, winstanceMethod_yX2_liveDay, ws_yX2_liveDay, wi_CommaState_Fate, wc_yX2_liveDay, by decide +kernel, by decide⟩
set_option maxRecDepth 20000 in
theorem cv_20 : gCeeV gInfT gCl gU 20 yX3_read 3 2 0 := ⟨cX3_read, 4, none, TX3, 6, rfl, rfl, winstanceMethod_yX3_read, ws_yX3_read, wi_CommaState_Land, wc_yX3_read, by decide +kernel, by decide⟩
set_option maxRecDepth 20000 in
theorem cv_21 : gCeeV gInfT gCl gU 21 yX3_readClause 3 3 0 := ⟨cX3_readClause, 7, none, TX3, 6, rfl, rfl, winstanceMethod_yX3_readClause, ws_yX3_readClause, wi_CommaState_Land, wc_yX3_readClause, by decide +kernel, by decide⟩
set_option maxRecDepth 20000 in
theorem cv_22 : gCeeV gInfT gCl gU 22 yX3_readTown 3 2 0 := ⟨cX3_readTown, 6, none, TX3, 6, rfl, rfl, winstanceMethod_yX3_readTown, ws_yX3_readTown, wi_CommaState_Land, wc_yX3_readTown, by decide +kernel, by decide⟩
set_option maxRecDepth 20000 in
theorem cv_23 : gCeeV gInfT gCl gU 23 yX3_readRoad 3 1 0 := ⟨cX3_readRoad, 4, none, TX3, 6, rfl, rfl, winstanceMethod_yX3_readRoad, ws_yX3_readRoad, wi_CommaState_Land, wc_yX3_readRoad, by decide +kernel, by decide⟩
set_option maxRecDepth 20000 in
theorem cv_24 : gCeeV gInfT gCl gU 24 yX3_allSeats 3 0 0 := ⟨cX3_allSeats, 1, (some .int), TX3, 6, rfl, rfl, winstanceMethod_yX3_allSeats, ws_yX3_allSeats, wi_CommaState_Land, wc_yX3_allSeats, by decide +kernel, by decide⟩
set_option maxRecDepth 20000 in
theorem cv_25 : gCeeV gInfT gCl gU 25 yX3_seatsIn 3 1 0 := ⟨cX3_seatsIn, 4, (some .int), TX3, 6, rfl, rfl, winstanceMethod_yX3_seatsIn, ws_yX3_seatsIn, wi_CommaState_Land, wc_yX3_seatsIn, by decide +kernel, by decide⟩
set_option maxRecDepth 20000 in
theorem cv_26 : gCeeV gInfT gCl gU 26 yX3_everyTown 3 0 0 := ⟨cX3_everyTown, 1, (some .int), TX3, 6, rfl, rfl, winstanceMethod_yX3_everyTown, ws_yX3_everyTown, wi_CommaState_Land, wc_yX3_everyTown, by decide +kernel, by decide⟩
set_option maxRecDepth 20000 in
theorem cv_27 : gCeeV gInfT gCl gU 27 yX3_knows 3 1 0 := ⟨cX3_knows, 2, (some .boolean), TX3, 6, rfl, rfl, winstanceMethod_yX3_knows, ws_yX3_knows, wi_CommaState_Land, wc_yX3_knows, by decide +kernel, by decide⟩
set_option maxRecDepth 20000 in
theorem cv_28 : gCeeV gInfT gCl gU 28 yX3_reached 3 3 0 := ⟨cX3_reached, 9, (some .int), TX3, 6, rfl, rfl, winstanceMethod_yX3_reached, ws_yX3_reached, wi_CommaState_Land, wc_yX3_reached, by decide +kernel, by decide⟩
set_option maxRecDepth 20000 in
theorem cv_29 : gCeeV gInfT gCl gU 29 yX3_pieces 3 1 0 := ⟨cX3_pieces, 5, (some .int), TX3, 6, rfl, rfl, winstanceMethod_yX3_pieces, ws_yX3_pieces, wi_CommaState_Land, wc_yX3_pieces, by decide +kernel, by decide⟩
set_option maxRecDepth 20000 in
theorem cv_30 : gCeeV gInfT gCl gU 30 yX3_cuts 3 0 0 := ⟨cX3_cuts, 4, (some .int), TX3, 6, rfl, rfl, winstanceMethod_yX3_cuts, ws_yX3_cuts, wi_CommaState_Land, wc_yX3_cuts, by decide +kernel, by decide⟩
set_option maxRecDepth 20000 in
theorem cv_31 : gCeeV gInfT gCl gU 31 yX3_fewestTogether 3 1 0 := ⟨cX3_fewestTogether, 7, (some .int), TX3, 6, rfl, rfl, winstanceMethod_yX3_fewestTogether, ws_yX3_fewestTogether, wi_CommaState_Land, wc_yX3_fewestTogether, by decide +kernel, by decide⟩
set_option maxRecDepth 20000 in
theorem cv_32 : gCeeV gInfT gCl gU 32 yX4_setPlain 4 0 0 := ⟨cX4_setPlain, 1, none, TX4, 4, rfl, rfl, winstanceMethod_yX4_setPlain, ws_yX4_setPlain, wi_CommaState_Law, wc_yX4_setPlain, by decide +kernel, by decide⟩
set_option maxRecDepth 20000 in
theorem cv_33 : gCeeV gInfT gCl gU 33 yX4_emit 4 1 0 := ⟨cX4_emit, 2, none, TX4, 4, rfl, rfl, winstanceMethod_yX4_emit, ws_yX4_emit, wi_CommaState_Law, wc_yX4_emit, by decide +kernel, by decide⟩
set_option maxRecDepth 20000 in
theorem cv_34 : gCeeV gInfT gCl gU 34 yX4_read 4 1 0 := ⟨cX4_read, 2, none, TX4, 4, rfl, rfl, winstanceMethod_yX4_read, ws_yX4_read, wi_CommaState_Law, wc_yX4_read, by decide +kernel, by decide⟩
set_option maxRecDepth 20000 in
theorem cv_35 : gCeeV gInfT gCl gU 35 yX4_readSum 4 2 0 := ⟨cX4_readSum, 5, none, TX4, 4, rfl, rfl, winstanceMethod_yX4_readSum, ws_yX4_readSum, wi_CommaState_Law, wc_yX4_readSum, by decide +kernel, by decide⟩
set_option maxRecDepth 20000 in
theorem cv_36 : gCeeV gInfT gCl gU 36 yX4_readProduct 4 2 0 := ⟨cX4_readProduct, 5, none, TX4, 4, rfl, rfl, winstanceMethod_yX4_readProduct, ws_yX4_readProduct, wi_CommaState_Law, wc_yX4_readProduct, by decide +kernel, by decide⟩
set_option maxRecDepth 20000 in
theorem cv_37 : gCeeV gInfT gCl gU 37 yX4_readUnit 4 2 0 := ⟨cX4_readUnit, 5, none, TX4, 4, rfl, rfl, winstanceMethod_yX4_readUnit, ws_yX4_readUnit, wi_CommaState_Law, wc_yX4_readUnit, by decide +kernel, by decide⟩
set_option maxRecDepth 20000 in
theorem cv_38 : gCeeV gInfT gCl gU 38 yX4_tellTown 4 6 0 := ⟨cX4_tellTown, 7, none, TX4, 4, rfl, rfl, winstanceMethod_yX4_tellTown, ws_yX4_tellTown, wi_CommaState_Law, wc_yX4_tellTown, by decide +kernel, by decide⟩
set_option maxRecDepth 20000 in
theorem cv_39 : gCeeV gInfT gCl gU 39 yX4_tellAll 4 4 0 := ⟨cX4_tellAll, 5, none, TX4, 4, rfl, rfl, winstanceMethod_yX4_tellAll, ws_yX4_tellAll, wi_CommaState_Law, wc_yX4_tellAll, by decide +kernel, by decide⟩
set_option maxRecDepth 20000 in
theorem cv_40 : gCeeV gInfT gCl gU 40 yX4_outcome 4 0 0 := ⟨cX4_outcome, 5, (some .int), TX4, 4, rfl, rfl, winstanceMethod_yX4_outcome, ws_yX4_outcome, wi_CommaState_Law, wc_yX4_outcome, by decide +kernel, by decide⟩
set_option maxRecDepth 20000 in
theorem cs_41 : gCeeS gInfT gU 41 yX4_join 3 0 := ⟨cX4_join, 3, (some .int), rfl, wstatic_yX4_join, wi_CommaState_Law, wc_yX4_join, by decide +kernel, by decide⟩
set_option maxRecDepth 20000 in
theorem cv_42 : gCeeV gInfT gCl gU 42 yX5_clear 5 0 0 := ⟨cX5_clear, 1, none, TX5, 4, rfl, rfl, winstanceMethod_yX5_clear, ws_yX5_clear, wi_CommaState_Past, wc_yX5_clear, by decide +kernel, by decide⟩
set_option maxRecDepth 20000 in
theorem cv_43 : gCeeV gInfT gCl gU 43 yX5_keepWork 5 1 0 := ⟨cX5_keepWork, 2, none, TX5, 4, rfl, rfl, winstanceMethod_yX5_keepWork, ws_yX5_keepWork, wi_CommaState_Past, wc_yX5_keepWork, by decide +kernel, by decide⟩
set_option maxRecDepth 20000 in
theorem cv_44 : gCeeV gInfT gCl gU 44 yX5_takeWork 5 1 0 := ⟨cX5_takeWork, 2, none, TX5, 4, rfl, rfl, winstanceMethod_yX5_takeWork, ws_yX5_takeWork, wi_CommaState_Past, wc_yX5_takeWork, by decide +kernel, by decide⟩
set_option maxRecDepth 20000 in
theorem cv_45 : gCeeV gInfT gCl gU 45 yX5_keepImage 5 1 0 := ⟨cX5_keepImage, 3, none, TX5, 4, rfl, rfl, winstanceMethod_yX5_keepImage, ws_yX5_keepImage, wi_CommaState_Past, wc_yX5_keepImage, by decide +kernel, by decide⟩
set_option maxRecDepth 20000 in
theorem cv_46 : gCeeV gInfT gCl gU 46 yX5_takeImage 5 1 0 := ⟨cX5_takeImage, 3, none, TX5, 4, rfl, rfl, winstanceMethod_yX5_takeImage, ws_yX5_takeImage, wi_CommaState_Past, wc_yX5_takeImage, by decide +kernel, by decide⟩
set_option maxRecDepth 20000 in
theorem cv_47 : gCeeV gInfT gCl gU 47 yX6_nearestToHalf 6 2 0 := ⟨cX6_nearestToHalf, 5, (some .int), TX6, 6, rfl, rfl, winstanceMethod_yX6_nearestToHalf, ws_yX6_nearestToHalf, wi_CommaState_Polls, wc_yX6_nearestToHalf, by decide +kernel, by decide⟩
set_option maxRecDepth 20000 in
theorem cv_48 : gCeeV gInfT gCl gU 48 yX6_farthestFromHalf 6 2 0 := ⟨cX6_farthestFromHalf, 5, (some .int), TX6, 6, rfl, rfl, winstanceMethod_yX6_farthestFromHalf, ws_yX6_farthestFromHalf, wi_CommaState_Polls, wc_yX6_farthestFromHalf, by decide +kernel, by decide⟩
set_option maxRecDepth 20000 in
theorem cv_49 : gCeeV gInfT gCl gU 49 yX6_fewestBySeat 6 2 0 := ⟨cX6_fewestBySeat, 5, (some .int), TX6, 6, rfl, rfl, winstanceMethod_yX6_fewestBySeat, ws_yX6_fewestBySeat, wi_CommaState_Polls, wc_yX6_fewestBySeat, by decide +kernel, by decide⟩
set_option maxRecDepth 20000 in
theorem cv_50 : gCeeV gInfT gCl gU 50 yX6_votersBySeat 6 3 0 := ⟨cX6_votersBySeat, 5, (some .int), TX6, 6, rfl, rfl, winstanceMethod_yX6_votersBySeat, ws_yX6_votersBySeat, wi_CommaState_Polls, wc_yX6_votersBySeat, by decide +kernel, by decide⟩
set_option maxRecDepth 20000 in
theorem cv_51 : gCeeV gInfT gCl gU 51 yX6_cheapestTurn 6 3 0 := ⟨cX6_cheapestTurn, 11, (some .int), TX6, 6, rfl, rfl, winstanceMethod_yX6_cheapestTurn, ws_yX6_cheapestTurn, wi_CommaState_Polls, wc_yX6_cheapestTurn, by decide +kernel, by decide⟩
set_option maxRecDepth 20000 in
theorem cv_52 : gCeeV gInfT gCl gU 52 yX6_turnCost 6 4 0 := ⟨cX6_turnCost, 9, (some .int), TX6, 6, rfl, rfl, winstanceMethod_yX6_turnCost, ws_yX6_turnCost, wi_CommaState_Polls, wc_yX6_turnCost, by decide +kernel, by decide⟩
set_option maxRecDepth 20000 in
theorem cv_53 : gCeeV gInfT gCl gU 53 yX6_swingSets 6 2 0 := ⟨cX6_swingSets, 8, (some .int), TX6, 6, rfl, rfl, winstanceMethod_yX6_swingSets, ws_yX6_swingSets, wi_CommaState_Polls, wc_yX6_swingSets, by decide +kernel, by decide⟩
set_option maxRecDepth 20000 in
theorem cv_54 : gCeeV gInfT gCl gU 54 yX6_giveSeats 6 3 0 := ⟨cX6_giveSeats, 9, none, TX6, 6, rfl, rfl, winstanceMethod_yX6_giveSeats, ws_yX6_giveSeats, wi_CommaState_Polls, wc_yX6_giveSeats, by decide +kernel, by decide⟩
set_option maxRecDepth 20000 in
theorem cv_55 : gCeeV gInfT gCl gU 55 yX6_hearBoth 6 3 0 := ⟨cX6_hearBoth, 6, none, TX6, 6, rfl, rfl, winstanceMethod_yX6_hearBoth, ws_yX6_hearBoth, wi_CommaState_Polls, wc_yX6_hearBoth, by decide +kernel, by decide⟩
set_option maxRecDepth 20000 in
theorem cv_56 : gCeeV gInfT gCl gU 56 yX6_noteRest 6 2 0 := ⟨cX6_noteRest, 3, none, TX6, 6, rfl, rfl, winstanceMethod_yX6_noteRest, ws_yX6_noteRest, wi_CommaState_Polls, wc_yX6_noteRest, by decide +kernel, by decide⟩
set_option maxRecDepth 20000 in
theorem cv_57 : gCeeV gInfT gCl gU 57 yX6_paid 6 6 0 := ⟨cX6_paid, 11, (some .int), TX6, 6, rfl, rfl, winstanceMethod_yX6_paid, ws_yX6_paid, wi_CommaState_Polls, wc_yX6_paid, by decide +kernel, by decide⟩
set_option maxRecDepth 20000 in
theorem cv_58 : gCeeV gInfT gCl gU 58 yX6_isRest 6 3 0 := ⟨cX6_isRest, 7, (some .boolean), TX6, 6, rfl, rfl, winstanceMethod_yX6_isRest, ws_yX6_isRest, wi_CommaState_Polls, wc_yX6_isRest, by decide +kernel, by decide⟩
set_option maxRecDepth 20000 in
theorem cv_59 : gCeeV gInfT gCl gU 59 yX6_breadBound 6 4 0 := ⟨cX6_breadBound, 7, (some .int), TX6, 6, rfl, rfl, winstanceMethod_yX6_breadBound, ws_yX6_breadBound, wi_CommaState_Polls, wc_yX6_breadBound, by decide +kernel, by decide⟩
set_option maxRecDepth 20000 in
theorem cv_60 : gCeeV gInfT gCl gU 60 yX6_breadGiven 6 4 0 := ⟨cX6_breadGiven, 7, (some .int), TX6, 6, rfl, rfl, winstanceMethod_yX6_breadGiven, ws_yX6_breadGiven, wi_CommaState_Polls, wc_yX6_breadGiven, by decide +kernel, by decide⟩
set_option maxRecDepth 20000 in
theorem cs_61 : gCeeS gInfT gU 61 yX6_choose 2 0 := ⟨cX6_choose, 5, (some .long), rfl, wstatic_yX6_choose, wi_CommaState_Polls, wc_yX6_choose, by decide +kernel, by decide⟩
set_option maxRecDepth 20000 in
theorem cs_62 : gCeeS gInfT gU 62 yX6_power 2 0 := ⟨cX6_power, 6, (some .long), rfl, wstatic_yX6_power, wi_CommaState_Polls, wc_yX6_power, by decide +kernel, by decide⟩
set_option maxRecDepth 20000 in
theorem cs_63 : gCeeS gInfT gU 63 yX6_waysForMost 2 0 := ⟨cX6_waysForMost, 5, (some .long), rfl, wstatic_yX6_waysForMost, wi_CommaState_Polls, wc_yX6_waysForMost, by decide +kernel, by decide⟩
set_option maxRecDepth 20000 in
theorem cs_64 : gCeeS gInfT gU 64 yX6_commonDivisor 2 0 := ⟨cX6_commonDivisor, 11, (some .long), rfl, wstatic_yX6_commonDivisor, wi_CommaState_Polls, wc_yX6_commonDivisor, by decide +kernel, by decide⟩
set_option maxRecDepth 20000 in
theorem cv_65 : gCeeV gInfT gCl gU 65 yX7_put 7 1 0 := ⟨cX7_put, 3, none, TX7, 9, rfl, rfl, winstanceMethod_yX7_put, ws_yX7_put, wi_CommaState_Tape, wc_yX7_put, by decide +kernel, by decide⟩
set_option maxRecDepth 20000 in
theorem cv_66 : gCeeV gInfT gCl gU 66 yX7_drop 7 0 0 := ⟨cX7_drop, 1, none, TX7, 9, rfl, rfl, winstanceMethod_yX7_drop, ws_yX7_drop, wi_CommaState_Tape, wc_yX7_drop, by decide +kernel, by decide⟩
set_option maxRecDepth 20000 in
theorem cv_67 : gCeeV gInfT gCl gU 67 yX7_open 7 1 0 := ⟨cX7_open, 2, none, TX7, 9, rfl, rfl, winstanceMethod_yX7_open, ws_yX7_open, wi_CommaState_Tape, wc_yX7_open, by decide +kernel, by decide⟩
set_option maxRecDepth 20000 in
theorem cv_68 : gCeeV gInfT gCl gU 68 yX7_sound 7 0 0 := ⟨cX7_sound, 1, (some .boolean), TX7, 9, rfl, rfl, winstanceMethod_yX7_sound, ws_yX7_sound, wi_CommaState_Tape, wc_yX7_sound, by decide +kernel, by decide⟩
set_option maxRecDepth 20000 in
theorem cv_69 : gCeeV gInfT gCl gU 69 yX7_answer 7 0 0 := ⟨cX7_answer, 1, (some .int), TX7, 9, rfl, rfl, winstanceMethod_yX7_answer, ws_yX7_answer, wi_CommaState_Tape, wc_yX7_answer, by decide +kernel, by decide⟩
set_option maxRecDepth 20000 in
theorem cv_70 : gCeeV gInfT gCl gU 70 yX7_fail 7 1 0 := ⟨cX7_fail, 2, none, TX7, 9, rfl, rfl, winstanceMethod_yX7_fail, ws_yX7_fail, wi_CommaState_Tape, wc_yX7_fail, by decide +kernel, by decide⟩
set_option maxRecDepth 20000 in
theorem cv_71 : gCeeV gInfT gCl gU 71 yX7_advance 7 0 0 := ⟨cX7_advance, 1, none, TX7, 9, rfl, rfl, winstanceMethod_yX7_advance, ws_yX7_advance, wi_CommaState_Tape, wc_yX7_advance, by decide +kernel, by decide⟩
set_option maxRecDepth 20000 in
theorem cv_72 : gCeeV gInfT gCl gU 72 yX7_atSign 7 1 0 := ⟨cX7_atSign, 2, (some .boolean), TX7, 9, rfl, rfl, winstanceMethod_yX7_atSign, ws_yX7_atSign, wi_CommaState_Tape, wc_yX7_atSign, by decide +kernel, by decide⟩
set_option maxRecDepth 20000 in
theorem cv_73 : gCeeV gInfT gCl gU 73 yX7_sign 7 1 0 := ⟨cX7_sign, 2, none, TX7, 9, rfl, rfl, winstanceMethod_yX7_sign, ws_yX7_sign, wi_CommaState_Tape, wc_yX7_sign, by decide +kernel, by decide⟩
set_option maxRecDepth 20000 in
theorem cv_74 : gCeeV gInfT gCl gU 74 yX7_numberHere 7 2 0 := ⟨cX7_numberHere, 3, (some .int), TX7, 9, rfl, rfl, winstanceMethod_yX7_numberHere, ws_yX7_numberHere, wi_CommaState_Tape, wc_yX7_numberHere, by decide +kernel, by decide⟩
set_option maxRecDepth 20000 in
theorem cv_75 : gCeeV gInfT gCl gU 75 yX7_number 7 2 0 := ⟨cX7_number, 4, (some .int), TX7, 9, rfl, rfl, winstanceMethod_yX7_number, ws_yX7_number, wi_CommaState_Tape, wc_yX7_number, by decide +kernel, by decide⟩
set_option maxRecDepth 20000 in
theorem cv_76 : gCeeV gInfT gCl gU 76 yX7_wordHere 7 1 0 := ⟨cX7_wordHere, 7, (some .int), TX7, 9, rfl, rfl, winstanceMethod_yX7_wordHere, ws_yX7_wordHere, wi_CommaState_Tape, wc_yX7_wordHere, by decide +kernel, by decide⟩
set_option maxRecDepth 20000 in
theorem cv_77 : gCeeV gInfT gCl gU 77 yX8_clear 8 0 0 := ⟨cX8_clear, 1, none, TX8, 8, rfl, rfl, winstanceMethod_yX8_clear, ws_yX8_clear, wi_CommaState_World, wc_yX8_clear, by decide +kernel, by decide⟩
set_option maxRecDepth 20000 in
theorem cv_78 : gCeeV gInfT gCl gU 78 yX8_copy 8 1 0 := ⟨cX8_copy, 3, none, TX8, 8, rfl, rfl, winstanceMethod_yX8_copy, ws_yX8_copy, wi_CommaState_World, wc_yX8_copy, by decide +kernel, by decide⟩
set_option maxRecDepth 20000 in
theorem cv_79 : gCeeV gInfT gCl gU 79 yX8_save 8 2 0 := ⟨cX8_save, 4, none, TX8, 8, rfl, rfl, winstanceMethod_yX8_save, ws_yX8_save, wi_CommaState_World, wc_yX8_save, by decide +kernel, by decide⟩
set_option maxRecDepth 20000 in
theorem cv_80 : gCeeV gInfT gCl gU 80 yX8_load 8 2 0 := ⟨cX8_load, 4, none, TX8, 8, rfl, rfl, winstanceMethod_yX8_load, ws_yX8_load, wi_CommaState_World, wc_yX8_load, by decide +kernel, by decide⟩
set_option maxRecDepth 20000 in
theorem cs_81 : gCeeS gInfT gU 81 yX8_sideBy 2 0 := ⟨cX8_sideBy, 2, (some .int), rfl, wstatic_yX8_sideBy, wi_CommaState_World, wc_yX8_sideBy, by decide +kernel, by decide⟩
set_option maxRecDepth 20000 in
theorem cv_82 : gCeeV gInfT gCl gU 82 yX8_side 8 1 0 := ⟨cX8_side, 2, (some .int), TX8, 8, rfl, rfl, winstanceMethod_yX8_side, ws_yX8_side, wi_CommaState_World, wc_yX8_side, by decide +kernel, by decide⟩
set_option maxRecDepth 20000 in
theorem cv_83 : gCeeV gInfT gCl gU 83 yX8_shifted 8 2 0 := ⟨cX8_shifted, 3, (some .int), TX8, 8, rfl, rfl, winstanceMethod_yX8_shifted, ws_yX8_shifted, wi_CommaState_World, wc_yX8_shifted, by decide +kernel, by decide⟩
set_option maxRecDepth 20000 in
theorem cv_84 : gCeeV gInfT gCl gU 84 yX8_apart 8 1 0 := ⟨cX8_apart, 2, (some .int), TX8, 8, rfl, rfl, winstanceMethod_yX8_apart, ws_yX8_apart, wi_CommaState_World, wc_yX8_apart, by decide +kernel, by decide⟩
set_option maxRecDepth 20000 in
theorem cv_85 : gCeeV gInfT gCl gU 85 yX8_parted 8 1 0 := ⟨cX8_parted, 2, (some .int), TX8, 8, rfl, rfl, winstanceMethod_yX8_parted, ws_yX8_parted, wi_CommaState_World, wc_yX8_parted, by decide +kernel, by decide⟩
set_option maxRecDepth 20000 in
theorem cv_86 : gCeeV gInfT gCl gU 86 yX8_sideBits 8 2 0 := ⟨cX8_sideBits, 5, (some .int), TX8, 8, rfl, rfl, winstanceMethod_yX8_sideBits, ws_yX8_sideBits, wi_CommaState_World, wc_yX8_sideBits, by decide +kernel, by decide⟩
set_option maxRecDepth 20000 in
theorem cv_87 : gCeeV gInfT gCl gU 87 yX8_seatsOf 8 2 0 := ⟨cX8_seatsOf, 3, (some .int), TX8, 8, rfl, rfl, winstanceMethod_yX8_seatsOf, ws_yX8_seatsOf, wi_CommaState_World, wc_yX8_seatsOf, by decide +kernel, by decide⟩
set_option maxRecDepth 20000 in
theorem cv_88 : gCeeV gInfT gCl gU 88 yX8_allVoters 8 1 0 := ⟨cX8_allVoters, 4, (some .int), TX8, 8, rfl, rfl, winstanceMethod_yX8_allVoters, ws_yX8_allVoters, wi_CommaState_World, wc_yX8_allVoters, by decide +kernel, by decide⟩
set_option maxRecDepth 20000 in
theorem cv_89 : gCeeV gInfT gCl gU 89 yX8_allBreathe 8 1 0 := ⟨cX8_allBreathe, 4, (some .int), TX8, 8, rfl, rfl, winstanceMethod_yX8_allBreathe, ws_yX8_allBreathe, wi_CommaState_World, wc_yX8_allBreathe, by decide +kernel, by decide⟩
set_option maxRecDepth 20000 in
theorem cv_90 : gCeeV gInfT gCl gU 90 yX8_sway 8 3 0 := ⟨cX8_sway, 4, (some .int), TX8, 8, rfl, rfl, winstanceMethod_yX8_sway, ws_yX8_sway, wi_CommaState_World, wc_yX8_sway, by decide +kernel, by decide⟩
set_option maxRecDepth 20000 in
theorem cv_91 : gCeeV gInfT gCl gU 91 yX8_swayBy 8 4 0 := ⟨cX8_swayBy, 6, (some .int), TX8, 8, rfl, rfl, winstanceMethod_yX8_swayBy, ws_yX8_swayBy, wi_CommaState_World, wc_yX8_swayBy, by decide +kernel, by decide⟩
set_option maxRecDepth 20000 in
theorem cv_92 : gCeeV gInfT gCl gU 92 yX8_holdVote 8 2 0 := ⟨cX8_holdVote, 5, none, TX8, 8, rfl, rfl, winstanceMethod_yX8_holdVote, ws_yX8_holdVote, wi_CommaState_World, wc_yX8_holdVote, by decide +kernel, by decide⟩
set_option maxRecDepth 20000 in
theorem cv_93 : gCeeV gInfT gCl gU 93 yX8_mostMovable 8 2 0 := ⟨cX8_mostMovable, 5, (some .int), TX8, 8, rfl, rfl, winstanceMethod_yX8_mostMovable, ws_yX8_mostMovable, wi_CommaState_World, wc_yX8_mostMovable, by decide +kernel, by decide⟩
set_option maxRecDepth 20000 in
theorem cv_94 : gCeeV gInfT gCl gU 94 yX8_movable 8 3 0 := ⟨cX8_movable, 4, (some .boolean), TX8, 8, rfl, rfl, winstanceMethod_yX8_movable, ws_yX8_movable, wi_CommaState_World, wc_yX8_movable, by decide +kernel, by decide⟩
set_option maxRecDepth 20000 in
theorem cv_95 : gCeeV gInfT gCl gU 95 yX8_move 8 3 0 := ⟨cX8_move, 4, (some .boolean), TX8, 8, rfl, rfl, winstanceMethod_yX8_move, ws_yX8_move, wi_CommaState_World, wc_yX8_move, by decide +kernel, by decide⟩
set_option maxRecDepth 20000 in
theorem cv_96 : gCeeV gInfT gCl gU 96 yX8_nextYear 8 0 0 := ⟨cX8_nextYear, 1, (some .boolean), TX8, 8, rfl, rfl, winstanceMethod_yX8_nextYear, ws_yX8_nextYear, wi_CommaState_World, wc_yX8_nextYear, by decide +kernel, by decide⟩
set_option maxRecDepth 20000 in
theorem cv_97 : gCeeV gInfT gCl gU 97 yX8_flip 8 0 0 := ⟨cX8_flip, 1, none, TX8, 8, rfl, rfl, winstanceMethod_yX8_flip, ws_yX8_flip, wi_CommaState_World, wc_yX8_flip, by decide +kernel, by decide⟩
set_option maxRecDepth 20000 in
theorem cs_137 : gCeeS gInfT gU 137 yX9_within 3 0 := ⟨cX9_within, 3, (some .boolean), rfl, wstatic_yX9_within, wi_CommaState, wc_yX9_within, by decide +kernel, by decide⟩
set_option maxRecDepth 20000 in
theorem cv_138 : gCeeV gInfT gCl gU 138 yX9_need 9 1 1 := ⟨cX9_need, 2, none, TX9, 16, rfl, rfl, winstanceMethod_yX9_need, ws_yX9_need, wi_CommaState, wc_yX9_need, by decide +kernel, by decide⟩
set_option maxRecDepth 20000 in
theorem cv_139 : gCeeV gInfT gCl gU 139 yX9_needSuch 9 1 1 := ⟨cX9_needSuch, 2, none, TX9, 16, rfl, rfl, winstanceMethod_yX9_needSuch, ws_yX9_needSuch, wi_CommaState, wc_yX9_needSuch, by decide +kernel, by decide⟩
set_option maxRecDepth 20000 in
theorem cv_140 : gCeeV gInfT gCl gU 140 yX9_needTown 9 1 1 := ⟨cX9_needTown, 2, none, TX9, 16, rfl, rfl, winstanceMethod_yX9_needTown, ws_yX9_needTown, wi_CommaState, wc_yX9_needTown, by decide +kernel, by decide⟩
set_option maxRecDepth 20000 in
theorem cv_141 : gCeeV gInfT gCl gU 141 yX9_needText 9 2 1 := ⟨cX9_needText, 3, none, TX9, 16, rfl, rfl, winstanceMethod_yX9_needText, ws_yX9_needText, wi_CommaState, wc_yX9_needText, by decide +kernel, by decide⟩
set_option maxRecDepth 20000 in
theorem cv_143 : gCeeV gInfT gCl gU 143 yX10_may 10 3 0 := ⟨cX10_may, 4, (some .boolean), TX10, 54, rfl, rfl, winstanceMethod_yX10_may, ws_yX10_may, wi_CommaStateModel, wc_yX10_may, by decide +kernel, by decide⟩
set_option maxRecDepth 20000 in
theorem cs_144 : gCeeS gInfT gU 144 yX10_within 3 0 := ⟨cX10_within, 3, (some .boolean), rfl, wstatic_yX10_within, wi_CommaStateModel, wc_yX10_within, by decide +kernel, by decide⟩
set_option maxRecDepth 20000 in
theorem cv_146 : gCeeV gInfT gCl gU 146 yX10_fine 10 0 0 := ⟨cX10_fine, 1, (some .boolean), TX10, 54, rfl, rfl, winstanceMethod_yX10_fine, ws_yX10_fine, wi_CommaStateModel, wc_yX10_fine, by decide +kernel, by decide⟩
set_option maxRecDepth 20000 in
theorem cv_147 : gCeeV gInfT gCl gU 147 yX10_wrong 10 2 0 := ⟨cX10_wrong, 3, none, TX10, 54, rfl, rfl, winstanceMethod_yX10_wrong, ws_yX10_wrong, wi_CommaStateModel, wc_yX10_wrong, by decide +kernel, by decide⟩
set_option maxRecDepth 20000 in
theorem cv_148 : gCeeV gInfT gCl gU 148 yX10_here 10 0 0 := ⟨cX10_here, 1, (some .int), TX10, 54, rfl, rfl, winstanceMethod_yX10_here, ws_yX10_here, wi_CommaStateModel, wc_yX10_here, by decide +kernel, by decide⟩
set_option maxRecDepth 20000 in
theorem cs_149 : gCeeS gInfT gU 149 yX10_isSmall 1 0 := ⟨cX10_isSmall, 1, (some .boolean), rfl, wstatic_yX10_isSmall, wi_CommaStateModel, wc_yX10_isSmall, by decide +kernel, by decide⟩
set_option maxRecDepth 20000 in
theorem cs_150 : gCeeS gInfT gU 150 yX10_isDigit 1 0 := ⟨cX10_isDigit, 1, (some .boolean), rfl, wstatic_yX10_isDigit, wi_CommaStateModel, wc_yX10_isDigit, by decide +kernel, by decide⟩
set_option maxRecDepth 20000 in
theorem cv_151 : gCeeV gInfT gCl gU 151 yX10_word 10 0 0 := ⟨cX10_word, 4, (some .int), TX10, 54, rfl, rfl, winstanceMethod_yX10_word, ws_yX10_word, wi_CommaStateModel, wc_yX10_word, by decide +kernel, by decide⟩
set_option maxRecDepth 20000 in
theorem cs_152 : gCeeS gInfT gU 152 yX10_of 1 0 := ⟨cX10_of, 3, (some .int), rfl, wstatic_yX10_of, wi_CommaStateModel, wc_yX10_of, by decide +kernel, by decide⟩
set_option maxRecDepth 20000 in
theorem cv_153 : gCeeV gInfT gCl gU 153 yX10_pass 10 0 0 := ⟨cX10_pass, 1, none, TX10, 54, rfl, rfl, winstanceMethod_yX10_pass, ws_yX10_pass, wi_CommaStateModel, wc_yX10_pass, by decide +kernel, by decide⟩
set_option maxRecDepth 20000 in
theorem cv_154 : gCeeV gInfT gCl gU 154 yX10_readNumber 10 2 0 := ⟨cX10_readNumber, 6, (some .int), TX10, 54, rfl, rfl, winstanceMethod_yX10_readNumber, ws_yX10_readNumber, wi_CommaStateModel, wc_yX10_readNumber, by decide +kernel, by decide⟩
set_option maxRecDepth 20000 in
theorem cv_155 : gCeeV gInfT gCl gU 155 yX10_sign 10 1 0 := ⟨cX10_sign, 2, none, TX10, 54, rfl, rfl, winstanceMethod_yX10_sign, ws_yX10_sign, wi_CommaStateModel, wc_yX10_sign, by decide +kernel, by decide⟩
set_option maxRecDepth 20000 in
theorem cv_156 : gCeeV gInfT gCl gU 156 yX10_isMore 10 0 0 := ⟨cX10_isMore, 1, (some .boolean), TX10, 54, rfl, rfl, winstanceMethod_yX10_isMore, ws_yX10_isMore, wi_CommaStateModel, wc_yX10_isMore, by decide +kernel, by decide⟩
set_option maxRecDepth 20000 in
theorem cv_157 : gCeeV gInfT gCl gU 157 yX10_begins 10 1 0 := ⟨cX10_begins, 2, none, TX10, 54, rfl, rfl, winstanceMethod_yX10_begins, ws_yX10_begins, wi_CommaStateModel, wc_yX10_begins, by decide +kernel, by decide⟩
set_option maxRecDepth 20000 in
theorem cv_158 : gCeeV gInfT gCl gU 158 yX10_result 10 1 0 := ⟨cX10_result, 2, (some .int), TX10, 54, rfl, rfl, winstanceMethod_yX10_result, ws_yX10_result, wi_CommaStateModel, wc_yX10_result, by decide +kernel, by decide⟩
set_option maxRecDepth 20000 in
theorem cv_160 : gCeeV gInfT gCl gU 160 yX10_copies 10 3 0 := ⟨cX10_copies, 5, none, TX10, 54, rfl, rfl, winstanceMethod_yX10_copies, ws_yX10_copies, wi_CommaStateModel, wc_yX10_copies, by decide +kernel, by decide⟩
set_option maxRecDepth 20000 in
theorem cv_161 : gCeeV gInfT gCl gU 161 yX10_clears 10 0 0 := ⟨cX10_clears, 1, none, TX10, 54, rfl, rfl, winstanceMethod_yX10_clears, ws_yX10_clears, wi_CommaStateModel, wc_yX10_clears, by decide +kernel, by decide⟩
set_option maxRecDepth 20000 in
theorem cv_162 : gCeeV gInfT gCl gU 162 yX10_sets 10 0 0 := ⟨cX10_sets, 2, none, TX10, 54, rfl, rfl, winstanceMethod_yX10_sets, ws_yX10_sets, wi_CommaStateModel, wc_yX10_sets, by decide +kernel, by decide⟩
set_option maxRecDepth 20000 in
theorem cv_163 : gCeeV gInfT gCl gU 163 yX10_readTown 10 0 0 := ⟨cX10_readTown, 1, (some .int), TX10, 54, rfl, rfl, winstanceMethod_yX10_readTown, ws_yX10_readTown, wi_CommaStateModel, wc_yX10_readTown, by decide +kernel, by decide⟩
set_option maxRecDepth 20000 in
theorem cv_164 : gCeeV gInfT gCl gU 164 yX10_readRoad 10 0 0 := ⟨cX10_readRoad, 7, none, TX10, 54, rfl, rfl, winstanceMethod_yX10_readRoad, ws_yX10_readRoad, wi_CommaStateModel, wc_yX10_readRoad, by decide +kernel, by decide⟩
set_option maxRecDepth 20000 in
theorem cs_165 : gCeeS gInfT gU 165 yX10_isRow 1 0 := ⟨cX10_isRow, 1, (some .boolean), rfl, wstatic_yX10_isRow, wi_CommaStateModel, wc_yX10_isRow, by decide +kernel, by decide⟩
set_option maxRecDepth 20000 in
theorem cv_166 : gCeeV gInfT gCl gU 166 yX10_readRow 10 1 0 := ⟨cX10_readRow, 2, none, TX10, 54, rfl, rfl, winstanceMethod_yX10_readRow, ws_yX10_readRow, wi_CommaStateModel, wc_yX10_readRow, by decide +kernel, by decide⟩
set_option maxRecDepth 20000 in
theorem cv_168 : gCeeV gInfT gCl gU 168 yX10_emit 10 2 0 := ⟨cX10_emit, 3, none, TX10, 54, rfl, rfl, winstanceMethod_yX10_emit, ws_yX10_emit, wi_CommaStateModel, wc_yX10_emit, by decide +kernel, by decide⟩
set_option maxRecDepth 20000 in
theorem cv_169 : gCeeV gInfT gCl gU 169 yX10_opensOne 10 1 0 := ⟨cX10_opensOne, 2, none, TX10, 54, rfl, rfl, winstanceMethod_yX10_opensOne, ws_yX10_opensOne, wi_CommaStateModel, wc_yX10_opensOne, by decide +kernel, by decide⟩
set_option maxRecDepth 20000 in
theorem cv_170 : gCeeV gInfT gCl gU 170 yX10_readSum 10 0 0 := ⟨cX10_readSum, 2, none, TX10, 54, rfl, rfl, winstanceMethod_yX10_readSum, ws_yX10_readSum, wi_CommaStateModel, wc_yX10_readSum, by decide +kernel, by decide⟩
set_option maxRecDepth 20000 in
theorem cv_171 : gCeeV gInfT gCl gU 171 yX10_readProduct 10 0 0 := ⟨cX10_readProduct, 2, none, TX10, 54, rfl, rfl, winstanceMethod_yX10_readProduct, ws_yX10_readProduct, wi_CommaStateModel, wc_yX10_readProduct, by decide +kernel, by decide⟩
set_option maxRecDepth 20000 in
theorem cv_172 : gCeeV gInfT gCl gU 172 yX10_readTwo 10 2 0 := ⟨cX10_readTwo, 3, none, TX10, 54, rfl, rfl, winstanceMethod_yX10_readTwo, ws_yX10_readTwo, wi_CommaStateModel, wc_yX10_readTwo, by decide +kernel, by decide⟩
set_option maxRecDepth 20000 in
theorem cv_173 : gCeeV gInfT gCl gU 173 yX10_standsHere 10 1 0 := ⟨cX10_standsHere, 3, (some .boolean), TX10, 54, rfl, rfl, winstanceMethod_yX10_standsHere, ws_yX10_standsHere, wi_CommaStateModel, wc_yX10_standsHere, by decide +kernel, by decide⟩
set_option maxRecDepth 20000 in
theorem cv_174 : gCeeV gInfT gCl gU 174 yX10_factHere 10 0 0 := ⟨cX10_factHere, 2, (some .int), TX10, 54, rfl, rfl, winstanceMethod_yX10_factHere, ws_yX10_factHere, wi_CommaStateModel, wc_yX10_factHere, by decide +kernel, by decide⟩
set_option maxRecDepth 20000 in
theorem cv_175 : gCeeV gInfT gCl gU 175 yX10_readUnit 10 0 0 := ⟨cX10_readUnit, 2, none, TX10, 54, rfl, rfl, winstanceMethod_yX10_readUnit, ws_yX10_readUnit, wi_CommaStateModel, wc_yX10_readUnit, by decide +kernel, by decide⟩
set_option maxRecDepth 20000 in
theorem cv_177 : gCeeV gInfT gCl gU 177 yX10_valueNow 10 0 0 := ⟨cX10_valueNow, 4, (some .int), TX10, 54, rfl, rfl, winstanceMethod_yX10_valueNow, ws_yX10_valueNow, wi_CommaStateModel, wc_yX10_valueNow, by decide +kernel, by decide⟩
set_option maxRecDepth 20000 in
theorem cs_178 : gCeeS gInfT gU 178 yX10_both 3 0 := ⟨cX10_both, 3, (some .int), rfl, wstatic_yX10_both, wi_CommaStateModel, wc_yX10_both, by decide +kernel, by decide⟩
set_option maxRecDepth 20000 in
theorem cv_179 : gCeeV gInfT gCl gU 179 yX10_swayNow 10 0 0 := ⟨cX10_swayNow, 2, (some .int), TX10, 54, rfl, rfl, winstanceMethod_yX10_swayNow, ws_yX10_swayNow, wi_CommaStateModel, wc_yX10_swayNow, by decide +kernel, by decide⟩
set_option maxRecDepth 20000 in
theorem cv_180 : gCeeV gInfT gCl gU 180 yX10_tellsStep 10 4 0 := ⟨cX10_tellsStep, 5, none, TX10, 54, rfl, rfl, winstanceMethod_yX10_tellsStep, ws_yX10_tellsStep, wi_CommaStateModel, wc_yX10_tellsStep, by decide +kernel, by decide⟩
set_option maxRecDepth 20000 in
theorem cv_181 : gCeeV gInfT gCl gU 181 yX10_readStep 10 0 0 := ⟨cX10_readStep, 4, none, TX10, 54, rfl, rfl, winstanceMethod_yX10_readStep, ws_yX10_readStep, wi_CommaStateModel, wc_yX10_readStep, by decide +kernel, by decide⟩
set_option maxRecDepth 20000 in
theorem cv_183 : gCeeV gInfT gCl gU 183 yX10_goesSteps 10 2 0 := ⟨cX10_goesSteps, 6, none, TX10, 54, rfl, rfl, winstanceMethod_yX10_goesSteps, ws_yX10_goesSteps, wi_CommaStateModel, wc_yX10_goesSteps, by decide +kernel, by decide⟩
set_option maxRecDepth 20000 in
theorem cv_184 : gCeeV gInfT gCl gU 184 yX10_take 10 0 0 := ⟨cX10_take, 1, none, TX10, 54, rfl, rfl, winstanceMethod_yX10_take, ws_yX10_take, wi_CommaStateModel, wc_yX10_take, by decide +kernel, by decide⟩
set_option maxRecDepth 20000 in
theorem cs_185 : gCeeS gInfT gU 185 yX10_goesTo 2 0 := ⟨cX10_goesTo, 2, (some .int), rfl, wstatic_yX10_goesTo, wi_CommaStateModel, wc_yX10_goesTo, by decide +kernel, by decide⟩
set_option maxRecDepth 20000 in
theorem cv_186 : gCeeV gInfT gCl gU 186 yX10_partyOf 10 1 0 := ⟨cX10_partyOf, 2, (some .int), TX10, 54, rfl, rfl, winstanceMethod_yX10_partyOf, ws_yX10_partyOf, wi_CommaStateModel, wc_yX10_partyOf, by decide +kernel, by decide⟩
set_option maxRecDepth 20000 in
theorem cv_187 : gCeeV gInfT gCl gU 187 yX10_roadsOf 10 1 0 := ⟨cX10_roadsOf, 4, (some .int), TX10, 54, rfl, rfl, winstanceMethod_yX10_roadsOf, ws_yX10_roadsOf, wi_CommaStateModel, wc_yX10_roadsOf, by decide +kernel, by decide⟩
set_option maxRecDepth 20000 in
theorem cv_188 : gCeeV gInfT gCl gU 188 yX10_nearOf 10 1 0 := ⟨cX10_nearOf, 5, (some .int), TX10, 54, rfl, rfl, winstanceMethod_yX10_nearOf, ws_yX10_nearOf, wi_CommaStateModel, wc_yX10_nearOf, by decide +kernel, by decide⟩
set_option maxRecDepth 20000 in
theorem cv_189 : gCeeV gInfT gCl gU 189 yX10_swayOf 10 10 0 := ⟨cX10_swayOf, 11, (some .int), TX10, 54, rfl, rfl, winstanceMethod_yX10_swayOf, ws_yX10_swayOf, wi_CommaStateModel, wc_yX10_swayOf, by decide +kernel, by decide⟩
set_option maxRecDepth 20000 in
theorem cv_190 : gCeeV gInfT gCl gU 190 yX10_swayBy 10 1 0 := ⟨cX10_swayBy, 2, (some .int), TX10, 54, rfl, rfl, winstanceMethod_yX10_swayBy, ws_yX10_swayBy, wi_CommaStateModel, wc_yX10_swayBy, by decide +kernel, by decide⟩
set_option maxRecDepth 20000 in
theorem cs_191 : gCeeS gInfT gU 191 yX10_held 2 0 := ⟨cX10_held, 2, (some .int), rfl, wstatic_yX10_held, wi_CommaStateModel, wc_yX10_held, by decide +kernel, by decide⟩
set_option maxRecDepth 20000 in
theorem cv_192 : gCeeV gInfT gCl gU 192 yX10_seatsOf 10 1 0 := ⟨cX10_seatsOf, 4, (some .int), TX10, 54, rfl, rfl, winstanceMethod_yX10_seatsOf, ws_yX10_seatsOf, wi_CommaStateModel, wc_yX10_seatsOf, by decide +kernel, by decide⟩
set_option maxRecDepth 20000 in
theorem cv_193 : gCeeV gInfT gCl gU 193 yX10_canMove 10 3 0 := ⟨cX10_canMove, 4, (some .boolean), TX10, 54, rfl, rfl, winstanceMethod_yX10_canMove, ws_yX10_canMove, wi_CommaStateModel, wc_yX10_canMove, by decide +kernel, by decide⟩
set_option maxRecDepth 20000 in
theorem cv_194 : gCeeV gInfT gCl gU 194 yX10_votes 10 0 0 := ⟨cX10_votes, 3, none, TX10, 54, rfl, rfl, winstanceMethod_yX10_votes, ws_yX10_votes, wi_CommaStateModel, wc_yX10_votes, by decide +kernel, by decide⟩
set_option maxRecDepth 20000 in
theorem cv_195 : gCeeV gInfT gCl gU 195 yX10_goes 10 4 0 := ⟨cX10_goes, 5, (some .boolean), TX10, 54, rfl, rfl, winstanceMethod_yX10_goes, ws_yX10_goes, wi_CommaStateModel, wc_yX10_goes, by decide +kernel, by decide⟩
set_option maxRecDepth 20000 in
theorem cv_198 : gCeeV gInfT gCl gU 198 yX10_sumOf 10 1 0 := ⟨cX10_sumOf, 4, (some .int), TX10, 54, rfl, rfl, winstanceMethod_yX10_sumOf, ws_yX10_sumOf, wi_CommaStateModel, wc_yX10_sumOf, by decide +kernel, by decide⟩
set_option maxRecDepth 20000 in
theorem cv_199 : gCeeV gInfT gCl gU 199 yX10_seatsAll 10 0 0 := ⟨cX10_seatsAll, 3, (some .int), TX10, 54, rfl, rfl, winstanceMethod_yX10_seatsAll, ws_yX10_seatsAll, wi_CommaStateModel, wc_yX10_seatsAll, by decide +kernel, by decide⟩
set_option maxRecDepth 20000 in
theorem cv_201 : gCeeV gInfT gCl gU 201 yX10_isTown 10 2 0 := ⟨cX10_isTown, 3, (some .boolean), TX10, 54, rfl, rfl, winstanceMethod_yX10_isTown, ws_yX10_isTown, wi_CommaStateModel, wc_yX10_isTown, by decide +kernel, by decide⟩
set_option maxRecDepth 20000 in
theorem cv_208 : gCeeV gInfT gCl gU 208 yX10_turnsOf 10 2 0 := ⟨cX10_turnsOf, 4, (some .int), TX10, 54, rfl, rfl, winstanceMethod_yX10_turnsOf, ws_yX10_turnsOf, wi_CommaStateModel, wc_yX10_turnsOf, by decide +kernel, by decide⟩
set_option maxRecDepth 20000 in
theorem cv_212 : gCeeV gInfT gCl gU 212 yX10_hangs 10 2 0 := ⟨cX10_hangs, 6, (some .int), TX10, 54, rfl, rfl, winstanceMethod_yX10_hangs, ws_yX10_hangs, wi_CommaStateModel, wc_yX10_hangs, by decide +kernel, by decide⟩
set_option maxRecDepth 20000 in
theorem cs_213 : gCeeS gInfT gU 213 yX10_first 1 0 := ⟨cX10_first, 2, (some .int), rfl, wstatic_yX10_first, wi_CommaStateModel, wc_yX10_first, by decide +kernel, by decide⟩
set_option maxRecDepth 20000 in
theorem cs_214 : gCeeS gInfT gU 214 yX10_ones 1 0 := ⟨cX10_ones, 3, (some .int), rfl, wstatic_yX10_ones, wi_CommaStateModel, wc_yX10_ones, by decide +kernel, by decide⟩
set_option maxRecDepth 20000 in
theorem cv_217 : gCeeV gInfT gCl gU 217 yX10_driftTo 10 2 0 := ⟨cX10_driftTo, 3, (some .int), TX10, 54, rfl, rfl, winstanceMethod_yX10_driftTo, ws_yX10_driftTo, wi_CommaStateModel, wc_yX10_driftTo, by decide +kernel, by decide⟩
set_option maxRecDepth 20000 in
theorem cv_218 : gCeeV gInfT gCl gU 218 yX10_isDrift 10 1 0 := ⟨cX10_isDrift, 3, (some .boolean), TX10, 54, rfl, rfl, winstanceMethod_yX10_isDrift, ws_yX10_isDrift, wi_CommaStateModel, wc_yX10_isDrift, by decide +kernel, by decide⟩
set_option maxRecDepth 20000 in
theorem cs_222 : gCeeS gInfT gU 222 yX10_isPart 3 0 := ⟨cX10_isPart, 3, (some .boolean), rfl, wstatic_yX10_isPart, wi_CommaStateModel, wc_yX10_isPart, by decide +kernel, by decide⟩
set_option maxRecDepth 20000 in
theorem cs_223 : gCeeS gInfT gU 223 yX10_least 3 0 := ⟨cX10_least, 11, (some .long), rfl, wstatic_yX10_least, wi_CommaStateModel, wc_yX10_least, by decide +kernel, by decide⟩
set_option maxRecDepth 20000 in
theorem cv_225 : gCeeV gInfT gCl gU 225 yX10_speaksHas 10 4 0 := ⟨cX10_speaksHas, 9, (some .int), TX10, 54, rfl, rfl, winstanceMethod_yX10_speaksHas, ws_yX10_speaksHas, wi_CommaStateModel, wc_yX10_speaksHas, by decide +kernel, by decide⟩
set_option maxRecDepth 20000 in
theorem cv_226 : gCeeV gInfT gCl gU 226 yX10_isRest 10 3 0 := ⟨cX10_isRest, 5, (some .boolean), TX10, 54, rfl, rfl, winstanceMethod_yX10_isRest, ws_yX10_isRest, wi_CommaStateModel, wc_yX10_isRest, by decide +kernel, by decide⟩
set_option maxRecDepth 20000 in
theorem cv_228 : gCeeV gInfT gCl gU 228 yX10_breadBy 10 2 0 := ⟨cX10_breadBy, 5, (some .int), TX10, 54, rfl, rfl, winstanceMethod_yX10_breadBy, ws_yX10_breadBy, wi_CommaStateModel, wc_yX10_breadBy, by decide +kernel, by decide⟩
set_option maxRecDepth 20000 in
theorem cv_232 : gCeeV gInfT gCl gU 232 yX10_partsBut 10 1 0 := ⟨cX10_partsBut, 7, (some .int), TX10, 54, rfl, rfl, winstanceMethod_yX10_partsBut, ws_yX10_partsBut, wi_CommaStateModel, wc_yX10_partsBut, by decide +kernel, by decide⟩
set_option maxRecDepth 20000 in
theorem cv_239 : gCeeV gInfT gCl gU 239 yX10_draws 10 1 0 := ⟨cX10_draws, 2, (some .int), TX10, 54, rfl, rfl, winstanceMethod_yX10_draws, ws_yX10_draws, wi_CommaStateModel, wc_yX10_draws, by decide +kernel, by decide⟩
set_option maxRecDepth 20000 in
theorem cv_240 : gCeeV gInfT gCl gU 240 yX10_termGoes 10 3 0 := ⟨cX10_termGoes, 7, none, TX10, 54, rfl, rfl, winstanceMethod_yX10_termGoes, ws_yX10_termGoes, wi_CommaStateModel, wc_yX10_termGoes, by decide +kernel, by decide⟩
set_option maxRecDepth 20000 in
theorem cs_241 : gCeeS gInfT gU 241 yX10_isTerm 2 0 := ⟨cX10_isTerm, 2, (some .boolean), rfl, wstatic_yX10_isTerm, wi_CommaStateModel, wc_yX10_isTerm, by decide +kernel, by decide⟩
set_option maxRecDepth 20000 in
theorem cv_244 : gCeeV gInfT gCl gU 244 yX10_keepsRow 10 4 0 := ⟨cX10_keepsRow, 6, (some .int), TX10, 54, rfl, rfl, winstanceMethod_yX10_keepsRow, ws_yX10_keepsRow, wi_CommaStateModel, wc_yX10_keepsRow, by decide +kernel, by decide⟩
set_option maxRecDepth 20000 in
theorem cv_245 : gCeeV gInfT gCl gU 245 yX10_keepsAll 10 2 0 := ⟨cX10_keepsAll, 4, none, TX10, 54, rfl, rfl, winstanceMethod_yX10_keepsAll, ws_yX10_keepsAll, wi_CommaStateModel, wc_yX10_keepsAll, by decide +kernel, by decide⟩
set_option maxRecDepth 20000 in
theorem cs_250 : gCeeS gInfT gU 250 yJ6_bitCount_0f7a4 1 0 := ⟨cJ6_bitCount_0f7a4, 1, (some .int), rfl, wstatic_yJ6_bitCount_0f7a4, wi_java_lang_Integer, wc_yJ6_bitCount_0f7a4, by decide +kernel, by decide⟩
set_option maxRecDepth 20000 in
theorem cx_251 : gCeeX gInfT gU 251 yJ0_length_8abf5 0 := ⟨cJ0_length_8abf5, 1, (some .int), rfl, rfl, winstanceMethod_yJ0_length_8abf5, ws_yJ0_length_8abf5, wi_java_lang_String, wc_yJ0_length_8abf5, by decide +kernel, by decide⟩
set_option maxRecDepth 20000 in
theorem cx_252 : gCeeX gInfT gU 252 yJ0_charAt_5068e 1 := ⟨cJ0_charAt_5068e, 2, (some .char), rfl, rfl, winstanceMethod_yJ0_charAt_5068e, ws_yJ0_charAt_5068e, wi_java_lang_String, wc_yJ0_charAt_5068e, by decide +kernel, by decide⟩
set_option maxRecDepth 20000 in
theorem cx_253 : gCeeX gInfT gU 253 yJ0_coder_7d493 0 := ⟨cJ0_coder_7d493, 1, (some .byte), rfl, rfl, winstanceMethod_yJ0_coder_7d493, ws_yJ0_coder_7d493, wi_java_lang_String, wc_yJ0_coder_7d493, by decide +kernel, by decide⟩
set_option maxRecDepth 20000 in
theorem cx_254 : gCeeX gInfT gU 254 yJ0_isLatin1_aae02 0 := ⟨cJ0_isLatin1_aae02, 1, (some .boolean), rfl, rfl, winstanceMethod_yJ0_isLatin1_aae02, ws_yJ0_isLatin1_aae02, wi_java_lang_String, wc_yJ0_isLatin1_aae02, by decide +kernel, by decide⟩
set_option maxRecDepth 20000 in
theorem cs_255 : gCeeS gInfT gU 255 yJ1_charAt_3b067 2 0 := ⟨cJ1_charAt_3b067, 2, (some .char), rfl, wstatic_yJ1_charAt_3b067, wi_java_lang_StringLatin1, wc_yJ1_charAt_3b067, by decide +kernel, by decide⟩
set_option maxRecDepth 20000 in
theorem cs_256 : gCeeS gInfT gU 256 yJ0_checkIndex_df160 2 0 := ⟨cJ0_checkIndex_df160, 2, none, rfl, wstatic_yJ0_checkIndex_df160, wi_java_lang_String, wc_yJ0_checkIndex_df160, by decide +kernel, by decide⟩
set_option maxRecDepth 20000 in
theorem cs_257 : gCeeS gInfT gU 257 yJ3_checkIndex_8e157 3 0 := ⟨cJ3_checkIndex_8e157, 3, (some .int), rfl, wstatic_yJ3_checkIndex_8e157, wi_jdk_internal_util_Preconditions, wc_yJ3_checkIndex_8e157, by decide +kernel, by decide⟩
/-- the texts: class, place in its pool, text, handle -/
def gStrs : List (String × Nat × String × Nat) := [(RX9, 406, "no such argument", 1000000), (RX9, 413, "no such town or road", 1000001), (RX1, 41, "move school fly vote year again ", 1000002), (RX3, 44, "town road comma ", 1000003), (RX4, 64, "voters breathe seats comma school near votes in town year least most ", 1000004), (RX10, 194, "town", 1000005), (RX10, 200, "road", 1000006), (RX10, 201, "comma", 1000007), (RX10, 254, "breathe", 1000008), (RX10, 260, "voters", 1000009), (RX10, 262, "seats", 1000010), (RX10, 264, "school", 1000011), (RX10, 266, "near", 1000012), (RX10, 268, "votes", 1000013), (RX10, 270, "in", 1000014), (RX10, 272, "year", 1000015), (RX10, 274, "least", 1000016), (RX10, 279, "most", 1000017), (RX10, 294, "fly", 1000018), (RX10, 296, "vote", 1000019), (RX10, 302, "move", 1000020), (RX10, 304, "again", 1000021)]
def gStrOk (EX : gEX) : Prop := ∀ (own : String) (idx : Nat) (tx : String) (h0 : Nat), (own, idx, tx, h0) ∈ gStrs → ∀ (ad : Nat → Nat) (A : Nat → Prop) (s : State), EX ad A s s.heap → vk_R own idx tx (ad h0) s
