theorem tin1 {w : Cond} (h : w ∈ tables_1_1) : w ∈ lw_tbl := List.mem_append_right _ (List.mem_append_left _ h)
theorem tin2 {w : Cond} (h : w ∈ tables_1_2) : w ∈ lw_tbl := List.mem_append_right _ (List.mem_append_right _ (List.mem_append_left _ h))
theorem tin3 {w : Cond} (h : w ∈ tables_1_3) : w ∈ lw_tbl := List.mem_append_right _ (List.mem_append_right _ (List.mem_append_right _ (List.mem_append_left _ h)))
theorem tin4 {w : Cond} (h : w ∈ tables_1_4) : w ∈ lw_tbl := List.mem_append_right _ (List.mem_append_right _ (List.mem_append_right _ (List.mem_append_right _ (List.mem_append_left _ h))))
theorem tin5 {w : Cond} (h : w ∈ tables_1_5) : w ∈ lw_tbl := List.mem_append_right _ (List.mem_append_right _ (List.mem_append_right _ (List.mem_append_right _ (List.mem_append_right _ (List.mem_append_left _ h)))))
theorem tin6 {w : Cond} (h : w ∈ tables_1_6) : w ∈ lw_tbl := List.mem_append_right _ (List.mem_append_right _ (List.mem_append_right _ (List.mem_append_right _ (List.mem_append_right _ (List.mem_append_right _ (List.mem_append_left _ h))))))
theorem tin7 {w : Cond} (h : w ∈ tables_1_7) : w ∈ lw_tbl := List.mem_append_right _ (List.mem_append_right _ (List.mem_append_right _ (List.mem_append_right _ (List.mem_append_right _ (List.mem_append_right _ (List.mem_append_right _ (List.mem_append_left _ h)))))))
theorem tin8 {w : Cond} (h : w ∈ tables_1_8) : w ∈ lw_tbl := List.mem_append_right _ (List.mem_append_right _ (List.mem_append_right _ (List.mem_append_right _ (List.mem_append_right _ (List.mem_append_right _ (List.mem_append_right _ (List.mem_append_right _ (h))))))))
def M_X0_init : Mt := (yX0_init, cX0_init, 3, none)
def M_X0_execute : Mt := (yX0_execute, cX0_execute, 4, some .int)
def M_X0_learn : Mt := (yX0_learn, cX0_learn, 3, none)
def M_X0_isWanted : Mt := (yX0_isWanted, cX0_isWanted, 3, some .boolean)
def M_X0_act : Mt := (yX0_act, cX0_act, 6, some .int)
def M_X1_init : Mt := (yX1_init, cX1_init, 5, none)
def M_X1_walk : Mt := (yX1_walk, cX1_walk, 4, some .int)
def M_X1_letSneeze : Mt := (yX1_letSneeze, cX1_letSneeze, 4, some .int)
def M_X1_release : Mt := (yX1_release, cX1_release, 5, some .int)
def M_X1_clearRing : Mt := (yX1_clearRing, cX1_clearRing, 5, some .int)
def M_X1_letPass : Mt := (yX1_letPass, cX1_letPass, 1, some .int)
def M_X1_takeBack : Mt := (yX1_takeBack, cX1_takeBack, 5, some .int)
def M_X1_tieAgain : Mt := (yX1_tieAgain, cX1_tieAgain, 7, none)
def M_X2_init : Mt := (yX2_init, cX2_init, 2, none)
def M_X2_draw : Mt := (yX2_draw, cX2_draw, 2, some .int)
def M_X2_sneezesIn : Mt := (yX2_sneezesIn, cX2_sneezesIn, 9, some .int)
def M_X2_letSneeze : Mt := (yX2_letSneeze, cX2_letSneeze, 4, none)
def M_X2_beside : Mt := (yX2_beside, cX2_beside, 4, some .int)
def M_X3_init : Mt := (yX3_init, cX3_init, 2, none)
def M_X3_look : Mt := (yX3_look, cX3_look, 2, none)
def M_X3_chance : Mt := (yX3_chance, cX3_chance, 2, some .int)
def M_X3_reach : Mt := (yX3_reach, cX3_reach, 2, some .int)
def M_X3_dues : Mt := (yX3_dues, cX3_dues, 3, some .int)
def M_X3_bars : Mt := (yX3_bars, cX3_bars, 3, some .boolean)
def M_X3_within : Mt := (yX3_within, cX3_within, 2, some .int)
def M_X3_tells : Mt := (yX3_tells, cX3_tells, 8, some .boolean)
def M_X3_learn : Mt := (yX3_learn, cX3_learn, 4, none)
def M_X3_ahead : Mt := (yX3_ahead, cX3_ahead, 5, some .boolean)
def M_X3_blesser : Mt := (yX3_blesser, cX3_blesser, 5, some .int)
def M_X4_init : Mt := (yX4_init, cX4_init, 1, none)
def M_X4_become : Mt := (yX4_become, cX4_become, 2, none)
def M_X4_note : Mt := (yX4_note, cX4_note, 5, some .int)
def M_X5_init : Mt := (yX5_init, cX5_init, 2, none)
def M_X5_open : Mt := (yX5_open, cX5_open, 2, none)
def M_X5_findRivals : Mt := (yX5_findRivals, cX5_findRivals, 3, none)
def M_X5_gainIn : Mt := (yX5_gainIn, cX5_gainIn, 6, some .int)
def M_X5_findBest : Mt := (yX5_findBest, cX5_findBest, 6, some .int)
def M_X5_roundsToRest : Mt := (yX5_roundsToRest, cX5_roundsToRest, 2, some .int)
def M_X5_anybodyGoes : Mt := (yX5_anybodyGoes, cX5_anybodyGoes, 3, some .boolean)
def M_X5_whereAllAre : Mt := (yX5_whereAllAre, cX5_whereAllAre, 4, some .long)
def M_X5_wereThere : Mt := (yX5_wereThere, cX5_wereThere, 5, some .boolean)
def M_X5_shortestRound : Mt := (yX5_shortestRound, cX5_shortestRound, 5, some .int)
def M_X5_fewestSteps : Mt := (yX5_fewestSteps, cX5_fewestSteps, 5, some .int)
def M_X5_stepsBy : Mt := (yX5_stepsBy, cX5_stepsBy, 5, some .int)
def M_X5_traceRound : Mt := (yX5_traceRound, cX5_traceRound, 6, none)
def M_X5_isNext : Mt := (yX5_isNext, cX5_isNext, 4, some .boolean)
def M_X5_allGains : Mt := (yX5_allGains, cX5_allGains, 5, some .int)
def M_X5_fewestMasks : Mt := (yX5_fewestMasks, cX5_fewestMasks, 3, some .int)
def M_X5_lineUp : Mt := (yX5_lineUp, cX5_lineUp, 6, none)
def M_X5_nobodyGains : Mt := (yX5_nobodyGains, cX5_nobodyGains, 3, some .boolean)
def M_X5_isPaid : Mt := (yX5_isPaid, cX5_isPaid, 4, some .boolean)
def M_X5_findAllRivals : Mt := (yX5_findAllRivals, cX5_findAllRivals, 3, none)
def M_X5_blesserWith : Mt := (yX5_blesserWith, cX5_blesserWith, 5, some .int)
def M_X5_placesBySeen : Mt := (yX5_placesBySeen, cX5_placesBySeen, 6, some .int)
def M_X5_findSneezeToHear : Mt := (yX5_findSneezeToHear, cX5_findSneezeToHear, 5, none)
def M_X5_mostAlike : Mt := (yX5_mostAlike, cX5_mostAlike, 7, some .int)
def M_X5_chanceOf : Mt := (yX5_chanceOf, cX5_chanceOf, 10, some .long)
def M_X6_init : Mt := (yX6_init, cX6_init, 1, none)
def M_X6_put : Mt := (yX6_put, cX6_put, 3, none)
def M_X6_readText : Mt := (yX6_readText, cX6_readText, 3, some .boolean)
def M_X6_advance : Mt := (yX6_advance, cX6_advance, 1, none)
def M_X6_sortOf : Mt := (yX6_sortOf, cX6_sortOf, 1, some .int)
def M_X6_isSign : Mt := (yX6_isSign, cX6_isSign, 2, some .boolean)
def M_X6_isWord : Mt := (yX6_isWord, cX6_isWord, 2, some .boolean)
def M_X6_among : Mt := (yX6_among, cX6_among, 7, some .int)
def M_X6_numberTo : Mt := (yX6_numberTo, cX6_numberTo, 4, some .int)
def M_X6_readClause : Mt := (yX6_readClause, cX6_readClause, 3, some .boolean)
def M_X6_readOrder : Mt := (yX6_readOrder, cX6_readOrder, 3, some .boolean)
def M_X6_readTimes : Mt := (yX6_readTimes, cX6_readTimes, 3, some .boolean)
def M_X6_readTest : Mt := (yX6_readTest, cX6_readTest, 4, some .boolean)
def M_X6_readBoth : Mt := (yX6_readBoth, cX6_readBoth, 4, some .boolean)
def M_X6_readPlain : Mt := (yX6_readPlain, cX6_readPlain, 3, some .boolean)
def M_X6_readComparison : Mt := (yX6_readComparison, cX6_readComparison, 2, some .boolean)
def M_X6_readInBrackets : Mt := (yX6_readInBrackets, cX6_readInBrackets, 3, some .boolean)
def M_X6_readSum : Mt := (yX6_readSum, cX6_readSum, 4, some .boolean)
def M_X6_readTerm : Mt := (yX6_readTerm, cX6_readTerm, 4, some .boolean)
def M_X6_readPart : Mt := (yX6_readPart, cX6_readPart, 4, some .boolean)
def M_X7_init : Mt := (yX7_init, cX7_init, 1, none)
def M_X7_value : Mt := (yX7_value, cX7_value, 15, some .long)
def M_X8_init : Mt := (yX8_init, cX8_init, 1, none)
def M_X8_shortest : Mt := (yX8_shortest, cX8_shortest, 4, some .int)
def M_X8_closes : Mt := (yX8_closes, cX8_closes, 6, some .boolean)
def M_X8_isAmong : Mt := (yX8_isAmong, cX8_isAmong, 4, some .boolean)
def M_X8_least : Mt := (yX8_least, cX8_least, 5, some .int)
def M_X9_init : Mt := (yX9_init, cX9_init, 5, none)
def M_X9_kept : Mt := (yX9_kept, cX9_kept, 2, some (.object "BlessLoan$Text"))
def M_X9_emit : Mt := (yX9_emit, cX9_emit, 3, some .int)
def M_X9_landHere : Mt := (yX9_landHere, cX9_landHere, 2, none)
def M_X10_init : Mt := (yX10_init, cX10_init, 1, none)
def M_X10_isPlace : Mt := (yX10_isPlace, cX10_isPlace, 1, some .boolean)
def M_X10_canBe : Mt := (yX10_canBe, cX10_canBe, 4, some .boolean)
def M_X10_apart : Mt := (yX10_apart, cX10_apart, 4, some .int)
def M_X10_become : Mt := (yX10_become, cX10_become, 3, none)
def M_X10_has : Mt := (yX10_has, cX10_has, 2, some .boolean)
def M_X10_hasBoth : Mt := (yX10_hasBoth, cX10_hasBoth, 3, some .boolean)
def M_X10_hasLawOrNone : Mt := (yX10_hasLawOrNone, cX10_hasLawOrNone, 2, some .boolean)
def M_X10_lawInForce : Mt := (yX10_lawInForce, cX10_lawInForce, 1, some (.object "BlessLoan$Text"))
def M_X10_settle : Mt := (yX10_settle, cX10_settle, 5, some .int)
def M_X10_far : Mt := (yX10_far, cX10_far, 3, some .int)
def M_X10_peopleIn : Mt := (yX10_peopleIn, cX10_peopleIn, 4, some .int)
def M_X10_maskedOnes : Mt := (yX10_maskedOnes, cX10_maskedOnes, 3, some .int)
def M_X10_owedTo : Mt := (yX10_owedTo, cX10_owedTo, 4, some .int)
def M_X10_owedBy : Mt := (yX10_owedBy, cX10_owedBy, 4, some .int)
def M_X10_owedInAll : Mt := (yX10_owedInAll, cX10_owedInAll, 3, some .int)
def M_X10_debtOf : Mt := (yX10_debtOf, cX10_debtOf, 4, some .int)
def M_X10_bless : Mt := (yX10_bless, cX10_bless, 5, none)
def M_X11_init : Mt := (yX11_init, cX11_init, 1, none)
def M_X11_dust : Mt := (yX11_dust, cX11_dust, 4, some .int)
def M_X11_at : Mt := (yX11_at, cX11_at, 3, some .int)
def M_X11_person : Mt := (yX11_person, cX11_person, 5, some .int)
def M_X11_of : Mt := (yX11_of, cX11_of, 3, some .int)
def M_X11_mask : Mt := (yX11_mask, cX11_mask, 4, some .int)
def M_X11_owed : Mt := (yX11_owed, cX11_owed, 3, some .int)
def M_X11_lend : Mt := (yX11_lend, cX11_lend, 5, some .int)
def M_X11_net : Mt := (yX11_net, cX11_net, 2, some .int)
def M_X11_terms : Mt := (yX11_terms, cX11_terms, 4, some .int)
def M_X11_feed : Mt := (yX11_feed, cX11_feed, 6, some .int)
def M_X11_end : Mt := (yX11_end, cX11_end, 2, some .int)
def M_X11_row : Mt := (yX11_row, cX11_row, 4, some .int)
def M_X11_hiccups : Mt := (yX11_hiccups, cX11_hiccups, 1, some .int)
def M_X11_law : Mt := (yX11_law, cX11_law, 1, some .int)
def M_X11_orders : Mt := (yX11_orders, cX11_orders, 1, some .int)
def M_X11_fault : Mt := (yX11_fault, cX11_fault, 1, some .int)
def M_X11_stopped : Mt := (yX11_stopped, cX11_stopped, 1, some .int)
def M_X11_force : Mt := (yX11_force, cX11_force, 3, some .int)
def M_X11_asks : Mt := (yX11_asks, cX11_asks, 4, some .int)
def M_X11_step : Mt := (yX11_step, cX11_step, 3, some .int)
def M_X11_sneeze : Mt := (yX11_sneeze, cX11_sneeze, 2, some .int)
def M_X11_forgive : Mt := (yX11_forgive, cX11_forgive, 3, some .int)
def M_X11_clear : Mt := (yX11_clear, cX11_clear, 1, some .int)
def M_X11_pass : Mt := (yX11_pass, cX11_pass, 1, some .int)
def M_X11_undo : Mt := (yX11_undo, cX11_undo, 1, some .int)
def M_X11_ring : Mt := (yX11_ring, cX11_ring, 3, some .int)
def M_X11_gain : Mt := (yX11_gain, cX11_gain, 3, some .int)
def M_X11_stand : Mt := (yX11_stand, cX11_stand, 3, some .int)
def M_X11_rests : Mt := (yX11_rests, cX11_rests, 3, some .int)
def M_X11_round : Mt := (yX11_round, cX11_round, 4, some .int)
def M_X11_masks : Mt := (yX11_masks, cX11_masks, 3, some .int)
def M_X11_seen : Mt := (yX11_seen, cX11_seen, 3, some .int)
def M_X11_forget : Mt := (yX11_forget, cX11_forget, 2, some .int)
def M_X11_can : Mt := (yX11_can, cX11_can, 2, some .int)
def M_X11_listen : Mt := (yX11_listen, cX11_listen, 4, some .int)
def M_X11_often : Mt := (yX11_often, cX11_often, 4, some .long)
def M_X11_compare : Mt := (yX11_compare, cX11_compare, 2, some .int)
def M_X11_hours : Mt := (yX11_hours, cX11_hours, 3, some .int)
def M_X11_drawn : Mt := (yX11_drawn, cX11_drawn, 3, some .int)
def M_X11_image : Mt := (yX11_image, cX11_image, 2, some .int)
def M_X11_back : Mt := (yX11_back, cX11_back, 2, some .int)
def M_X11_count : Mt := (yX11_count, cX11_count, 2, some .int)
def M_X11_status : Mt := (yX11_status, cX11_status, 1, some .int)
def M_X11_fine : Mt := (yX11_fine, cX11_fine, 2, some .int)
def M_X11_refuse : Mt := (yX11_refuse, cX11_refuse, 3, some .int)
def M_X11_settled : Mt := (yX11_settled, cX11_settled, 2, some .int)
def M_X11_readTape : Mt := (yX11_readTape, cX11_readTape, 3, some .boolean)
def M_X11_settleFrom : Mt := (yX11_settleFrom, cX11_settleFrom, 3, some .boolean)
def M_X12_init : Mt := (yX12_init, cX12_init, 2, none)
def M_X12_in : Mt := (yX12_in, cX12_in, 6, some .boolean)
def M_X12_is : Mt := (yX12_is, cX12_is, 2, some .boolean)
def M_X12_ones : Mt := (yX12_ones, cX12_ones, 3, some .int)
def M_X12_within : Mt := (yX12_within, cX12_within, 4, some .int)
def M_X12_tell : Mt := (yX12_tell, cX12_tell, 2, some .int)
def M_X12_change : Mt := (yX12_change, cX12_change, 4, some .int)
def M_X12_keepAll : Mt := (yX12_keepAll, cX12_keepAll, 3, none)
def M_X12_putBack : Mt := (yX12_putBack, cX12_putBack, 3, none)
def M_X12_remember : Mt := (yX12_remember, cX12_remember, 3, none)
def M_X12_undo : Mt := (yX12_undo, cX12_undo, 1, some .int)
def M_X12_image : Mt := (yX12_image, cX12_image, 3, some .int)
def M_X12_back : Mt := (yX12_back, cX12_back, 3, some .int)
def M_X12_isPlace : Mt := (yX12_isPlace, cX12_isPlace, 1, some .boolean)
def M_X12_isPerson : Mt := (yX12_isPerson, cX12_isPerson, 2, some .boolean)
def M_X12_farFrom : Mt := (yX12_farFrom, cX12_farFrom, 4, some .int)
def M_X12_farOf : Mt := (yX12_farOf, cX12_farOf, 3, some .int)
def M_X12_owes : Mt := (yX12_owes, cX12_owes, 3, some .int)
def M_X12_setOwed : Mt := (yX12_setOwed, cX12_setOwed, 4, none)
def M_X12_owedTo : Mt := (yX12_owedTo, cX12_owedTo, 4, some .int)
def M_X12_owedBy : Mt := (yX12_owedBy, cX12_owedBy, 4, some .int)
def M_X12_dust : Mt := (yX12_dust, cX12_dust, 3, some .int)
def M_X12_at : Mt := (yX12_at, cX12_at, 5, some .int)
def M_X12_come : Mt := (yX12_come, cX12_come, 7, some .int)
def M_X12_person : Mt := (yX12_person, cX12_person, 5, some .int)
def M_X12_of : Mt := (yX12_of, cX12_of, 3, some .int)
def M_X12_mask : Mt := (yX12_mask, cX12_mask, 3, some .int)
def M_X12_owed : Mt := (yX12_owed, cX12_owed, 3, some .int)
def M_X12_lend : Mt := (yX12_lend, cX12_lend, 4, some .int)
def M_X12_net : Mt := (yX12_net, cX12_net, 2, some .int)
def M_X12_terms : Mt := (yX12_terms, cX12_terms, 4, some .int)
def M_X12_row : Mt := (yX12_row, cX12_row, 4, some .int)
def M_X12_hiccups : Mt := (yX12_hiccups, cX12_hiccups, 1, some .int)
def M_X12_four : Mt := (yX12_four, cX12_four, 3, none)
def M_X12_feed : Mt := (yX12_feed, cX12_feed, 6, some .int)
def M_X12_end : Mt := (yX12_end, cX12_end, 2, some .int)
def M_X12_isSmall : Mt := (yX12_isSmall, cX12_isSmall, 1, some .boolean)
def M_X12_isDigit : Mt := (yX12_isDigit, cX12_isDigit, 1, some .boolean)
def M_X12_begin : Mt := (yX12_begin, cX12_begin, 1, none)
def M_X12_next : Mt := (yX12_next, cX12_next, 1, none)
def M_X12_isWord : Mt := (yX12_isWord, cX12_isWord, 3, some .boolean)
def M_X12_isSign : Mt := (yX12_isSign, cX12_isSign, 2, some .boolean)
def M_X12_must : Mt := (yX12_must, cX12_must, 2, none)
def M_X12_number : Mt := (yX12_number, cX12_number, 6, some .int)
def M_X12_fault : Mt := (yX12_fault, cX12_fault, 1, some .int)
def M_X12_emit : Mt := (yX12_emit, cX12_emit, 3, none)
def M_X12_push : Mt := (yX12_push, cX12_push, 3, none)
def M_X12_binds : Mt := (yX12_binds, cX12_binds, 1, some .int)
def M_X12_settle : Mt := (yX12_settle, cX12_settle, 2, none)
def M_X12_inner : Mt := (yX12_inner, cX12_inner, 3, some .int)
def M_X12_isCompared : Mt := (yX12_isCompared, cX12_isCompared, 2, some .boolean)
def M_X12_partAt : Mt := (yX12_partAt, cX12_partAt, 3, some .int)
def M_X12_orderPartAt : Mt := (yX12_orderPartAt, cX12_orderPartAt, 3, some .int)
def M_X12_openBracket : Mt := (yX12_openBracket, cX12_openBracket, 2, none)
def M_X12_leaf : Mt := (yX12_leaf, cX12_leaf, 4, none)
def M_X12_readPart : Mt := (yX12_readPart, cX12_readPart, 4, some .int)
def M_X12_readPlain : Mt := (yX12_readPlain, cX12_readPlain, 1, some .int)
def M_X12_behindSum : Mt := (yX12_behindSum, cX12_behindSum, 4, some .int)
def M_X12_behindTest : Mt := (yX12_behindTest, cX12_behindTest, 2, some .int)
def M_X12_readExpression : Mt := (yX12_readExpression, cX12_readExpression, 3, none)
def M_X12_beginText : Mt := (yX12_beginText, cX12_beginText, 2, none)
def M_X12_endText : Mt := (yX12_endText, cX12_endText, 1, none)
def M_X12_readLaw : Mt := (yX12_readLaw, cX12_readLaw, 4, none)
def M_X12_law : Mt := (yX12_law, cX12_law, 3, some .int)
def M_X12_isLaw : Mt := (yX12_isLaw, cX12_isLaw, 2, some .boolean)
def M_X12_force : Mt := (yX12_force, cX12_force, 2, some .int)
def M_X12_reckon : Mt := (yX12_reckon, cX12_reckon, 6, some .long)
def M_X12_reckonAll : Mt := (yX12_reckonAll, cX12_reckonAll, 7, none)
def M_X12_isSo : Mt := (yX12_isSo, cX12_isSo, 2, some .boolean)
def M_X12_tells : Mt := (yX12_tells, cX12_tells, 10, some .long)
def M_X12_sneezesOf : Mt := (yX12_sneezesOf, cX12_sneezesOf, 2, some .int)
def M_X12_hearsOf : Mt := (yX12_hearsOf, cX12_hearsOf, 2, some .int)
def M_X12_loanOf : Mt := (yX12_loanOf, cX12_loanOf, 3, some .int)
def M_X12_isBarred : Mt := (yX12_isBarred, cX12_isBarred, 3, some .boolean)
def M_X12_asks : Mt := (yX12_asks, cX12_asks, 4, some .int)
def M_X12_mayBless : Mt := (yX12_mayBless, cX12_mayBless, 3, some .boolean)
def M_X12_blesserOf : Mt := (yX12_blesserOf, cX12_blesserOf, 5, some .int)
def M_X12_stepNow : Mt := (yX12_stepNow, cX12_stepNow, 4, some .int)
def M_X12_step : Mt := (yX12_step, cX12_step, 3, some .int)
def M_X12_sneezeIt : Mt := (yX12_sneezeIt, cX12_sneezeIt, 3, some .int)
def M_X12_sneezeNow : Mt := (yX12_sneezeNow, cX12_sneezeNow, 2, some .int)
def M_X12_sneeze : Mt := (yX12_sneeze, cX12_sneeze, 2, some .int)
def M_X12_forgiveNow : Mt := (yX12_forgiveNow, cX12_forgiveNow, 4, some .int)
def M_X12_forgive : Mt := (yX12_forgive, cX12_forgive, 3, some .int)
def M_X12_isFresh : Mt := (yX12_isFresh, cX12_isFresh, 4, some .boolean)
def M_X12_findRing : Mt := (yX12_findRing, cX12_findRing, 4, some .boolean)
def M_X12_layRing : Mt := (yX12_layRing, cX12_layRing, 2, some .boolean)
def M_X12_ring : Mt := (yX12_ring, cX12_ring, 2, some .int)
def M_X12_clearNow : Mt := (yX12_clearNow, cX12_clearNow, 4, some .int)
def M_X12_clear : Mt := (yX12_clear, cX12_clear, 1, some .int)
def M_X12_passNow : Mt := (yX12_passNow, cX12_passNow, 1, some .int)
def M_X12_pass : Mt := (yX12_pass, cX12_pass, 1, some .int)
def M_X12_gainOf : Mt := (yX12_gainOf, cX12_gainOf, 4, some .int)
def M_X12_gainAt : Mt := (yX12_gainAt, cX12_gainAt, 5, some .int)
def M_X12_gain : Mt := (yX12_gain, cX12_gain, 3, some .int)
def M_X12_standOf : Mt := (yX12_standOf, cX12_standOf, 5, some .int)
def M_X12_stand : Mt := (yX12_stand, cX12_stand, 4, some .int)
def M_X12_rests : Mt := (yX12_rests, cX12_rests, 7, some .int)
def M_X12_gainsOfAll : Mt := (yX12_gainsOfAll, cX12_gainsOfAll, 3, some .int)
def M_X12_masks : Mt := (yX12_masks, cX12_masks, 8, some .int)
def M_X12_compare : Mt := (yX12_compare, cX12_compare, 4, some .int)
def M_X12_stepsOf : Mt := (yX12_stepsOf, cX12_stepsOf, 7, some .int)
def M_X12_isNew : Mt := (yX12_isNew, cX12_isNew, 4, some .boolean)
def M_X12_findRound : Mt := (yX12_findRound, cX12_findRound, 7, some .int)
def M_X12_round : Mt := (yX12_round, cX12_round, 5, some .int)
def M_X12_seen : Mt := (yX12_seen, cX12_seen, 4, some .int)
def M_X12_forget : Mt := (yX12_forget, cX12_forget, 2, some .int)
def M_X12_isAsSeen : Mt := (yX12_isAsSeen, cX12_isAsSeen, 3, some .boolean)
def M_X12_layCan : Mt := (yX12_layCan, cX12_layCan, 7, some .int)
def M_X12_can : Mt := (yX12_can, cX12_can, 2, some .int)
def M_X12_listen : Mt := (yX12_listen, cX12_listen, 9, some .int)
def M_X12_often : Mt := (yX12_often, cX12_often, 9, some .long)
def M_X12_readSum : Mt := (yX12_readSum, cX12_readSum, 2, none)
def M_X12_readOrder : Mt := (yX12_readOrder, cX12_readOrder, 4, none)
def M_X12_sumOf : Mt := (yX12_sumOf, cX12_sumOf, 2, some .int)
def M_X12_act : Mt := (yX12_act, cX12_act, 4, some .int)
def M_X12_run : Mt := (yX12_run, cX12_run, 5, some .int)
def M_X12_orders : Mt := (yX12_orders, cX12_orders, 4, some .int)
def M_X12_giveBack : Mt := (yX12_giveBack, cX12_giveBack, 3, none)
def M_X12_stopped : Mt := (yX12_stopped, cX12_stopped, 1, some .int)
def M_X12_draw : Mt := (yX12_draw, cX12_draw, 2, some .int)
def M_X12_placeBy : Mt := (yX12_placeBy, cX12_placeBy, 4, some .int)
def M_X12_hours : Mt := (yX12_hours, cX12_hours, 8, some .int)
def M_X12_drawn : Mt := (yX12_drawn, cX12_drawn, 3, some .int)
def M_X12_maskedOnes : Mt := (yX12_maskedOnes, cX12_maskedOnes, 3, some .int)
def M_X12_owedByAll : Mt := (yX12_owedByAll, cX12_owedByAll, 3, some .int)
def M_X12_count : Mt := (yX12_count, cX12_count, 2, some .int)
def M_X12_status : Mt := (yX12_status, cX12_status, 1, some .int)
def M_J6_bitCount_0f7a4 : Mt := (yJ6_bitCount_0f7a4, cJ6_bitCount_0f7a4, 1, some .int)
def M_J7_fill_d0a16 : Mt := (yJ7_fill_d0a16, cJ7_fill_d0a16, 5, none)
def M_J7_fill_53178 : Mt := (yJ7_fill_53178, cJ7_fill_53178, 4, none)
def M_L_law : Mt := (yL_law, cL_law, 4, some .boolean)
theorem q0 : Cond.selects "BlessLoan" ⟨"BlessLoan", "refuse", "(I)I"⟩ ⟨"BlessLoan", "refuse", "(I)I"⟩ ∈ gtb := gtb_in (List.mem_append_left _ (List.mem_of_getElem? (i := 0) rfl)) rfl
theorem q1 : Cond.selects "BlessLoan" ⟨"BlessLoan", "fine", "(I)I"⟩ ⟨"BlessLoan", "fine", "(I)I"⟩ ∈ gtb := gtb_in (List.mem_append_left _ (List.mem_of_getElem? (i := 1) rfl)) rfl
theorem q2 : Cond.selects "BlessLoan$Judge" ⟨"BlessLoan$Judge", "tells", "(IIII)Z"⟩ ⟨"BlessLoan$Judge", "tells", "(IIII)Z"⟩ ∈ gtb := gtb_in (List.mem_append_left _ (List.mem_of_getElem? (i := 2) rfl)) rfl
theorem q3 : Cond.selects "BlessLoan$Judge" ⟨"BlessLoan$Judge", "learn", "(III)V"⟩ ⟨"BlessLoan$Judge", "learn", "(III)V"⟩ ∈ gtb := gtb_in (List.mem_append_left _ (List.mem_of_getElem? (i := 3) rfl)) rfl
theorem q4 : Cond.selects "BlessLoan$Judge" ⟨"BlessLoan$Judge", "within", "(I)I"⟩ ⟨"BlessLoan$Judge", "within", "(I)I"⟩ ∈ gtb := gtb_in (List.mem_append_left _ (List.mem_of_getElem? (i := 4) rfl)) rfl
theorem q5 : Cond.selects "BlessLoan" ⟨"BlessLoan", "settleFrom", "(I)Z"⟩ ⟨"BlessLoan", "settleFrom", "(I)Z"⟩ ∈ gtb := gtb_in (List.mem_append_left _ (List.mem_of_getElem? (i := 5) rfl)) rfl
theorem q6 : Cond.selects "BlessLoan" ⟨"BlessLoan", "readTape", "(Z)Z"⟩ ⟨"BlessLoan", "readTape", "(Z)Z"⟩ ∈ gtb := gtb_in (List.mem_append_left _ (List.mem_of_getElem? (i := 6) rfl)) rfl
theorem q7 : Cond.selects "BlessLoan$Reader" ⟨"BlessLoan$Reader", "advance", "()V"⟩ ⟨"BlessLoan$Reader", "advance", "()V"⟩ ∈ gtb := gtb_in (List.mem_append_left _ (List.mem_of_getElem? (i := 7) rfl)) rfl
theorem q8 : Cond.selects "BlessLoan$Reader" ⟨"BlessLoan$Reader", "readClause", "(I)Z"⟩ ⟨"BlessLoan$Reader", "readClause", "(I)Z"⟩ ∈ gtb := gtb_in (List.mem_append_left _ (List.mem_of_getElem? (i := 8) rfl)) rfl
theorem q9 : Cond.selects "BlessLoan$Reader" ⟨"BlessLoan$Reader", "among", "(Ljava/lang/String;)I"⟩ ⟨"BlessLoan$Reader", "among", "(Ljava/lang/String;)I"⟩ ∈ gtb := gtb_in (List.mem_append_left _ (List.mem_of_getElem? (i := 9) rfl)) rfl
theorem q10 : Cond.selects "BlessLoan$Reader" ⟨"BlessLoan$Reader", "readOrder", "(II)Z"⟩ ⟨"BlessLoan$Reader", "readOrder", "(II)Z"⟩ ∈ gtb := gtb_in (List.mem_append_left _ (List.mem_of_getElem? (i := 10) rfl)) rfl
theorem q11 : Cond.selects "BlessLoan$Reader" ⟨"BlessLoan$Reader", "readSum", "()Z"⟩ ⟨"BlessLoan$Reader", "readSum", "()Z"⟩ ∈ gtb := gtb_in (List.mem_append_left _ (List.mem_of_getElem? (i := 11) rfl)) rfl
theorem q12 : Cond.selects "BlessLoan$Reader" ⟨"BlessLoan$Reader", "readTerm", "()Z"⟩ ⟨"BlessLoan$Reader", "readTerm", "()Z"⟩ ∈ gtb := gtb_in (List.mem_append_left _ (List.mem_of_getElem? (i := 12) rfl)) rfl
theorem q13 : Cond.selects "BlessLoan$Reader" ⟨"BlessLoan$Reader", "readPart", "()Z"⟩ ⟨"BlessLoan$Reader", "readPart", "()Z"⟩ ∈ gtb := gtb_in (List.mem_append_left _ (List.mem_of_getElem? (i := 13) rfl)) rfl
theorem q14 : Cond.selects "BlessLoan$Reader" ⟨"BlessLoan$Reader", "isSign", "(C)Z"⟩ ⟨"BlessLoan$Reader", "isSign", "(C)Z"⟩ ∈ gtb := gtb_in (List.mem_append_left _ (List.mem_of_getElem? (i := 14) rfl)) rfl
theorem q15 : Cond.selects "BlessLoan$Reader" ⟨"BlessLoan$Reader", "readInBrackets", "(C)Z"⟩ ⟨"BlessLoan$Reader", "readInBrackets", "(C)Z"⟩ ∈ gtb := gtb_in (List.mem_append_left _ (List.mem_of_getElem? (i := 15) rfl)) rfl
theorem q16 : Cond.selects "BlessLoan$Reader" ⟨"BlessLoan$Reader", "readTest", "()Z"⟩ ⟨"BlessLoan$Reader", "readTest", "()Z"⟩ ∈ gtb := gtb_in (List.mem_append_left _ (List.mem_of_getElem? (i := 16) rfl)) rfl
theorem q17 : Cond.selects "BlessLoan$Reader" ⟨"BlessLoan$Reader", "readBoth", "()Z"⟩ ⟨"BlessLoan$Reader", "readBoth", "()Z"⟩ ∈ gtb := gtb_in (List.mem_append_left _ (List.mem_of_getElem? (i := 17) rfl)) rfl
theorem q18 : Cond.selects "BlessLoan$Reader" ⟨"BlessLoan$Reader", "readPlain", "()Z"⟩ ⟨"BlessLoan$Reader", "readPlain", "()Z"⟩ ∈ gtb := gtb_in (List.mem_append_left _ (List.mem_of_getElem? (i := 18) rfl)) rfl
theorem q19 : Cond.selects "BlessLoan$Reader" ⟨"BlessLoan$Reader", "isWord", "(Ljava/lang/String;)Z"⟩ ⟨"BlessLoan$Reader", "isWord", "(Ljava/lang/String;)Z"⟩ ∈ gtb := gtb_in (List.mem_append_left _ (List.mem_of_getElem? (i := 19) rfl)) rfl
theorem q20 : Cond.selects "BlessLoan$Reader" ⟨"BlessLoan$Reader", "readComparison", "()Z"⟩ ⟨"BlessLoan$Reader", "readComparison", "()Z"⟩ ∈ gtb := gtb_in (List.mem_append_left _ (List.mem_of_getElem? (i := 20) rfl)) rfl
theorem q21 : Cond.selects "BlessLoan$Reader" ⟨"BlessLoan$Reader", "numberTo", "(I)I"⟩ ⟨"BlessLoan$Reader", "numberTo", "(I)I"⟩ ∈ gtb := gtb_in (List.mem_append_left _ (List.mem_of_getElem? (i := 21) rfl)) rfl
theorem q22 : Cond.selects "BlessLoan$Reader" ⟨"BlessLoan$Reader", "readTimes", "(I)Z"⟩ ⟨"BlessLoan$Reader", "readTimes", "(I)Z"⟩ ∈ gtb := gtb_in (List.mem_append_left _ (List.mem_of_getElem? (i := 22) rfl)) rfl
theorem q23 : Cond.selects "BlessLoan$Clerk" ⟨"BlessLoan$Clerk", "learn", "()V"⟩ ⟨"BlessLoan$Clerk", "learn", "()V"⟩ ∈ gtb := gtb_in (List.mem_append_left _ (List.mem_of_getElem? (i := 23) rfl)) rfl
theorem q24 : Cond.selects "BlessLoan$Clerk" ⟨"BlessLoan$Clerk", "isWanted", "(LBlessLoan$Text;I)Z"⟩ ⟨"BlessLoan$Clerk", "isWanted", "(LBlessLoan$Text;I)Z"⟩ ∈ gtb := gtb_in (List.mem_append_left _ (List.mem_of_getElem? (i := 24) rfl)) rfl
theorem q25 : Cond.selects "BlessLoan$Clerk" ⟨"BlessLoan$Clerk", "act", "(LBlessLoan$Text;I)I"⟩ ⟨"BlessLoan$Clerk", "act", "(LBlessLoan$Text;I)I"⟩ ∈ gtb := gtb_in (List.mem_append_left _ (List.mem_of_getElem? (i := 25) rfl)) rfl
theorem q26 : Cond.selects "BlessLoan" ⟨"BlessLoan", "settled", "(I)I"⟩ ⟨"BlessLoan", "settled", "(I)I"⟩ ∈ gtb := gtb_in (List.mem_append_left _ (List.mem_of_getElem? (i := 26) rfl)) rfl
theorem q27 : Cond.selects "BlessLoan$Deeds" ⟨"BlessLoan$Deeds", "tieAgain", "(III)V"⟩ ⟨"BlessLoan$Deeds", "tieAgain", "(III)V"⟩ ∈ gtb := gtb_in (List.mem_append_left _ (List.mem_of_getElem? (i := 27) rfl)) rfl
theorem q28 : Cond.selects "BlessLoan$Planner" ⟨"BlessLoan$Planner", "whereAllAre", "()J"⟩ ⟨"BlessLoan$Planner", "whereAllAre", "()J"⟩ ∈ gtb := gtb_in (List.mem_append_left _ (List.mem_of_getElem? (i := 28) rfl)) rfl
theorem q29 : Cond.selects "BlessLoan$Planner" ⟨"BlessLoan$Planner", "anybodyGoes", "()Z"⟩ ⟨"BlessLoan$Planner", "anybodyGoes", "()Z"⟩ ∈ gtb := gtb_in (List.mem_append_left _ (List.mem_of_getElem? (i := 29) rfl)) rfl
theorem q30 : Cond.selects "BlessLoan$Planner" ⟨"BlessLoan$Planner", "wereThere", "(I)Z"⟩ ⟨"BlessLoan$Planner", "wereThere", "(I)Z"⟩ ∈ gtb := gtb_in (List.mem_append_left _ (List.mem_of_getElem? (i := 30) rfl)) rfl
theorem q31 : Cond.selects "BlessLoan$Planner" ⟨"BlessLoan$Planner", "fewestSteps", "(II)I"⟩ ⟨"BlessLoan$Planner", "fewestSteps", "(II)I"⟩ ∈ gtb := gtb_in (List.mem_append_left _ (List.mem_of_getElem? (i := 31) rfl)) rfl
theorem q32 : Cond.selects "BlessLoan$Planner" ⟨"BlessLoan$Planner", "stepsBy", "(III)I"⟩ ⟨"BlessLoan$Planner", "stepsBy", "(III)I"⟩ ∈ gtb := gtb_in (List.mem_append_left _ (List.mem_of_getElem? (i := 32) rfl)) rfl
theorem q33 : Cond.selects "BlessLoan$Planner" ⟨"BlessLoan$Planner", "traceRound", "(I)V"⟩ ⟨"BlessLoan$Planner", "traceRound", "(I)V"⟩ ∈ gtb := gtb_in (List.mem_append_left _ (List.mem_of_getElem? (i := 33) rfl)) rfl
theorem q34 : Cond.selects "BlessLoan$Planner" ⟨"BlessLoan$Planner", "isNext", "(III)Z"⟩ ⟨"BlessLoan$Planner", "isNext", "(III)Z"⟩ ∈ gtb := gtb_in (List.mem_append_left _ (List.mem_of_getElem? (i := 34) rfl)) rfl
theorem q35 : Cond.selects "BlessLoan$Planner" ⟨"BlessLoan$Planner", "lineUp", "(I)V"⟩ ⟨"BlessLoan$Planner", "lineUp", "(I)V"⟩ ∈ gtb := gtb_in (List.mem_append_left _ (List.mem_of_getElem? (i := 35) rfl)) rfl
theorem q36 : Cond.selects "BlessLoan$Planner" ⟨"BlessLoan$Planner", "nobodyGains", "(I)Z"⟩ ⟨"BlessLoan$Planner", "nobodyGains", "(I)Z"⟩ ∈ gtb := gtb_in (List.mem_append_left _ (List.mem_of_getElem? (i := 36) rfl)) rfl
theorem q37 : Cond.selects "BlessLoan$Planner" ⟨"BlessLoan$Planner", "isPaid", "(II)Z"⟩ ⟨"BlessLoan$Planner", "isPaid", "(II)Z"⟩ ∈ gtb := gtb_in (List.mem_append_left _ (List.mem_of_getElem? (i := 37) rfl)) rfl
theorem q38 : Cond.selects "BlessLoan$Planner" ⟨"BlessLoan$Planner", "blesserWith", "(III)I"⟩ ⟨"BlessLoan$Planner", "blesserWith", "(III)I"⟩ ∈ gtb := gtb_in (List.mem_append_left _ (List.mem_of_getElem? (i := 38) rfl)) rfl
theorem q39 : Cond.selects "BlessLoan$Planner" ⟨"BlessLoan$Planner", "mostAlike", "(III)I"⟩ ⟨"BlessLoan$Planner", "mostAlike", "(III)I"⟩ ∈ gtb := gtb_in (List.mem_append_left _ (List.mem_of_getElem? (i := 39) rfl)) rfl
theorem q40 : Cond.selects "BlessLoan$Draws" ⟨"BlessLoan$Draws", "draw", "(I)I"⟩ ⟨"BlessLoan$Draws", "draw", "(I)I"⟩ ∈ gtb := gtb_in (List.mem_append_left _ (List.mem_of_getElem? (i := 40) rfl)) rfl
theorem q41 : Cond.selects "BlessLoanModel" ⟨"BlessLoanModel", "tell", "(I)I"⟩ ⟨"BlessLoanModel", "tell", "(I)I"⟩ ∈ gtb := gtb_in (List.mem_append_left _ (List.mem_of_getElem? (i := 41) rfl)) rfl
theorem q42 : Cond.selects "BlessLoanModel" ⟨"BlessLoanModel", "putBack", "(I)V"⟩ ⟨"BlessLoanModel", "putBack", "(I)V"⟩ ∈ gtb := gtb_in (List.mem_append_left _ (List.mem_of_getElem? (i := 42) rfl)) rfl
theorem q43 : Cond.selects "BlessLoanModel" ⟨"BlessLoanModel", "change", "(II)I"⟩ ⟨"BlessLoanModel", "change", "(II)I"⟩ ∈ gtb := gtb_in (List.mem_append_left _ (List.mem_of_getElem? (i := 43) rfl)) rfl
theorem q44 : Cond.selects "BlessLoanModel" ⟨"BlessLoanModel", "come", "(IIII)I"⟩ ⟨"BlessLoanModel", "come", "(IIII)I"⟩ ∈ gtb := gtb_in (List.mem_append_left _ (List.mem_of_getElem? (i := 44) rfl)) rfl
theorem q45 : Cond.selects "BlessLoanModel" ⟨"BlessLoanModel", "setOwed", "(III)V"⟩ ⟨"BlessLoanModel", "setOwed", "(III)V"⟩ ∈ gtb := gtb_in (List.mem_append_left _ (List.mem_of_getElem? (i := 45) rfl)) rfl
theorem q46 : Cond.selects "BlessLoanModel" ⟨"BlessLoanModel", "isPerson", "(I)Z"⟩ ⟨"BlessLoanModel", "isPerson", "(I)Z"⟩ ∈ gtb := gtb_in (List.mem_append_left _ (List.mem_of_getElem? (i := 46) rfl)) rfl
theorem q47 : Cond.selects "BlessLoanModel" ⟨"BlessLoanModel", "sneezesOf", "(I)I"⟩ ⟨"BlessLoanModel", "sneezesOf", "(I)I"⟩ ∈ gtb := gtb_in (List.mem_append_left _ (List.mem_of_getElem? (i := 47) rfl)) rfl
theorem q48 : Cond.selects "BlessLoanModel" ⟨"BlessLoanModel", "tells", "(IIIJ)J"⟩ ⟨"BlessLoanModel", "tells", "(IIIJ)J"⟩ ∈ gtb := gtb_in (List.mem_append_left _ (List.mem_of_getElem? (i := 48) rfl)) rfl
theorem q49 : Cond.selects "BlessLoanModel" ⟨"BlessLoanModel", "farOf", "(II)I"⟩ ⟨"BlessLoanModel", "farOf", "(II)I"⟩ ∈ gtb := gtb_in (List.mem_append_left _ (List.mem_of_getElem? (i := 49) rfl)) rfl
theorem q50 : Cond.selects "BlessLoanModel" ⟨"BlessLoanModel", "isSo", "(I)Z"⟩ ⟨"BlessLoanModel", "isSo", "(I)Z"⟩ ∈ gtb := gtb_in (List.mem_append_left _ (List.mem_of_getElem? (i := 50) rfl)) rfl
theorem q51 : Cond.selects "BlessLoanModel" ⟨"BlessLoanModel", "reckonAll", "(II)V"⟩ ⟨"BlessLoanModel", "reckonAll", "(II)V"⟩ ∈ gtb := gtb_in (List.mem_append_left _ (List.mem_of_getElem? (i := 51) rfl)) rfl
theorem q52 : Cond.selects "BlessLoanModel" ⟨"BlessLoanModel", "owedTo", "(I)I"⟩ ⟨"BlessLoanModel", "owedTo", "(I)I"⟩ ∈ gtb := gtb_in (List.mem_append_left _ (List.mem_of_getElem? (i := 52) rfl)) rfl
theorem q53 : Cond.selects "BlessLoanModel" ⟨"BlessLoanModel", "owes", "(II)I"⟩ ⟨"BlessLoanModel", "owes", "(II)I"⟩ ∈ gtb := gtb_in (List.mem_append_left _ (List.mem_of_getElem? (i := 53) rfl)) rfl
theorem q54 : Cond.selects "BlessLoanModel" ⟨"BlessLoanModel", "owedBy", "(I)I"⟩ ⟨"BlessLoanModel", "owedBy", "(I)I"⟩ ∈ gtb := gtb_in (List.mem_append_left _ (List.mem_of_getElem? (i := 54) rfl)) rfl
theorem q55 : Cond.selects "BlessLoanModel" ⟨"BlessLoanModel", "reckon", "(IJJ)J"⟩ ⟨"BlessLoanModel", "reckon", "(IJJ)J"⟩ ∈ gtb := gtb_in (List.mem_append_left _ (List.mem_of_getElem? (i := 55) rfl)) rfl
theorem q56 : Cond.selects "BlessLoanModel" ⟨"BlessLoanModel", "hearsOf", "(I)I"⟩ ⟨"BlessLoanModel", "hearsOf", "(I)I"⟩ ∈ gtb := gtb_in (List.mem_append_left _ (List.mem_of_getElem? (i := 56) rfl)) rfl
theorem q57 : Cond.selects "BlessLoanModel" ⟨"BlessLoanModel", "blesserOf", "(I)I"⟩ ⟨"BlessLoanModel", "blesserOf", "(I)I"⟩ ∈ gtb := gtb_in (List.mem_append_left _ (List.mem_of_getElem? (i := 57) rfl)) rfl
theorem q58 : Cond.selects "BlessLoanModel" ⟨"BlessLoanModel", "mayBless", "(II)Z"⟩ ⟨"BlessLoanModel", "mayBless", "(II)Z"⟩ ∈ gtb := gtb_in (List.mem_append_left _ (List.mem_of_getElem? (i := 58) rfl)) rfl
theorem q59 : Cond.selects "BlessLoanModel" ⟨"BlessLoanModel", "isBarred", "(II)Z"⟩ ⟨"BlessLoanModel", "isBarred", "(II)Z"⟩ ∈ gtb := gtb_in (List.mem_append_left _ (List.mem_of_getElem? (i := 59) rfl)) rfl
theorem q60 : Cond.selects "BlessLoanModel" ⟨"BlessLoanModel", "four", "(I)V"⟩ ⟨"BlessLoanModel", "four", "(I)V"⟩ ∈ gtb := gtb_in (List.mem_append_left _ (List.mem_of_getElem? (i := 60) rfl)) rfl
theorem q61 : Cond.selects "BlessLoanModel" ⟨"BlessLoanModel", "beginText", "(Z)V"⟩ ⟨"BlessLoanModel", "beginText", "(Z)V"⟩ ∈ gtb := gtb_in (List.mem_append_left _ (List.mem_of_getElem? (i := 61) rfl)) rfl
theorem q62 : Cond.selects "BlessLoanModel" ⟨"BlessLoanModel", "begin", "()V"⟩ ⟨"BlessLoanModel", "begin", "()V"⟩ ∈ gtb := gtb_in (List.mem_append_left _ (List.mem_of_getElem? (i := 62) rfl)) rfl
theorem q63 : Cond.selects "BlessLoanModel" ⟨"BlessLoanModel", "next", "()V"⟩ ⟨"BlessLoanModel", "next", "()V"⟩ ∈ gtb := gtb_in (List.mem_append_left _ (List.mem_of_getElem? (i := 63) rfl)) rfl
theorem q64 : Cond.selects "BlessLoanModel" ⟨"BlessLoanModel", "readLaw", "()V"⟩ ⟨"BlessLoanModel", "readLaw", "()V"⟩ ∈ gtb := gtb_in (List.mem_append_left _ (List.mem_of_getElem? (i := 64) rfl)) rfl
theorem q65 : Cond.selects "BlessLoanModel" ⟨"BlessLoanModel", "isWord", "(J)Z"⟩ ⟨"BlessLoanModel", "isWord", "(J)Z"⟩ ∈ gtb := gtb_in (List.mem_append_left _ (List.mem_of_getElem? (i := 65) rfl)) rfl
theorem q66 : Cond.selects "BlessLoanModel" ⟨"BlessLoanModel", "must", "(Z)V"⟩ ⟨"BlessLoanModel", "must", "(Z)V"⟩ ∈ gtb := gtb_in (List.mem_append_left _ (List.mem_of_getElem? (i := 66) rfl)) rfl
theorem q67 : Cond.selects "BlessLoanModel" ⟨"BlessLoanModel", "readExpression", "(Z)V"⟩ ⟨"BlessLoanModel", "readExpression", "(Z)V"⟩ ∈ gtb := gtb_in (List.mem_append_left _ (List.mem_of_getElem? (i := 67) rfl)) rfl
theorem q68 : Cond.selects "BlessLoanModel" ⟨"BlessLoanModel", "readPlain", "()I"⟩ ⟨"BlessLoanModel", "readPlain", "()I"⟩ ∈ gtb := gtb_in (List.mem_append_left _ (List.mem_of_getElem? (i := 68) rfl)) rfl
theorem q69 : Cond.selects "BlessLoanModel" ⟨"BlessLoanModel", "push", "(II)V"⟩ ⟨"BlessLoanModel", "push", "(II)V"⟩ ∈ gtb := gtb_in (List.mem_append_left _ (List.mem_of_getElem? (i := 69) rfl)) rfl
theorem q70 : Cond.selects "BlessLoanModel" ⟨"BlessLoanModel", "isSign", "(I)Z"⟩ ⟨"BlessLoanModel", "isSign", "(I)Z"⟩ ∈ gtb := gtb_in (List.mem_append_left _ (List.mem_of_getElem? (i := 70) rfl)) rfl
theorem q71 : Cond.selects "BlessLoanModel" ⟨"BlessLoanModel", "openBracket", "(I)V"⟩ ⟨"BlessLoanModel", "openBracket", "(I)V"⟩ ∈ gtb := gtb_in (List.mem_append_left _ (List.mem_of_getElem? (i := 71) rfl)) rfl
theorem q72 : Cond.selects "BlessLoanModel" ⟨"BlessLoanModel", "readPart", "()I"⟩ ⟨"BlessLoanModel", "readPart", "()I"⟩ ∈ gtb := gtb_in (List.mem_append_left _ (List.mem_of_getElem? (i := 72) rfl)) rfl
theorem q73 : Cond.selects "BlessLoanModel" ⟨"BlessLoanModel", "orderPartAt", "()I"⟩ ⟨"BlessLoanModel", "orderPartAt", "()I"⟩ ∈ gtb := gtb_in (List.mem_append_left _ (List.mem_of_getElem? (i := 73) rfl)) rfl
theorem q74 : Cond.selects "BlessLoanModel" ⟨"BlessLoanModel", "partAt", "()I"⟩ ⟨"BlessLoanModel", "partAt", "()I"⟩ ∈ gtb := gtb_in (List.mem_append_left _ (List.mem_of_getElem? (i := 74) rfl)) rfl
theorem q75 : Cond.selects "BlessLoanModel" ⟨"BlessLoanModel", "leaf", "(ZII)V"⟩ ⟨"BlessLoanModel", "leaf", "(ZII)V"⟩ ∈ gtb := gtb_in (List.mem_append_left _ (List.mem_of_getElem? (i := 75) rfl)) rfl
theorem q76 : Cond.selects "BlessLoanModel" ⟨"BlessLoanModel", "emit", "(II)V"⟩ ⟨"BlessLoanModel", "emit", "(II)V"⟩ ∈ gtb := gtb_in (List.mem_append_left _ (List.mem_of_getElem? (i := 76) rfl)) rfl
theorem q77 : Cond.selects "BlessLoanModel" ⟨"BlessLoanModel", "number", "(JJ)I"⟩ ⟨"BlessLoanModel", "number", "(JJ)I"⟩ ∈ gtb := gtb_in (List.mem_append_left _ (List.mem_of_getElem? (i := 77) rfl)) rfl
theorem q78 : Cond.selects "BlessLoanModel" ⟨"BlessLoanModel", "behindSum", "(Z)I"⟩ ⟨"BlessLoanModel", "behindSum", "(Z)I"⟩ ∈ gtb := gtb_in (List.mem_append_left _ (List.mem_of_getElem? (i := 78) rfl)) rfl
theorem q79 : Cond.selects "BlessLoanModel" ⟨"BlessLoanModel", "settle", "(I)V"⟩ ⟨"BlessLoanModel", "settle", "(I)V"⟩ ∈ gtb := gtb_in (List.mem_append_left _ (List.mem_of_getElem? (i := 79) rfl)) rfl
theorem q80 : Cond.selects "BlessLoanModel" ⟨"BlessLoanModel", "inner", "()I"⟩ ⟨"BlessLoanModel", "inner", "()I"⟩ ∈ gtb := gtb_in (List.mem_append_left _ (List.mem_of_getElem? (i := 80) rfl)) rfl
theorem q81 : Cond.selects "BlessLoanModel" ⟨"BlessLoanModel", "isCompared", "()Z"⟩ ⟨"BlessLoanModel", "isCompared", "()Z"⟩ ∈ gtb := gtb_in (List.mem_append_left _ (List.mem_of_getElem? (i := 81) rfl)) rfl
theorem q82 : Cond.selects "BlessLoanModel" ⟨"BlessLoanModel", "behindTest", "()I"⟩ ⟨"BlessLoanModel", "behindTest", "()I"⟩ ∈ gtb := gtb_in (List.mem_append_left _ (List.mem_of_getElem? (i := 82) rfl)) rfl
theorem q83 : Cond.selects "BlessLoanModel" ⟨"BlessLoanModel", "endText", "()V"⟩ ⟨"BlessLoanModel", "endText", "()V"⟩ ∈ gtb := gtb_in (List.mem_append_left _ (List.mem_of_getElem? (i := 83) rfl)) rfl
theorem q84 : Cond.selects "BlessLoanModel" ⟨"BlessLoanModel", "isLaw", "(I)Z"⟩ ⟨"BlessLoanModel", "isLaw", "(I)Z"⟩ ∈ gtb := gtb_in (List.mem_append_left _ (List.mem_of_getElem? (i := 84) rfl)) rfl
theorem q85 : Cond.selects "BlessLoanModel" ⟨"BlessLoanModel", "loanOf", "(II)I"⟩ ⟨"BlessLoanModel", "loanOf", "(II)I"⟩ ∈ gtb := gtb_in (List.mem_append_left _ (List.mem_of_getElem? (i := 85) rfl)) rfl
theorem q86 : Cond.selects "BlessLoanModel" ⟨"BlessLoanModel", "stepNow", "(II)I"⟩ ⟨"BlessLoanModel", "stepNow", "(II)I"⟩ ∈ gtb := gtb_in (List.mem_append_left _ (List.mem_of_getElem? (i := 86) rfl)) rfl
theorem q87 : Cond.selects "BlessLoanModel" ⟨"BlessLoanModel", "remember", "(I)V"⟩ ⟨"BlessLoanModel", "remember", "(I)V"⟩ ∈ gtb := gtb_in (List.mem_append_left _ (List.mem_of_getElem? (i := 87) rfl)) rfl
theorem q88 : Cond.selects "BlessLoanModel" ⟨"BlessLoanModel", "keepAll", "(I)V"⟩ ⟨"BlessLoanModel", "keepAll", "(I)V"⟩ ∈ gtb := gtb_in (List.mem_append_left _ (List.mem_of_getElem? (i := 88) rfl)) rfl
theorem q89 : Cond.selects "BlessLoanModel" ⟨"BlessLoanModel", "sneezeNow", "(I)I"⟩ ⟨"BlessLoanModel", "sneezeNow", "(I)I"⟩ ∈ gtb := gtb_in (List.mem_append_left _ (List.mem_of_getElem? (i := 89) rfl)) rfl
theorem q90 : Cond.selects "BlessLoanModel" ⟨"BlessLoanModel", "sneezeIt", "(I)I"⟩ ⟨"BlessLoanModel", "sneezeIt", "(I)I"⟩ ∈ gtb := gtb_in (List.mem_append_left _ (List.mem_of_getElem? (i := 90) rfl)) rfl
theorem q91 : Cond.selects "BlessLoanModel" ⟨"BlessLoanModel", "forgiveNow", "(II)I"⟩ ⟨"BlessLoanModel", "forgiveNow", "(II)I"⟩ ∈ gtb := gtb_in (List.mem_append_left _ (List.mem_of_getElem? (i := 91) rfl)) rfl
theorem q92 : Cond.selects "BlessLoanModel" ⟨"BlessLoanModel", "layRing", "()Z"⟩ ⟨"BlessLoanModel", "layRing", "()Z"⟩ ∈ gtb := gtb_in (List.mem_append_left _ (List.mem_of_getElem? (i := 92) rfl)) rfl
theorem q93 : Cond.selects "BlessLoanModel" ⟨"BlessLoanModel", "findRing", "(II)Z"⟩ ⟨"BlessLoanModel", "findRing", "(II)Z"⟩ ∈ gtb := gtb_in (List.mem_append_left _ (List.mem_of_getElem? (i := 93) rfl)) rfl
theorem q94 : Cond.selects "BlessLoanModel" ⟨"BlessLoanModel", "isFresh", "(I)Z"⟩ ⟨"BlessLoanModel", "isFresh", "(I)Z"⟩ ∈ gtb := gtb_in (List.mem_append_left _ (List.mem_of_getElem? (i := 94) rfl)) rfl
theorem q95 : Cond.selects "BlessLoanModel" ⟨"BlessLoanModel", "clearNow", "()I"⟩ ⟨"BlessLoanModel", "clearNow", "()I"⟩ ∈ gtb := gtb_in (List.mem_append_left _ (List.mem_of_getElem? (i := 95) rfl)) rfl
theorem q96 : Cond.selects "BlessLoanModel" ⟨"BlessLoanModel", "passNow", "()I"⟩ ⟨"BlessLoanModel", "passNow", "()I"⟩ ∈ gtb := gtb_in (List.mem_append_left _ (List.mem_of_getElem? (i := 96) rfl)) rfl
theorem q97 : Cond.selects "BlessLoanModel" ⟨"BlessLoanModel", "gainAt", "(II)I"⟩ ⟨"BlessLoanModel", "gainAt", "(II)I"⟩ ∈ gtb := gtb_in (List.mem_append_left _ (List.mem_of_getElem? (i := 97) rfl)) rfl
theorem q98 : Cond.selects "BlessLoanModel" ⟨"BlessLoanModel", "gainOf", "(I)I"⟩ ⟨"BlessLoanModel", "gainOf", "(I)I"⟩ ∈ gtb := gtb_in (List.mem_append_left _ (List.mem_of_getElem? (i := 98) rfl)) rfl
theorem q99 : Cond.selects "BlessLoanModel" ⟨"BlessLoanModel", "standOf", "(I)I"⟩ ⟨"BlessLoanModel", "standOf", "(I)I"⟩ ∈ gtb := gtb_in (List.mem_append_left _ (List.mem_of_getElem? (i := 99) rfl)) rfl
theorem q100 : Cond.selects "BlessLoanModel" ⟨"BlessLoanModel", "gainsOfAll", "()I"⟩ ⟨"BlessLoanModel", "gainsOfAll", "()I"⟩ ∈ gtb := gtb_in (List.mem_append_left _ (List.mem_of_getElem? (i := 100) rfl)) rfl
theorem q101 : Cond.selects "BlessLoanModel" ⟨"BlessLoanModel", "findRound", "(II)I"⟩ ⟨"BlessLoanModel", "findRound", "(II)I"⟩ ∈ gtb := gtb_in (List.mem_append_left _ (List.mem_of_getElem? (i := 101) rfl)) rfl
theorem q102 : Cond.selects "BlessLoanModel" ⟨"BlessLoanModel", "isNew", "(I)Z"⟩ ⟨"BlessLoanModel", "isNew", "(I)Z"⟩ ∈ gtb := gtb_in (List.mem_append_left _ (List.mem_of_getElem? (i := 102) rfl)) rfl
theorem q103 : Cond.selects "BlessLoanModel" ⟨"BlessLoanModel", "stepsOf", "(II)I"⟩ ⟨"BlessLoanModel", "stepsOf", "(II)I"⟩ ∈ gtb := gtb_in (List.mem_append_left _ (List.mem_of_getElem? (i := 103) rfl)) rfl
theorem q104 : Cond.selects "BlessLoanModel" ⟨"BlessLoanModel", "layCan", "(I)I"⟩ ⟨"BlessLoanModel", "layCan", "(I)I"⟩ ∈ gtb := gtb_in (List.mem_append_left _ (List.mem_of_getElem? (i := 104) rfl)) rfl
theorem q105 : Cond.selects "BlessLoanModel" ⟨"BlessLoanModel", "isAsSeen", "()Z"⟩ ⟨"BlessLoanModel", "isAsSeen", "()Z"⟩ ∈ gtb := gtb_in (List.mem_append_left _ (List.mem_of_getElem? (i := 105) rfl)) rfl
theorem q106 : Cond.selects "BlessLoanModel" ⟨"BlessLoanModel", "readOrder", "()V"⟩ ⟨"BlessLoanModel", "readOrder", "()V"⟩ ∈ gtb := gtb_in (List.mem_append_left _ (List.mem_of_getElem? (i := 106) rfl)) rfl
theorem q107 : Cond.selects "BlessLoanModel" ⟨"BlessLoanModel", "readSum", "(I)V"⟩ ⟨"BlessLoanModel", "readSum", "(I)V"⟩ ∈ gtb := gtb_in (List.mem_append_left _ (List.mem_of_getElem? (i := 107) rfl)) rfl
theorem q108 : Cond.selects "BlessLoanModel" ⟨"BlessLoanModel", "run", "(I)I"⟩ ⟨"BlessLoanModel", "run", "(I)I"⟩ ∈ gtb := gtb_in (List.mem_append_left _ (List.mem_of_getElem? (i := 108) rfl)) rfl
theorem q109 : Cond.selects "BlessLoanModel" ⟨"BlessLoanModel", "sumOf", "(I)I"⟩ ⟨"BlessLoanModel", "sumOf", "(I)I"⟩ ∈ gtb := gtb_in (List.mem_append_left _ (List.mem_of_getElem? (i := 109) rfl)) rfl
theorem q110 : Cond.selects "BlessLoanModel" ⟨"BlessLoanModel", "act", "(III)I"⟩ ⟨"BlessLoanModel", "act", "(III)I"⟩ ∈ gtb := gtb_in (List.mem_append_left _ (List.mem_of_getElem? (i := 110) rfl)) rfl
theorem q111 : Cond.selects "BlessLoanModel" ⟨"BlessLoanModel", "giveBack", "(I)V"⟩ ⟨"BlessLoanModel", "giveBack", "(I)V"⟩ ∈ gtb := gtb_in (List.mem_append_left _ (List.mem_of_getElem? (i := 111) rfl)) rfl
theorem q112 : Cond.selects "BlessLoanModel" ⟨"BlessLoanModel", "draw", "(I)I"⟩ ⟨"BlessLoanModel", "draw", "(I)I"⟩ ∈ gtb := gtb_in (List.mem_append_left _ (List.mem_of_getElem? (i := 112) rfl)) rfl
theorem q113 : Cond.selects "BlessLoanModel" ⟨"BlessLoanModel", "maskedOnes", "()I"⟩ ⟨"BlessLoanModel", "maskedOnes", "()I"⟩ ∈ gtb := gtb_in (List.mem_append_left _ (List.mem_of_getElem? (i := 113) rfl)) rfl
theorem q114 : Cond.selects "BlessLoanModel" ⟨"BlessLoanModel", "owedByAll", "()I"⟩ ⟨"BlessLoanModel", "owedByAll", "()I"⟩ ∈ gtb := gtb_in (List.mem_append_left _ (List.mem_of_getElem? (i := 114) rfl)) rfl
theorem q116 : (Cond.initialized "BlessLoan") ∈ gtb := gtb_in (tin1 (List.mem_of_getElem? (i := 1) rfl)) rfl
theorem q117 : (Cond.initialized "BlessLoan$Town") ∈ gtb := gtb_in (tin1 (List.mem_of_getElem? (i := 2) rfl)) rfl
theorem q118 : (Cond.initialized "java/util/Arrays") ∈ gtb := gtb_in (tin1 (List.mem_of_getElem? (i := 3) rfl)) rfl
theorem q119 : (Cond.initialized "BlessLoan$Reader") ∈ gtb := gtb_in (tin1 (List.mem_of_getElem? (i := 4) rfl)) rfl
theorem q120 : (Cond.initialized "BlessLoan$Text") ∈ gtb := gtb_in (tin1 (List.mem_of_getElem? (i := 5) rfl)) rfl
theorem q121 : (Cond.initialized "java/lang/Math") ∈ gtb := gtb_in (tin1 (List.mem_of_getElem? (i := 6) rfl)) rfl
theorem q122 : (Cond.initialized "BlessLoan$Judge") ∈ gtb := gtb_in (tin1 (List.mem_of_getElem? (i := 7) rfl)) rfl
theorem q123 : (Cond.initialized "BlessLoan$Reckoner") ∈ gtb := gtb_in (tin1 (List.mem_of_getElem? (i := 8) rfl)) rfl
theorem q124 : (Cond.initialized "BlessLoan$Past") ∈ gtb := gtb_in (tin1 (List.mem_of_getElem? (i := 9) rfl)) rfl
theorem q125 : (Cond.initialized "BlessLoan$Rings") ∈ gtb := gtb_in (tin1 (List.mem_of_getElem? (i := 10) rfl)) rfl
theorem q126 : (Cond.initialized "BlessLoan$Deeds") ∈ gtb := gtb_in (tin1 (List.mem_of_getElem? (i := 11) rfl)) rfl
theorem q127 : (Cond.initialized "BlessLoan$Clerk") ∈ gtb := gtb_in (tin1 (List.mem_of_getElem? (i := 12) rfl)) rfl
theorem q128 : (Cond.initialized "BlessLoan$Planner") ∈ gtb := gtb_in (tin1 (List.mem_of_getElem? (i := 13) rfl)) rfl
theorem q129 : (Cond.initialized "BlessLoanModel") ∈ gtb := gtb_in (tin1 (List.mem_of_getElem? (i := 14) rfl)) rfl
theorem q134 : (Cond.initialized "java/lang/System") ∈ gtb := gtb_in (tin1 (List.mem_of_getElem? (i := 19) rfl)) rfl
theorem q135 : (Cond.initialized "java/lang/Integer") ∈ gtb := gtb_in (tin1 (List.mem_of_getElem? (i := 20) rfl)) rfl
theorem q136 : (Cond.initialized "BlessLoan$Draws") ∈ gtb := gtb_in (tin1 (List.mem_of_getElem? (i := 21) rfl)) rfl
theorem q137 : (Cond.classLink "BlessLoanLaw" (7 : Nat) "BlessLoan") ∈ gtb := gtb_in (tin1 (List.mem_of_getElem? (i := 22) rfl)) rfl
theorem q138 : (Cond.instantiable "BlessLoan" (17 : Nat)) ∈ gtb := gtb_in (tin1 (List.mem_of_getElem? (i := 23) rfl)) rfl
theorem q139 : (Cond.methodLink "BlessLoanLaw" (9 : Nat) ({ cls := "BlessLoan", name := "<init>", desc := "()V" } : MethodName)) ∈ gtb := gtb_in (tin1 (List.mem_of_getElem? (i := 24) rfl)) rfl
theorem q140 : (Cond.instanceMethod ({ cls := "BlessLoan", name := "<init>", desc := "()V" } : MethodName)) ∈ gtb := gtb_in (tin1 (List.mem_of_getElem? (i := 25) rfl)) rfl
theorem q141 : (Cond.code ({ cls := "BlessLoan", name := "<init>", desc := "()V" } : MethodName) prog_1_method_1_code (1 : Nat) (Option.none : Option FieldType)) ∈ gtb := gtb_in (tin1 (List.mem_of_getElem? (i := 26) rfl)) rfl
theorem q142 : (Cond.methodLink "BlessLoan" (1 : Nat) ({ cls := "java/lang/Object", name := "<init>", desc := "()V" } : MethodName)) ∈ gtb := gtb_in (tin1 (List.mem_of_getElem? (i := 27) rfl)) rfl
theorem q143 : (Cond.instanceMethod ({ cls := "java/lang/Object", name := "<init>", desc := "()V" } : MethodName)) ∈ gtb := gtb_in (tin1 (List.mem_of_getElem? (i := 28) rfl)) rfl
theorem q144 : (Cond.code ({ cls := "java/lang/Object", name := "<init>", desc := "()V" } : MethodName) object_method_1_code (1 : Nat) (Option.none : Option FieldType)) ∈ gtb := gtb_in (tin1 (List.mem_of_getElem? (i := 29) rfl)) rfl
theorem q145 : (Cond.classLink "BlessLoan" (7 : Nat) "BlessLoan$Town") ∈ gtb := gtb_in (tin1 (List.mem_of_getElem? (i := 30) rfl)) rfl
theorem q146 : (Cond.instantiable "BlessLoan$Town" (15 : Nat)) ∈ gtb := gtb_in (tin1 (List.mem_of_getElem? (i := 31) rfl)) rfl
theorem q147 : (Cond.methodLink "BlessLoan" (9 : Nat) ({ cls := "BlessLoan$Town", name := "<init>", desc := "()V" } : MethodName)) ∈ gtb := gtb_in (tin1 (List.mem_of_getElem? (i := 32) rfl)) rfl
theorem q148 : (Cond.instanceMethod ({ cls := "BlessLoan$Town", name := "<init>", desc := "()V" } : MethodName)) ∈ gtb := gtb_in (tin1 (List.mem_of_getElem? (i := 33) rfl)) rfl
theorem q149 : (Cond.code ({ cls := "BlessLoan$Town", name := "<init>", desc := "()V" } : MethodName) prog_12_method_1_code (1 : Nat) (Option.none : Option FieldType)) ∈ gtb := gtb_in (tin1 (List.mem_of_getElem? (i := 34) rfl)) rfl
theorem q150 : (Cond.methodLink "BlessLoan$Town" (3 : Nat) ({ cls := "java/lang/Object", name := "<init>", desc := "()V" } : MethodName)) ∈ gtb := gtb_in (tin1 (List.mem_of_getElem? (i := 35) rfl)) rfl
theorem q151 : (Cond.classLink "BlessLoan$Town" (42 : Nat) "BlessLoan$Text") ∈ gtb := gtb_in (tin1 (List.mem_of_getElem? (i := 36) rfl)) rfl
theorem q153 : (Cond.methodLink "BlessLoan$Town" (61 : Nat) ({ cls := "java/util/Arrays", name := "fill", desc := "([II)V" } : MethodName)) ∈ gtb := gtb_in (tin1 (List.mem_of_getElem? (i := 38) rfl)) rfl
theorem q154 : (Cond.static ({ cls := "java/util/Arrays", name := "fill", desc := "([II)V" } : MethodName)) ∈ gtb := gtb_in (tin1 (List.mem_of_getElem? (i := 39) rfl)) rfl
theorem q155 : (Cond.code ({ cls := "java/util/Arrays", name := "fill", desc := "([II)V" } : MethodName) prog_21_method_103_code (4 : Nat) (Option.none : Option FieldType)) ∈ gtb := gtb_in (tin1 (List.mem_of_getElem? (i := 40) rfl)) rfl
theorem q156 : (Cond.fieldLink "BlessLoan$Town" (9 : Nat) "BlessLoan$Town" "dust" "[I") ∈ gtb := gtb_in (tin1 (List.mem_of_getElem? (i := 41) rfl)) rfl
theorem q157 : (Cond.fieldLink "BlessLoan" (111 : Nat) "BlessLoan$Town" "dust" "[I") ∈ gtb := gtb_in (tin1 (List.mem_of_getElem? (i := 42) rfl)) rfl
theorem q158 : (Cond.fieldLink "BlessLoan$Judge" (51 : Nat) "BlessLoan$Town" "dust" "[I") ∈ gtb := gtb_in (tin1 (List.mem_of_getElem? (i := 43) rfl)) rfl
theorem q159 : (Cond.fieldLink "BlessLoan$Town" (15 : Nat) "BlessLoan$Town" "place" "[I") ∈ gtb := gtb_in (tin1 (List.mem_of_getElem? (i := 44) rfl)) rfl
theorem q160 : (Cond.fieldLink "BlessLoan$Deeds" (36 : Nat) "BlessLoan$Town" "place" "[I") ∈ gtb := gtb_in (tin1 (List.mem_of_getElem? (i := 45) rfl)) rfl
theorem q161 : (Cond.fieldLink "BlessLoan$Judge" (54 : Nat) "BlessLoan$Town" "place" "[I") ∈ gtb := gtb_in (tin1 (List.mem_of_getElem? (i := 46) rfl)) rfl
theorem q162 : (Cond.fieldLink "BlessLoan$Clerk" (65 : Nat) "BlessLoan$Town" "place" "[I") ∈ gtb := gtb_in (tin1 (List.mem_of_getElem? (i := 47) rfl)) rfl
theorem q163 : (Cond.fieldLink "BlessLoan$Draws" (43 : Nat) "BlessLoan$Town" "place" "[I") ∈ gtb := gtb_in (tin1 (List.mem_of_getElem? (i := 48) rfl)) rfl
theorem q164 : (Cond.fieldLink "BlessLoan$Planner" (90 : Nat) "BlessLoan$Town" "place" "[I") ∈ gtb := gtb_in (tin1 (List.mem_of_getElem? (i := 49) rfl)) rfl
theorem q165 : (Cond.fieldLink "BlessLoan" (140 : Nat) "BlessLoan$Town" "place" "[I") ∈ gtb := gtb_in (tin1 (List.mem_of_getElem? (i := 50) rfl)) rfl
theorem q166 : (Cond.fieldLink "BlessLoan$Town" (18 : Nat) "BlessLoan$Town" "age" "[I") ∈ gtb := gtb_in (tin1 (List.mem_of_getElem? (i := 51) rfl)) rfl
theorem q167 : (Cond.fieldLink "BlessLoan" (143 : Nat) "BlessLoan$Town" "age" "[I") ∈ gtb := gtb_in (tin1 (List.mem_of_getElem? (i := 52) rfl)) rfl
theorem q168 : (Cond.fieldLink "BlessLoan$Judge" (108 : Nat) "BlessLoan$Town" "age" "[I") ∈ gtb := gtb_in (tin1 (List.mem_of_getElem? (i := 53) rfl)) rfl
theorem q169 : (Cond.fieldLink "BlessLoan$Town" (21 : Nat) "BlessLoan$Town" "ears" "[I") ∈ gtb := gtb_in (tin1 (List.mem_of_getElem? (i := 54) rfl)) rfl
theorem q170 : (Cond.fieldLink "BlessLoan$Judge" (66 : Nat) "BlessLoan$Town" "ears" "[I") ∈ gtb := gtb_in (tin1 (List.mem_of_getElem? (i := 55) rfl)) rfl
theorem q171 : (Cond.fieldLink "BlessLoan" (146 : Nat) "BlessLoan$Town" "ears" "[I") ∈ gtb := gtb_in (tin1 (List.mem_of_getElem? (i := 56) rfl)) rfl
theorem q172 : (Cond.fieldLink "BlessLoan$Town" (24 : Nat) "BlessLoan$Town" "cold" "[I") ∈ gtb := gtb_in (tin1 (List.mem_of_getElem? (i := 57) rfl)) rfl
theorem q173 : (Cond.fieldLink "BlessLoan$Judge" (57 : Nat) "BlessLoan$Town" "cold" "[I") ∈ gtb := gtb_in (tin1 (List.mem_of_getElem? (i := 58) rfl)) rfl
theorem q174 : (Cond.fieldLink "BlessLoan" (149 : Nat) "BlessLoan$Town" "cold" "[I") ∈ gtb := gtb_in (tin1 (List.mem_of_getElem? (i := 59) rfl)) rfl
theorem q175 : (Cond.fieldLink "BlessLoan$Town" (27 : Nat) "BlessLoan$Town" "masked" "[I") ∈ gtb := gtb_in (tin1 (List.mem_of_getElem? (i := 60) rfl)) rfl
theorem q176 : (Cond.fieldLink "BlessLoan$Judge" (40 : Nat) "BlessLoan$Town" "masked" "[I") ∈ gtb := gtb_in (tin1 (List.mem_of_getElem? (i := 61) rfl)) rfl
theorem q177 : (Cond.fieldLink "BlessLoan$Planner" (93 : Nat) "BlessLoan$Town" "masked" "[I") ∈ gtb := gtb_in (tin1 (List.mem_of_getElem? (i := 62) rfl)) rfl
theorem q178 : (Cond.fieldLink "BlessLoan" (152 : Nat) "BlessLoan$Town" "masked" "[I") ∈ gtb := gtb_in (tin1 (List.mem_of_getElem? (i := 63) rfl)) rfl
theorem q179 : (Cond.fieldLink "BlessLoan$Town" (30 : Nat) "BlessLoan$Town" "owed" "[I") ∈ gtb := gtb_in (tin1 (List.mem_of_getElem? (i := 64) rfl)) rfl
theorem q180 : (Cond.fieldLink "BlessLoan$Rings" (25 : Nat) "BlessLoan$Town" "owed" "[I") ∈ gtb := gtb_in (tin1 (List.mem_of_getElem? (i := 65) rfl)) rfl
theorem q181 : (Cond.fieldLink "BlessLoan$Deeds" (58 : Nat) "BlessLoan$Town" "owed" "[I") ∈ gtb := gtb_in (tin1 (List.mem_of_getElem? (i := 66) rfl)) rfl
theorem q182 : (Cond.fieldLink "BlessLoan" (169 : Nat) "BlessLoan$Town" "owed" "[I") ∈ gtb := gtb_in (tin1 (List.mem_of_getElem? (i := 67) rfl)) rfl
theorem q183 : (Cond.fieldLink "BlessLoan$Planner" (137 : Nat) "BlessLoan$Town" "owed" "[I") ∈ gtb := gtb_in (tin1 (List.mem_of_getElem? (i := 68) rfl)) rfl
theorem q184 : (Cond.fieldLink "BlessLoan$Town" (33 : Nat) "BlessLoan$Town" "terms" "[I") ∈ gtb := gtb_in (tin1 (List.mem_of_getElem? (i := 69) rfl)) rfl
theorem q185 : (Cond.fieldLink "BlessLoan$Clerk" (56 : Nat) "BlessLoan$Town" "terms" "[I") ∈ gtb := gtb_in (tin1 (List.mem_of_getElem? (i := 70) rfl)) rfl
theorem q186 : (Cond.fieldLink "BlessLoan$Draws" (21 : Nat) "BlessLoan$Town" "terms" "[I") ∈ gtb := gtb_in (tin1 (List.mem_of_getElem? (i := 71) rfl)) rfl
theorem q187 : (Cond.fieldLink "BlessLoan$Deeds" (84 : Nat) "BlessLoan$Town" "terms" "[I") ∈ gtb := gtb_in (tin1 (List.mem_of_getElem? (i := 72) rfl)) rfl
theorem q188 : (Cond.fieldLink "BlessLoan$Judge" (111 : Nat) "BlessLoan$Town" "terms" "[I") ∈ gtb := gtb_in (tin1 (List.mem_of_getElem? (i := 73) rfl)) rfl
theorem q189 : (Cond.fieldLink "BlessLoan" (179 : Nat) "BlessLoan$Town" "terms" "[I") ∈ gtb := gtb_in (tin1 (List.mem_of_getElem? (i := 74) rfl)) rfl
theorem q190 : (Cond.fieldLink "BlessLoan$Town" (36 : Nat) "BlessLoan$Town" "seenWho" "[I") ∈ gtb := gtb_in (tin1 (List.mem_of_getElem? (i := 75) rfl)) rfl
theorem q191 : (Cond.fieldLink "BlessLoan$Planner" (176 : Nat) "BlessLoan$Town" "seenWho" "[I") ∈ gtb := gtb_in (tin1 (List.mem_of_getElem? (i := 76) rfl)) rfl
theorem q192 : (Cond.fieldLink "BlessLoan" (310 : Nat) "BlessLoan$Town" "seenWho" "[I") ∈ gtb := gtb_in (tin1 (List.mem_of_getElem? (i := 77) rfl)) rfl
theorem q193 : (Cond.fieldLink "BlessLoan$Town" (39 : Nat) "BlessLoan$Town" "seenBy" "[I") ∈ gtb := gtb_in (tin1 (List.mem_of_getElem? (i := 78) rfl)) rfl
theorem q194 : (Cond.fieldLink "BlessLoan$Planner" (182 : Nat) "BlessLoan$Town" "seenBy" "[I") ∈ gtb := gtb_in (tin1 (List.mem_of_getElem? (i := 79) rfl)) rfl
theorem q195 : (Cond.fieldLink "BlessLoan" (313 : Nat) "BlessLoan$Town" "seenBy" "[I") ∈ gtb := gtb_in (tin1 (List.mem_of_getElem? (i := 80) rfl)) rfl
theorem q196 : (Cond.fieldLink "BlessLoan$Town" (44 : Nat) "BlessLoan$Town" "laws" "[LBlessLoan$Text;") ∈ gtb := gtb_in (tin1 (List.mem_of_getElem? (i := 81) rfl)) rfl
theorem q197 : (Cond.fieldLink "BlessLoan" (199 : Nat) "BlessLoan$Town" "laws" "[LBlessLoan$Text;") ∈ gtb := gtb_in (tin1 (List.mem_of_getElem? (i := 82) rfl)) rfl
theorem q198 : (Cond.fieldLink "BlessLoan$Town" (48 : Nat) "BlessLoan$Town" "people" "I") ∈ gtb := gtb_in (tin1 (List.mem_of_getElem? (i := 83) rfl)) rfl
theorem q199 : (Cond.fieldLink "BlessLoan$Rings" (15 : Nat) "BlessLoan$Town" "people" "I") ∈ gtb := gtb_in (tin1 (List.mem_of_getElem? (i := 84) rfl)) rfl
theorem q200 : (Cond.fieldLink "BlessLoan$Planner" (79 : Nat) "BlessLoan$Town" "people" "I") ∈ gtb := gtb_in (tin1 (List.mem_of_getElem? (i := 85) rfl)) rfl
theorem q201 : (Cond.fieldLink "BlessLoan$Draws" (27 : Nat) "BlessLoan$Town" "people" "I") ∈ gtb := gtb_in (tin1 (List.mem_of_getElem? (i := 86) rfl)) rfl
theorem q202 : (Cond.fieldLink "BlessLoan" (127 : Nat) "BlessLoan$Town" "people" "I") ∈ gtb := gtb_in (tin1 (List.mem_of_getElem? (i := 87) rfl)) rfl
theorem q203 : (Cond.fieldLink "BlessLoan$Judge" (114 : Nat) "BlessLoan$Town" "people" "I") ∈ gtb := gtb_in (tin1 (List.mem_of_getElem? (i := 88) rfl)) rfl
theorem q204 : (Cond.fieldLink "BlessLoan$Town" (52 : Nat) "BlessLoan$Town" "seenCount" "I") ∈ gtb := gtb_in (tin1 (List.mem_of_getElem? (i := 89) rfl)) rfl
theorem q205 : (Cond.fieldLink "BlessLoan$Planner" (173 : Nat) "BlessLoan$Town" "seenCount" "I") ∈ gtb := gtb_in (tin1 (List.mem_of_getElem? (i := 90) rfl)) rfl
theorem q206 : (Cond.fieldLink "BlessLoan" (307 : Nat) "BlessLoan$Town" "seenCount" "I") ∈ gtb := gtb_in (tin1 (List.mem_of_getElem? (i := 91) rfl)) rfl
theorem q207 : (Cond.fieldLink "BlessLoan$Town" (55 : Nat) "BlessLoan$Town" "lawCount" "I") ∈ gtb := gtb_in (tin1 (List.mem_of_getElem? (i := 92) rfl)) rfl
theorem q208 : (Cond.fieldLink "BlessLoan" (192 : Nat) "BlessLoan$Town" "lawCount" "I") ∈ gtb := gtb_in (tin1 (List.mem_of_getElem? (i := 93) rfl)) rfl
theorem q209 : (Cond.fieldLink "BlessLoan$Town" (58 : Nat) "BlessLoan$Town" "inForce" "I") ∈ gtb := gtb_in (tin1 (List.mem_of_getElem? (i := 94) rfl)) rfl
theorem q210 : (Cond.fieldLink "BlessLoan" (229 : Nat) "BlessLoan$Town" "inForce" "I") ∈ gtb := gtb_in (tin1 (List.mem_of_getElem? (i := 95) rfl)) rfl
theorem q242 : (Cond.arrayClass FieldType.int) ∈ gtb := gtb_in (tin1 (List.mem_of_getElem? (i := 127) rfl)) rfl
theorem q244 : (Cond.classLink "BlessLoan" (26 : Nat) "BlessLoan$Reader") ∈ gtb := gtb_in (tin1 (List.mem_of_getElem? (i := 129) rfl)) rfl
theorem q245 : (Cond.instantiable "BlessLoan$Reader" (9 : Nat)) ∈ gtb := gtb_in (tin1 (List.mem_of_getElem? (i := 130) rfl)) rfl
theorem q247 : (Cond.instanceMethod ({ cls := "BlessLoan$Reader", name := "<init>", desc := "()V" } : MethodName)) ∈ gtb := gtb_in (tin1 (List.mem_of_getElem? (i := 132) rfl)) rfl
theorem q248 : (Cond.code ({ cls := "BlessLoan$Reader", name := "<init>", desc := "()V" } : MethodName) prog_8_method_1_code (1 : Nat) (Option.none : Option FieldType)) ∈ gtb := gtb_in (tin1 (List.mem_of_getElem? (i := 133) rfl)) rfl
theorem q249 : (Cond.methodLink "BlessLoan$Reader" (3 : Nat) ({ cls := "java/lang/Object", name := "<init>", desc := "()V" } : MethodName)) ∈ gtb := gtb_in (tin1 (List.mem_of_getElem? (i := 134) rfl)) rfl
theorem q250 : (Cond.classLink "BlessLoan$Reader" (15 : Nat) "BlessLoan$Text") ∈ gtb := gtb_in (tin1 (List.mem_of_getElem? (i := 135) rfl)) rfl
theorem q251 : (Cond.instantiable "BlessLoan$Text" (10 : Nat)) ∈ gtb := gtb_in (tin1 (List.mem_of_getElem? (i := 136) rfl)) rfl
theorem q252 : (Cond.methodLink "BlessLoan$Reader" (17 : Nat) ({ cls := "BlessLoan$Text", name := "<init>", desc := "(II)V" } : MethodName)) ∈ gtb := gtb_in (tin1 (List.mem_of_getElem? (i := 137) rfl)) rfl
theorem q253 : (Cond.instanceMethod ({ cls := "BlessLoan$Text", name := "<init>", desc := "(II)V" } : MethodName)) ∈ gtb := gtb_in (tin1 (List.mem_of_getElem? (i := 138) rfl)) rfl
theorem q254 : (Cond.code ({ cls := "BlessLoan$Text", name := "<init>", desc := "(II)V" } : MethodName) prog_11_method_1_code (5 : Nat) (Option.none : Option FieldType)) ∈ gtb := gtb_in (tin1 (List.mem_of_getElem? (i := 139) rfl)) rfl
theorem q255 : (Cond.methodLink "BlessLoan$Text" (3 : Nat) ({ cls := "java/lang/Object", name := "<init>", desc := "()V" } : MethodName)) ∈ gtb := gtb_in (tin1 (List.mem_of_getElem? (i := 140) rfl)) rfl
theorem q256 : (Cond.methodLink "BlessLoan$Text" (18 : Nat) ({ cls := "java/lang/Math", name := "max", desc := "(II)I" } : MethodName)) ∈ gtb := gtb_in (tin1 (List.mem_of_getElem? (i := 141) rfl)) rfl
theorem q257 : (Cond.static ({ cls := "java/lang/Math", name := "max", desc := "(II)I" } : MethodName)) ∈ gtb := gtb_in (tin1 (List.mem_of_getElem? (i := 142) rfl)) rfl
theorem q258 : (Cond.code ({ cls := "java/lang/Math", name := "max", desc := "(II)I" } : MethodName) prog_16_method_65_code (2 : Nat) (Option.some FieldType.int)) ∈ gtb := gtb_in (tin1 (List.mem_of_getElem? (i := 143) rfl)) rfl
theorem q259 : (Cond.fieldLink "BlessLoan$Text" (24 : Nat) "BlessLoan$Text" "op" "[I") ∈ gtb := gtb_in (tin1 (List.mem_of_getElem? (i := 144) rfl)) rfl
theorem q260 : (Cond.fieldLink "BlessLoan$Reckoner" (25 : Nat) "BlessLoan$Text" "op" "[I") ∈ gtb := gtb_in (tin1 (List.mem_of_getElem? (i := 145) rfl)) rfl
theorem q261 : (Cond.fieldLink "BlessLoan$Text" (28 : Nat) "BlessLoan$Text" "arg" "[I") ∈ gtb := gtb_in (tin1 (List.mem_of_getElem? (i := 146) rfl)) rfl
theorem q262 : (Cond.fieldLink "BlessLoan$Reckoner" (29 : Nat) "BlessLoan$Text" "arg" "[I") ∈ gtb := gtb_in (tin1 (List.mem_of_getElem? (i := 147) rfl)) rfl
theorem q263 : (Cond.fieldLink "BlessLoan$Text" (31 : Nat) "BlessLoan$Text" "kind" "[I") ∈ gtb := gtb_in (tin1 (List.mem_of_getElem? (i := 148) rfl)) rfl
theorem q264 : (Cond.fieldLink "BlessLoan$Clerk" (85 : Nat) "BlessLoan$Text" "kind" "[I") ∈ gtb := gtb_in (tin1 (List.mem_of_getElem? (i := 149) rfl)) rfl
theorem q265 : (Cond.fieldLink "BlessLoan$Judge" (84 : Nat) "BlessLoan$Text" "kind" "[I") ∈ gtb := gtb_in (tin1 (List.mem_of_getElem? (i := 150) rfl)) rfl
theorem q266 : (Cond.fieldLink "BlessLoan$Reader" (91 : Nat) "BlessLoan$Text" "kind" "[I") ∈ gtb := gtb_in (tin1 (List.mem_of_getElem? (i := 151) rfl)) rfl
theorem q267 : (Cond.fieldLink "BlessLoan$Text" (34 : Nat) "BlessLoan$Text" "first" "[I") ∈ gtb := gtb_in (tin1 (List.mem_of_getElem? (i := 152) rfl)) rfl
theorem q268 : (Cond.fieldLink "BlessLoan$Clerk" (94 : Nat) "BlessLoan$Text" "first" "[I") ∈ gtb := gtb_in (tin1 (List.mem_of_getElem? (i := 153) rfl)) rfl
theorem q269 : (Cond.fieldLink "BlessLoan$Judge" (101 : Nat) "BlessLoan$Text" "first" "[I") ∈ gtb := gtb_in (tin1 (List.mem_of_getElem? (i := 154) rfl)) rfl
theorem q270 : (Cond.fieldLink "BlessLoan$Reader" (97 : Nat) "BlessLoan$Text" "first" "[I") ∈ gtb := gtb_in (tin1 (List.mem_of_getElem? (i := 155) rfl)) rfl
theorem q271 : (Cond.fieldLink "BlessLoan$Text" (37 : Nat) "BlessLoan$Text" "second" "[I") ∈ gtb := gtb_in (tin1 (List.mem_of_getElem? (i := 156) rfl)) rfl
theorem q272 : (Cond.fieldLink "BlessLoan$Clerk" (97 : Nat) "BlessLoan$Text" "second" "[I") ∈ gtb := gtb_in (tin1 (List.mem_of_getElem? (i := 157) rfl)) rfl
theorem q273 : (Cond.fieldLink "BlessLoan$Reader" (100 : Nat) "BlessLoan$Text" "second" "[I") ∈ gtb := gtb_in (tin1 (List.mem_of_getElem? (i := 158) rfl)) rfl
theorem q274 : (Cond.fieldLink "BlessLoan$Text" (40 : Nat) "BlessLoan$Text" "test" "[I") ∈ gtb := gtb_in (tin1 (List.mem_of_getElem? (i := 159) rfl)) rfl
theorem q275 : (Cond.fieldLink "BlessLoan$Clerk" (75 : Nat) "BlessLoan$Text" "test" "[I") ∈ gtb := gtb_in (tin1 (List.mem_of_getElem? (i := 160) rfl)) rfl
theorem q276 : (Cond.fieldLink "BlessLoan$Judge" (91 : Nat) "BlessLoan$Text" "test" "[I") ∈ gtb := gtb_in (tin1 (List.mem_of_getElem? (i := 161) rfl)) rfl
theorem q277 : (Cond.fieldLink "BlessLoan$Reader" (111 : Nat) "BlessLoan$Text" "test" "[I") ∈ gtb := gtb_in (tin1 (List.mem_of_getElem? (i := 162) rfl)) rfl
theorem q278 : (Cond.fieldLink "BlessLoan$Text" (43 : Nat) "BlessLoan$Text" "stop" "[I") ∈ gtb := gtb_in (tin1 (List.mem_of_getElem? (i := 163) rfl)) rfl
theorem q279 : (Cond.fieldLink "BlessLoan$Clerk" (78 : Nat) "BlessLoan$Text" "stop" "[I") ∈ gtb := gtb_in (tin1 (List.mem_of_getElem? (i := 164) rfl)) rfl
theorem q280 : (Cond.fieldLink "BlessLoan$Judge" (94 : Nat) "BlessLoan$Text" "stop" "[I") ∈ gtb := gtb_in (tin1 (List.mem_of_getElem? (i := 165) rfl)) rfl
theorem q281 : (Cond.fieldLink "BlessLoan$Reader" (123 : Nat) "BlessLoan$Text" "stop" "[I") ∈ gtb := gtb_in (tin1 (List.mem_of_getElem? (i := 166) rfl)) rfl
theorem q282 : (Cond.fieldLink "BlessLoan$Text" (46 : Nat) "BlessLoan$Text" "times" "[I") ∈ gtb := gtb_in (tin1 (List.mem_of_getElem? (i := 167) rfl)) rfl
theorem q283 : (Cond.fieldLink "BlessLoan$Clerk" (42 : Nat) "BlessLoan$Text" "times" "[I") ∈ gtb := gtb_in (tin1 (List.mem_of_getElem? (i := 168) rfl)) rfl
theorem q284 : (Cond.fieldLink "BlessLoan$Reader" (94 : Nat) "BlessLoan$Text" "times" "[I") ∈ gtb := gtb_in (tin1 (List.mem_of_getElem? (i := 169) rfl)) rfl
theorem q285 : (Cond.fieldLink "BlessLoan$Text" (9 : Nat) "BlessLoan$Text" "size" "I") ∈ gtb := gtb_in (tin1 (List.mem_of_getElem? (i := 170) rfl)) rfl
theorem q286 : (Cond.fieldLink "BlessLoan$Reckoner" (19 : Nat) "BlessLoan$Text" "size" "I") ∈ gtb := gtb_in (tin1 (List.mem_of_getElem? (i := 171) rfl)) rfl
theorem q287 : (Cond.fieldLink "BlessLoan$Reader" (47 : Nat) "BlessLoan$Text" "size" "I") ∈ gtb := gtb_in (tin1 (List.mem_of_getElem? (i := 172) rfl)) rfl
theorem q288 : (Cond.fieldLink "BlessLoan$Text" (15 : Nat) "BlessLoan$Text" "clauses" "I") ∈ gtb := gtb_in (tin1 (List.mem_of_getElem? (i := 173) rfl)) rfl
theorem q289 : (Cond.fieldLink "BlessLoan$Clerk" (37 : Nat) "BlessLoan$Text" "clauses" "I") ∈ gtb := gtb_in (tin1 (List.mem_of_getElem? (i := 174) rfl)) rfl
theorem q290 : (Cond.fieldLink "BlessLoan$Reader" (50 : Nat) "BlessLoan$Text" "clauses" "I") ∈ gtb := gtb_in (tin1 (List.mem_of_getElem? (i := 175) rfl)) rfl
theorem q291 : (Cond.fieldLink "BlessLoan$Judge" (78 : Nat) "BlessLoan$Text" "clauses" "I") ∈ gtb := gtb_in (tin1 (List.mem_of_getElem? (i := 176) rfl)) rfl
theorem q313 : (Cond.fieldLink "BlessLoan$Reader" (9 : Nat) "BlessLoan$Reader" "tape" "[I") ∈ gtb := gtb_in (tin1 (List.mem_of_getElem? (i := 198) rfl)) rfl
theorem q314 : (Cond.fieldLink "BlessLoan" (362 : Nat) "BlessLoan$Reader" "tape" "[I") ∈ gtb := gtb_in (tin1 (List.mem_of_getElem? (i := 199) rfl)) rfl
theorem q315 : (Cond.fieldLink "BlessLoan$Reader" (20 : Nat) "BlessLoan$Reader" "text" "LBlessLoan$Text;") ∈ gtb := gtb_in (tin1 (List.mem_of_getElem? (i := 200) rfl)) rfl
theorem q316 : (Cond.fieldLink "BlessLoan" (203 : Nat) "BlessLoan$Reader" "text" "LBlessLoan$Text;") ∈ gtb := gtb_in (tin1 (List.mem_of_getElem? (i := 201) rfl)) rfl
theorem q317 : (Cond.fieldLink "BlessLoan$Reader" (24 : Nat) "BlessLoan$Reader" "length" "I") ∈ gtb := gtb_in (tin1 (List.mem_of_getElem? (i := 202) rfl)) rfl
theorem q318 : (Cond.fieldLink "BlessLoan" (182 : Nat) "BlessLoan$Reader" "length" "I") ∈ gtb := gtb_in (tin1 (List.mem_of_getElem? (i := 203) rfl)) rfl
theorem q319 : (Cond.fieldLink "BlessLoan$Reader" (28 : Nat) "BlessLoan$Reader" "start" "I") ∈ gtb := gtb_in (tin1 (List.mem_of_getElem? (i := 204) rfl)) rfl
theorem q320 : (Cond.fieldLink "BlessLoan" (359 : Nat) "BlessLoan$Reader" "start" "I") ∈ gtb := gtb_in (tin1 (List.mem_of_getElem? (i := 205) rfl)) rfl
theorem q321 : (Cond.fieldLink "BlessLoan$Reader" (31 : Nat) "BlessLoan$Reader" "stop" "I") ∈ gtb := gtb_in (tin1 (List.mem_of_getElem? (i := 206) rfl)) rfl
theorem q322 : (Cond.fieldLink "BlessLoan$Reader" (34 : Nat) "BlessLoan$Reader" "sort" "I") ∈ gtb := gtb_in (tin1 (List.mem_of_getElem? (i := 207) rfl)) rfl
theorem q323 : (Cond.fieldLink "BlessLoan$Reader" (37 : Nat) "BlessLoan$Reader" "parts" "I") ∈ gtb := gtb_in (tin1 (List.mem_of_getElem? (i := 208) rfl)) rfl
theorem q324 : (Cond.fieldLink "BlessLoan$Reader" (40 : Nat) "BlessLoan$Reader" "brackets" "I") ∈ gtb := gtb_in (tin1 (List.mem_of_getElem? (i := 209) rfl)) rfl
theorem q325 : (Cond.fieldLink "BlessLoan$Reader" (43 : Nat) "BlessLoan$Reader" "asOrders" "Z") ∈ gtb := gtb_in (tin1 (List.mem_of_getElem? (i := 210) rfl)) rfl
theorem q345 : (Cond.classLink "BlessLoan" (33 : Nat) "BlessLoan$Judge") ∈ gtb := gtb_in (tin1 (List.mem_of_getElem? (i := 230) rfl)) rfl
theorem q346 : (Cond.instantiable "BlessLoan$Judge" (5 : Nat)) ∈ gtb := gtb_in (tin1 (List.mem_of_getElem? (i := 231) rfl)) rfl
theorem q347 : (Cond.methodLink "BlessLoan" (35 : Nat) ({ cls := "BlessLoan$Judge", name := "<init>", desc := "(LBlessLoan$Town;)V" } : MethodName)) ∈ gtb := gtb_in (tin1 (List.mem_of_getElem? (i := 232) rfl)) rfl
theorem q348 : (Cond.instanceMethod ({ cls := "BlessLoan$Judge", name := "<init>", desc := "(LBlessLoan$Town;)V" } : MethodName)) ∈ gtb := gtb_in (tin1 (List.mem_of_getElem? (i := 233) rfl)) rfl
theorem q349 : (Cond.code ({ cls := "BlessLoan$Judge", name := "<init>", desc := "(LBlessLoan$Town;)V" } : MethodName) prog_5_method_1_code (2 : Nat) (Option.none : Option FieldType)) ∈ gtb := gtb_in (tin1 (List.mem_of_getElem? (i := 234) rfl)) rfl
theorem q350 : (Cond.methodLink "BlessLoan$Judge" (3 : Nat) ({ cls := "java/lang/Object", name := "<init>", desc := "()V" } : MethodName)) ∈ gtb := gtb_in (tin1 (List.mem_of_getElem? (i := 235) rfl)) rfl
theorem q351 : (Cond.classLink "BlessLoan$Judge" (9 : Nat) "BlessLoan$Reckoner") ∈ gtb := gtb_in (tin1 (List.mem_of_getElem? (i := 236) rfl)) rfl
theorem q352 : (Cond.instantiable "BlessLoan$Reckoner" (2 : Nat)) ∈ gtb := gtb_in (tin1 (List.mem_of_getElem? (i := 237) rfl)) rfl
theorem q354 : (Cond.instanceMethod ({ cls := "BlessLoan$Reckoner", name := "<init>", desc := "()V" } : MethodName)) ∈ gtb := gtb_in (tin1 (List.mem_of_getElem? (i := 239) rfl)) rfl
theorem q355 : (Cond.code ({ cls := "BlessLoan$Reckoner", name := "<init>", desc := "()V" } : MethodName) prog_9_method_1_code (1 : Nat) (Option.none : Option FieldType)) ∈ gtb := gtb_in (tin2 (List.mem_of_getElem? (i := 0) rfl)) rfl
theorem q356 : (Cond.methodLink "BlessLoan$Reckoner" (3 : Nat) ({ cls := "java/lang/Object", name := "<init>", desc := "()V" } : MethodName)) ∈ gtb := gtb_in (tin2 (List.mem_of_getElem? (i := 1) rfl)) rfl
theorem q357 : (Cond.fieldLink "BlessLoan$Reckoner" (11 : Nat) "BlessLoan$Reckoner" "stack" "[J") ∈ gtb := gtb_in (tin2 (List.mem_of_getElem? (i := 2) rfl)) rfl
theorem q358 : (Cond.fieldLink "BlessLoan$Reckoner" (15 : Nat) "BlessLoan$Reckoner" "broken" "Z") ∈ gtb := gtb_in (tin2 (List.mem_of_getElem? (i := 3) rfl)) rfl
theorem q359 : (Cond.fieldLink "BlessLoan$Clerk" (100 : Nat) "BlessLoan$Reckoner" "broken" "Z") ∈ gtb := gtb_in (tin2 (List.mem_of_getElem? (i := 4) rfl)) rfl
theorem q360 : (Cond.fieldLink "BlessLoan$Judge" (104 : Nat) "BlessLoan$Reckoner" "broken" "Z") ∈ gtb := gtb_in (tin2 (List.mem_of_getElem? (i := 5) rfl)) rfl
theorem q366 : (Cond.arrayClass FieldType.long) ∈ gtb := gtb_in (tin2 (List.mem_of_getElem? (i := 11) rfl)) rfl
theorem q367 : (Cond.fieldLink "BlessLoan$Judge" (12 : Nat) "BlessLoan$Judge" "reckoner" "LBlessLoan$Reckoner;") ∈ gtb := gtb_in (tin2 (List.mem_of_getElem? (i := 12) rfl)) rfl
theorem q368 : (Cond.fieldLink "BlessLoan$Judge" (18 : Nat) "BlessLoan$Judge" "words" "[I") ∈ gtb := gtb_in (tin2 (List.mem_of_getElem? (i := 13) rfl)) rfl
theorem q369 : (Cond.fieldLink "BlessLoan$Judge" (30 : Nat) "BlessLoan$Judge" "town" "LBlessLoan$Town;") ∈ gtb := gtb_in (tin2 (List.mem_of_getElem? (i := 14) rfl)) rfl
theorem q370 : (Cond.fieldLink "BlessLoan$Judge" (22 : Nat) "BlessLoan$Judge" "law" "LBlessLoan$Text;") ∈ gtb := gtb_in (tin2 (List.mem_of_getElem? (i := 15) rfl)) rfl
theorem q371 : (Cond.fieldLink "BlessLoan$Judge" (26 : Nat) "BlessLoan$Judge" "told" "J") ∈ gtb := gtb_in (tin2 (List.mem_of_getElem? (i := 16) rfl)) rfl
theorem q383 : (Cond.classLink "BlessLoan" (42 : Nat) "BlessLoan$Past") ∈ gtb := gtb_in (tin2 (List.mem_of_getElem? (i := 28) rfl)) rfl
theorem q384 : (Cond.instantiable "BlessLoan$Past" (2 : Nat)) ∈ gtb := gtb_in (tin2 (List.mem_of_getElem? (i := 29) rfl)) rfl
theorem q386 : (Cond.instanceMethod ({ cls := "BlessLoan$Past", name := "<init>", desc := "()V" } : MethodName)) ∈ gtb := gtb_in (tin2 (List.mem_of_getElem? (i := 31) rfl)) rfl
theorem q387 : (Cond.code ({ cls := "BlessLoan$Past", name := "<init>", desc := "()V" } : MethodName) prog_6_method_1_code (1 : Nat) (Option.none : Option FieldType)) ∈ gtb := gtb_in (tin2 (List.mem_of_getElem? (i := 32) rfl)) rfl
theorem q388 : (Cond.methodLink "BlessLoan$Past" (3 : Nat) ({ cls := "java/lang/Object", name := "<init>", desc := "()V" } : MethodName)) ∈ gtb := gtb_in (tin2 (List.mem_of_getElem? (i := 33) rfl)) rfl
theorem q389 : (Cond.fieldLink "BlessLoan$Past" (11 : Nat) "BlessLoan$Past" "rows" "[I") ∈ gtb := gtb_in (tin2 (List.mem_of_getElem? (i := 34) rfl)) rfl
theorem q390 : (Cond.fieldLink "BlessLoan$Deeds" (78 : Nat) "BlessLoan$Past" "rows" "[I") ∈ gtb := gtb_in (tin2 (List.mem_of_getElem? (i := 35) rfl)) rfl
theorem q391 : (Cond.fieldLink "BlessLoan$Past" (15 : Nat) "BlessLoan$Past" "size" "I") ∈ gtb := gtb_in (tin2 (List.mem_of_getElem? (i := 36) rfl)) rfl
theorem q392 : (Cond.fieldLink "BlessLoan" (114 : Nat) "BlessLoan$Past" "size" "I") ∈ gtb := gtb_in (tin2 (List.mem_of_getElem? (i := 37) rfl)) rfl
theorem q393 : (Cond.fieldLink "BlessLoan$Deeds" (87 : Nat) "BlessLoan$Past" "size" "I") ∈ gtb := gtb_in (tin2 (List.mem_of_getElem? (i := 38) rfl)) rfl
theorem q399 : (Cond.classLink "BlessLoan" (52 : Nat) "BlessLoan$Rings") ∈ gtb := gtb_in (tin2 (List.mem_of_getElem? (i := 44) rfl)) rfl
theorem q400 : (Cond.instantiable "BlessLoan$Rings" (1 : Nat)) ∈ gtb := gtb_in (tin2 (List.mem_of_getElem? (i := 45) rfl)) rfl
theorem q402 : (Cond.instanceMethod ({ cls := "BlessLoan$Rings", name := "<init>", desc := "()V" } : MethodName)) ∈ gtb := gtb_in (tin2 (List.mem_of_getElem? (i := 47) rfl)) rfl
theorem q403 : (Cond.code ({ cls := "BlessLoan$Rings", name := "<init>", desc := "()V" } : MethodName) prog_10_method_1_code (1 : Nat) (Option.none : Option FieldType)) ∈ gtb := gtb_in (tin2 (List.mem_of_getElem? (i := 48) rfl)) rfl
theorem q404 : (Cond.methodLink "BlessLoan$Rings" (3 : Nat) ({ cls := "java/lang/Object", name := "<init>", desc := "()V" } : MethodName)) ∈ gtb := gtb_in (tin2 (List.mem_of_getElem? (i := 49) rfl)) rfl
theorem q405 : (Cond.fieldLink "BlessLoan$Rings" (9 : Nat) "BlessLoan$Rings" "row" "[I") ∈ gtb := gtb_in (tin2 (List.mem_of_getElem? (i := 50) rfl)) rfl
theorem q406 : (Cond.fieldLink "BlessLoan$Deeds" (81 : Nat) "BlessLoan$Rings" "row" "[I") ∈ gtb := gtb_in (tin2 (List.mem_of_getElem? (i := 51) rfl)) rfl
theorem q407 : (Cond.fieldLink "BlessLoan" (264 : Nat) "BlessLoan$Rings" "row" "[I") ∈ gtb := gtb_in (tin2 (List.mem_of_getElem? (i := 52) rfl)) rfl
theorem q411 : (Cond.classLink "BlessLoan" (59 : Nat) "BlessLoan$Deeds") ∈ gtb := gtb_in (tin2 (List.mem_of_getElem? (i := 56) rfl)) rfl
theorem q412 : (Cond.instantiable "BlessLoan$Deeds" (4 : Nat)) ∈ gtb := gtb_in (tin2 (List.mem_of_getElem? (i := 57) rfl)) rfl
theorem q413 : (Cond.methodLink "BlessLoan" (61 : Nat) ({ cls := "BlessLoan$Deeds", name := "<init>", desc := "(LBlessLoan$Town;LBlessLoan$Judge;LBlessLoan$Past;LBlessLoan$Rings;)V" } : MethodName)) ∈ gtb := gtb_in (tin2 (List.mem_of_getElem? (i := 58) rfl)) rfl
theorem q414 : (Cond.instanceMethod ({ cls := "BlessLoan$Deeds", name := "<init>", desc := "(LBlessLoan$Town;LBlessLoan$Judge;LBlessLoan$Past;LBlessLoan$Rings;)V" } : MethodName)) ∈ gtb := gtb_in (tin2 (List.mem_of_getElem? (i := 59) rfl)) rfl
theorem q415 : (Cond.code ({ cls := "BlessLoan$Deeds", name := "<init>", desc := "(LBlessLoan$Town;LBlessLoan$Judge;LBlessLoan$Past;LBlessLoan$Rings;)V" } : MethodName) prog_3_method_1_code (5 : Nat) (Option.none : Option FieldType)) ∈ gtb := gtb_in (tin2 (List.mem_of_getElem? (i := 60) rfl)) rfl
theorem q416 : (Cond.methodLink "BlessLoan$Deeds" (3 : Nat) ({ cls := "java/lang/Object", name := "<init>", desc := "()V" } : MethodName)) ∈ gtb := gtb_in (tin2 (List.mem_of_getElem? (i := 61) rfl)) rfl
theorem q417 : (Cond.fieldLink "BlessLoan$Deeds" (9 : Nat) "BlessLoan$Deeds" "town" "LBlessLoan$Town;") ∈ gtb := gtb_in (tin2 (List.mem_of_getElem? (i := 62) rfl)) rfl
theorem q418 : (Cond.fieldLink "BlessLoan$Deeds" (15 : Nat) "BlessLoan$Deeds" "judge" "LBlessLoan$Judge;") ∈ gtb := gtb_in (tin2 (List.mem_of_getElem? (i := 63) rfl)) rfl
theorem q419 : (Cond.fieldLink "BlessLoan$Deeds" (19 : Nat) "BlessLoan$Deeds" "past" "LBlessLoan$Past;") ∈ gtb := gtb_in (tin2 (List.mem_of_getElem? (i := 64) rfl)) rfl
theorem q420 : (Cond.fieldLink "BlessLoan$Deeds" (23 : Nat) "BlessLoan$Deeds" "rings" "LBlessLoan$Rings;") ∈ gtb := gtb_in (tin2 (List.mem_of_getElem? (i := 65) rfl)) rfl
theorem q430 : (Cond.classLink "BlessLoan" (68 : Nat) "BlessLoan$Clerk") ∈ gtb := gtb_in (tin2 (List.mem_of_getElem? (i := 75) rfl)) rfl
theorem q431 : (Cond.instantiable "BlessLoan$Clerk" (6 : Nat)) ∈ gtb := gtb_in (tin2 (List.mem_of_getElem? (i := 76) rfl)) rfl
theorem q432 : (Cond.methodLink "BlessLoan" (70 : Nat) ({ cls := "BlessLoan$Clerk", name := "<init>", desc := "(LBlessLoan$Town;LBlessLoan$Deeds;)V" } : MethodName)) ∈ gtb := gtb_in (tin2 (List.mem_of_getElem? (i := 77) rfl)) rfl
theorem q433 : (Cond.instanceMethod ({ cls := "BlessLoan$Clerk", name := "<init>", desc := "(LBlessLoan$Town;LBlessLoan$Deeds;)V" } : MethodName)) ∈ gtb := gtb_in (tin2 (List.mem_of_getElem? (i := 78) rfl)) rfl
theorem q434 : (Cond.code ({ cls := "BlessLoan$Clerk", name := "<init>", desc := "(LBlessLoan$Town;LBlessLoan$Deeds;)V" } : MethodName) prog_2_method_1_code (3 : Nat) (Option.none : Option FieldType)) ∈ gtb := gtb_in (tin2 (List.mem_of_getElem? (i := 79) rfl)) rfl
theorem q435 : (Cond.methodLink "BlessLoan$Clerk" (3 : Nat) ({ cls := "java/lang/Object", name := "<init>", desc := "()V" } : MethodName)) ∈ gtb := gtb_in (tin2 (List.mem_of_getElem? (i := 80) rfl)) rfl
theorem q436 : (Cond.classLink "BlessLoan$Clerk" (9 : Nat) "BlessLoan$Reckoner") ∈ gtb := gtb_in (tin2 (List.mem_of_getElem? (i := 81) rfl)) rfl
theorem q438 : (Cond.fieldLink "BlessLoan$Clerk" (29 : Nat) "BlessLoan$Clerk" "town" "LBlessLoan$Town;") ∈ gtb := gtb_in (tin2 (List.mem_of_getElem? (i := 83) rfl)) rfl
theorem q439 : (Cond.fieldLink "BlessLoan$Clerk" (33 : Nat) "BlessLoan$Clerk" "deeds" "LBlessLoan$Deeds;") ∈ gtb := gtb_in (tin2 (List.mem_of_getElem? (i := 84) rfl)) rfl
theorem q440 : (Cond.fieldLink "BlessLoan$Clerk" (12 : Nat) "BlessLoan$Clerk" "reckoner" "LBlessLoan$Reckoner;") ∈ gtb := gtb_in (tin2 (List.mem_of_getElem? (i := 85) rfl)) rfl
theorem q441 : (Cond.fieldLink "BlessLoan$Clerk" (18 : Nat) "BlessLoan$Clerk" "words" "[I") ∈ gtb := gtb_in (tin2 (List.mem_of_getElem? (i := 86) rfl)) rfl
theorem q442 : (Cond.fieldLink "BlessLoan$Clerk" (22 : Nat) "BlessLoan$Clerk" "latest" "I") ∈ gtb := gtb_in (tin2 (List.mem_of_getElem? (i := 87) rfl)) rfl
theorem q443 : (Cond.fieldLink "BlessLoan$Clerk" (26 : Nat) "BlessLoan$Clerk" "done" "I") ∈ gtb := gtb_in (tin2 (List.mem_of_getElem? (i := 88) rfl)) rfl
theorem q444 : (Cond.fieldLink "BlessLoan" (223 : Nat) "BlessLoan$Clerk" "done" "I") ∈ gtb := gtb_in (tin2 (List.mem_of_getElem? (i := 89) rfl)) rfl
theorem q458 : (Cond.classLink "BlessLoan" (77 : Nat) "BlessLoan$Planner") ∈ gtb := gtb_in (tin2 (List.mem_of_getElem? (i := 103) rfl)) rfl
theorem q459 : (Cond.instantiable "BlessLoan$Planner" (17 : Nat)) ∈ gtb := gtb_in (tin2 (List.mem_of_getElem? (i := 104) rfl)) rfl
theorem q460 : (Cond.methodLink "BlessLoan" (79 : Nat) ({ cls := "BlessLoan$Planner", name := "<init>", desc := "(LBlessLoan$Judge;)V" } : MethodName)) ∈ gtb := gtb_in (tin2 (List.mem_of_getElem? (i := 105) rfl)) rfl
theorem q461 : (Cond.instanceMethod ({ cls := "BlessLoan$Planner", name := "<init>", desc := "(LBlessLoan$Judge;)V" } : MethodName)) ∈ gtb := gtb_in (tin2 (List.mem_of_getElem? (i := 106) rfl)) rfl
theorem q462 : (Cond.code ({ cls := "BlessLoan$Planner", name := "<init>", desc := "(LBlessLoan$Judge;)V" } : MethodName) prog_7_method_1_code (2 : Nat) (Option.none : Option FieldType)) ∈ gtb := gtb_in (tin2 (List.mem_of_getElem? (i := 107) rfl)) rfl
theorem q463 : (Cond.methodLink "BlessLoan$Planner" (3 : Nat) ({ cls := "java/lang/Object", name := "<init>", desc := "()V" } : MethodName)) ∈ gtb := gtb_in (tin2 (List.mem_of_getElem? (i := 108) rfl)) rfl
theorem q464 : (Cond.classLink "BlessLoan$Planner" (9 : Nat) "BlessLoan$Town") ∈ gtb := gtb_in (tin2 (List.mem_of_getElem? (i := 109) rfl)) rfl
theorem q465 : (Cond.methodLink "BlessLoan$Planner" (11 : Nat) ({ cls := "BlessLoan$Town", name := "<init>", desc := "()V" } : MethodName)) ∈ gtb := gtb_in (tin2 (List.mem_of_getElem? (i := 110) rfl)) rfl
theorem q466 : (Cond.fieldLink "BlessLoan$Planner" (12 : Nat) "BlessLoan$Planner" "paper" "LBlessLoan$Town;") ∈ gtb := gtb_in (tin2 (List.mem_of_getElem? (i := 111) rfl)) rfl
theorem q467 : (Cond.fieldLink "BlessLoan" (288 : Nat) "BlessLoan$Planner" "paper" "LBlessLoan$Town;") ∈ gtb := gtb_in (tin2 (List.mem_of_getElem? (i := 112) rfl)) rfl
theorem q468 : (Cond.fieldLink "BlessLoan$Planner" (66 : Nat) "BlessLoan$Planner" "judge" "LBlessLoan$Judge;") ∈ gtb := gtb_in (tin2 (List.mem_of_getElem? (i := 113) rfl)) rfl
theorem q469 : (Cond.fieldLink "BlessLoan$Planner" (18 : Nat) "BlessLoan$Planner" "odds" "[I") ∈ gtb := gtb_in (tin2 (List.mem_of_getElem? (i := 114) rfl)) rfl
theorem q470 : (Cond.fieldLink "BlessLoan$Planner" (22 : Nat) "BlessLoan$Planner" "rival" "[I") ∈ gtb := gtb_in (tin2 (List.mem_of_getElem? (i := 115) rfl)) rfl
theorem q471 : (Cond.fieldLink "BlessLoan$Planner" (25 : Nat) "BlessLoan$Planner" "lines" "[I") ∈ gtb := gtb_in (tin2 (List.mem_of_getElem? (i := 116) rfl)) rfl
theorem q472 : (Cond.fieldLink "BlessLoan$Planner" (28 : Nat) "BlessLoan$Planner" "paid" "[I") ∈ gtb := gtb_in (tin2 (List.mem_of_getElem? (i := 117) rfl)) rfl
theorem q473 : (Cond.fieldLink "BlessLoan$Planner" (31 : Nat) "BlessLoan$Planner" "steps" "[I") ∈ gtb := gtb_in (tin2 (List.mem_of_getElem? (i := 118) rfl)) rfl
theorem q474 : (Cond.fieldLink "BlessLoan$Planner" (34 : Nat) "BlessLoan$Planner" "lenders" "[I") ∈ gtb := gtb_in (tin2 (List.mem_of_getElem? (i := 119) rfl)) rfl
theorem q475 : (Cond.fieldLink "BlessLoan$Planner" (37 : Nat) "BlessLoan$Planner" "groups" "[I") ∈ gtb := gtb_in (tin2 (List.mem_of_getElem? (i := 120) rfl)) rfl
theorem q476 : (Cond.fieldLink "BlessLoan$Planner" (40 : Nat) "BlessLoan$Planner" "trail" "[J") ∈ gtb := gtb_in (tin2 (List.mem_of_getElem? (i := 121) rfl)) rfl
theorem q477 : (Cond.fieldLink "BlessLoan$Planner" (44 : Nat) "BlessLoan$Planner" "shares" "[J") ∈ gtb := gtb_in (tin2 (List.mem_of_getElem? (i := 122) rfl)) rfl
theorem q478 : (Cond.fieldLink "BlessLoan$Planner" (47 : Nat) "BlessLoan$Planner" "walk" "[I") ∈ gtb := gtb_in (tin2 (List.mem_of_getElem? (i := 123) rfl)) rfl
theorem q479 : (Cond.fieldLink "BlessLoan" (297 : Nat) "BlessLoan$Planner" "walk" "[I") ∈ gtb := gtb_in (tin2 (List.mem_of_getElem? (i := 124) rfl)) rfl
theorem q480 : (Cond.fieldLink "BlessLoan$Planner" (50 : Nat) "BlessLoan$Planner" "stops" "I") ∈ gtb := gtb_in (tin2 (List.mem_of_getElem? (i := 125) rfl)) rfl
theorem q481 : (Cond.fieldLink "BlessLoan" (294 : Nat) "BlessLoan$Planner" "stops" "I") ∈ gtb := gtb_in (tin2 (List.mem_of_getElem? (i := 126) rfl)) rfl
theorem q482 : (Cond.fieldLink "BlessLoan$Planner" (54 : Nat) "BlessLoan$Planner" "bestPlace" "I") ∈ gtb := gtb_in (tin2 (List.mem_of_getElem? (i := 127) rfl)) rfl
theorem q483 : (Cond.fieldLink "BlessLoan" (279 : Nat) "BlessLoan$Planner" "bestPlace" "I") ∈ gtb := gtb_in (tin2 (List.mem_of_getElem? (i := 128) rfl)) rfl
theorem q484 : (Cond.fieldLink "BlessLoan$Planner" (57 : Nat) "BlessLoan$Planner" "bestGain" "I") ∈ gtb := gtb_in (tin2 (List.mem_of_getElem? (i := 129) rfl)) rfl
theorem q485 : (Cond.fieldLink "BlessLoan" (282 : Nat) "BlessLoan$Planner" "bestGain" "I") ∈ gtb := gtb_in (tin2 (List.mem_of_getElem? (i := 130) rfl)) rfl
theorem q486 : (Cond.fieldLink "BlessLoan$Planner" (60 : Nat) "BlessLoan$Planner" "toHear" "I") ∈ gtb := gtb_in (tin2 (List.mem_of_getElem? (i := 131) rfl)) rfl
theorem q487 : (Cond.fieldLink "BlessLoan" (326 : Nat) "BlessLoan$Planner" "toHear" "I") ∈ gtb := gtb_in (tin2 (List.mem_of_getElem? (i := 132) rfl)) rfl
theorem q488 : (Cond.fieldLink "BlessLoan$Planner" (63 : Nat) "BlessLoan$Planner" "mostLeft" "I") ∈ gtb := gtb_in (tin2 (List.mem_of_getElem? (i := 133) rfl)) rfl
theorem q489 : (Cond.fieldLink "BlessLoan" (329 : Nat) "BlessLoan$Planner" "mostLeft" "I") ∈ gtb := gtb_in (tin2 (List.mem_of_getElem? (i := 134) rfl)) rfl
theorem q525 : (Cond.fieldLink "BlessLoan" (10 : Nat) "BlessLoan" "town" "LBlessLoan$Town;") ∈ gtb := gtb_in (tin2 (List.mem_of_getElem? (i := 170) rfl)) rfl
theorem q526 : (Cond.fieldLink "BlessLoan" (16 : Nat) "BlessLoan" "saved" "LBlessLoan$Town;") ∈ gtb := gtb_in (tin2 (List.mem_of_getElem? (i := 171) rfl)) rfl
theorem q527 : (Cond.fieldLink "BlessLoan" (19 : Nat) "BlessLoan" "later" "LBlessLoan$Town;") ∈ gtb := gtb_in (tin2 (List.mem_of_getElem? (i := 172) rfl)) rfl
theorem q528 : (Cond.fieldLink "BlessLoan" (22 : Nat) "BlessLoan" "images" "[LBlessLoan$Town;") ∈ gtb := gtb_in (tin2 (List.mem_of_getElem? (i := 173) rfl)) rfl
theorem q529 : (Cond.fieldLink "BlessLoan" (29 : Nat) "BlessLoan" "reader" "LBlessLoan$Reader;") ∈ gtb := gtb_in (tin2 (List.mem_of_getElem? (i := 174) rfl)) rfl
theorem q530 : (Cond.fieldLink "BlessLoan" (38 : Nat) "BlessLoan" "judge" "LBlessLoan$Judge;") ∈ gtb := gtb_in (tin2 (List.mem_of_getElem? (i := 175) rfl)) rfl
theorem q531 : (Cond.fieldLink "BlessLoan" (45 : Nat) "BlessLoan" "past" "LBlessLoan$Past;") ∈ gtb := gtb_in (tin2 (List.mem_of_getElem? (i := 176) rfl)) rfl
theorem q532 : (Cond.fieldLink "BlessLoan" (49 : Nat) "BlessLoan" "savedPast" "LBlessLoan$Past;") ∈ gtb := gtb_in (tin2 (List.mem_of_getElem? (i := 177) rfl)) rfl
theorem q533 : (Cond.fieldLink "BlessLoan" (55 : Nat) "BlessLoan" "rings" "LBlessLoan$Rings;") ∈ gtb := gtb_in (tin2 (List.mem_of_getElem? (i := 178) rfl)) rfl
theorem q534 : (Cond.fieldLink "BlessLoan" (64 : Nat) "BlessLoan" "deeds" "LBlessLoan$Deeds;") ∈ gtb := gtb_in (tin2 (List.mem_of_getElem? (i := 179) rfl)) rfl
theorem q535 : (Cond.fieldLink "BlessLoan" (73 : Nat) "BlessLoan" "clerk" "LBlessLoan$Clerk;") ∈ gtb := gtb_in (tin2 (List.mem_of_getElem? (i := 180) rfl)) rfl
theorem q536 : (Cond.fieldLink "BlessLoan" (82 : Nat) "BlessLoan" "planner" "LBlessLoan$Planner;") ∈ gtb := gtb_in (tin2 (List.mem_of_getElem? (i := 181) rfl)) rfl
theorem q537 : (Cond.fieldLink "BlessLoan" (86 : Nat) "BlessLoan" "refusals" "[I") ∈ gtb := gtb_in (tin2 (List.mem_of_getElem? (i := 182) rfl)) rfl
theorem q538 : (Cond.fieldLink "BlessLoan" (90 : Nat) "BlessLoan" "latestRefusal" "I") ∈ gtb := gtb_in (tin2 (List.mem_of_getElem? (i := 183) rfl)) rfl
theorem q539 : (Cond.fieldLink "BlessLoan" (94 : Nat) "BlessLoan" "latestFault" "I") ∈ gtb := gtb_in (tin2 (List.mem_of_getElem? (i := 184) rfl)) rfl
theorem q540 : (Cond.fieldLink "BlessLoan" (97 : Nat) "BlessLoan" "latestStop" "I") ∈ gtb := gtb_in (tin2 (List.mem_of_getElem? (i := 185) rfl)) rfl
theorem q541 : (Cond.fieldLink "BlessLoan" (100 : Nat) "BlessLoan" "latestHiccups" "I") ∈ gtb := gtb_in (tin2 (List.mem_of_getElem? (i := 186) rfl)) rfl
theorem q577 : (Cond.methodLink "BlessLoanLaw" (13 : Nat) ({ cls := "BlessLoan", name := "dust", desc := "(II)I" } : MethodName)) ∈ gtb := gtb_in (tin2 (List.mem_of_getElem? (i := 222) rfl)) rfl
theorem q578 : (Cond.instanceMethod ({ cls := "BlessLoan", name := "dust", desc := "(II)I" } : MethodName)) ∈ gtb := gtb_in (tin2 (List.mem_of_getElem? (i := 223) rfl)) rfl
theorem q579 : (Cond.selects "BlessLoan" ({ cls := "BlessLoan", name := "dust", desc := "(II)I" } : MethodName) ({ cls := "BlessLoan", name := "dust", desc := "(II)I" } : MethodName)) ∈ gtb := gtb_in (tin2 (List.mem_of_getElem? (i := 224) rfl)) rfl
theorem q580 : (Cond.code ({ cls := "BlessLoan", name := "dust", desc := "(II)I" } : MethodName) prog_1_method_2_code (4 : Nat) (Option.some FieldType.int)) ∈ gtb := gtb_in (tin2 (List.mem_of_getElem? (i := 225) rfl)) rfl
theorem q581 : (Cond.methodLink "BlessLoan" (103 : Nat) ({ cls := "BlessLoan$Town", name := "isPlace", desc := "(I)Z" } : MethodName)) ∈ gtb := gtb_in (tin2 (List.mem_of_getElem? (i := 226) rfl)) rfl
theorem q582 : (Cond.static ({ cls := "BlessLoan$Town", name := "isPlace", desc := "(I)Z" } : MethodName)) ∈ gtb := gtb_in (tin2 (List.mem_of_getElem? (i := 227) rfl)) rfl
theorem q583 : (Cond.code ({ cls := "BlessLoan$Town", name := "isPlace", desc := "(I)Z" } : MethodName) prog_12_method_2_code (1 : Nat) (Option.some FieldType.boolean)) ∈ gtb := gtb_in (tin2 (List.mem_of_getElem? (i := 228) rfl)) rfl
theorem q584 : (Cond.methodLink "BlessLoan" (107 : Nat) ({ cls := "BlessLoan", name := "refuse", desc := "(I)I" } : MethodName)) ∈ gtb := gtb_in (tin2 (List.mem_of_getElem? (i := 229) rfl)) rfl
theorem q586 : (Cond.instanceMethod ({ cls := "BlessLoan", name := "refuse", desc := "(I)I" } : MethodName)) ∈ gtb := gtb_in (tin2 (List.mem_of_getElem? (i := 231) rfl)) rfl
theorem q587 : (Cond.code ({ cls := "BlessLoan", name := "refuse", desc := "(I)I" } : MethodName) prog_1_method_46_code (3 : Nat) (Option.some FieldType.int)) ∈ gtb := gtb_in (tin2 (List.mem_of_getElem? (i := 232) rfl)) rfl
theorem q588 : (Cond.methodLink "BlessLoan" (117 : Nat) ({ cls := "BlessLoan", name := "fine", desc := "(I)I" } : MethodName)) ∈ gtb := gtb_in (tin2 (List.mem_of_getElem? (i := 233) rfl)) rfl
theorem q590 : (Cond.instanceMethod ({ cls := "BlessLoan", name := "fine", desc := "(I)I" } : MethodName)) ∈ gtb := gtb_in (tin2 (List.mem_of_getElem? (i := 235) rfl)) rfl
theorem q591 : (Cond.code ({ cls := "BlessLoan", name := "fine", desc := "(I)I" } : MethodName) prog_1_method_45_code (2 : Nat) (Option.some FieldType.int)) ∈ gtb := gtb_in (tin2 (List.mem_of_getElem? (i := 236) rfl)) rfl
theorem q592 : (Cond.methodLink "BlessLoanLaw" (18 : Nat) ({ cls := "BlessLoan", name := "at", desc := "(II)I" } : MethodName)) ∈ gtb := gtb_in (tin2 (List.mem_of_getElem? (i := 237) rfl)) rfl
theorem q593 : (Cond.instanceMethod ({ cls := "BlessLoan", name := "at", desc := "(II)I" } : MethodName)) ∈ gtb := gtb_in (tin2 (List.mem_of_getElem? (i := 238) rfl)) rfl
theorem q594 : (Cond.selects "BlessLoan" ({ cls := "BlessLoan", name := "at", desc := "(II)I" } : MethodName) ({ cls := "BlessLoan", name := "at", desc := "(II)I" } : MethodName)) ∈ gtb := gtb_in (tin2 (List.mem_of_getElem? (i := 239) rfl)) rfl
theorem q595 : (Cond.code ({ cls := "BlessLoan", name := "at", desc := "(II)I" } : MethodName) prog_1_method_3_code (3 : Nat) (Option.some FieldType.int)) ∈ gtb := gtb_in (tin3 (List.mem_of_getElem? (i := 0) rfl)) rfl
theorem q596 : (Cond.methodLink "BlessLoan" (120 : Nat) ({ cls := "BlessLoan$Town", name := "peopleIn", desc := "(I)I" } : MethodName)) ∈ gtb := gtb_in (tin3 (List.mem_of_getElem? (i := 1) rfl)) rfl
theorem q597 : (Cond.instanceMethod ({ cls := "BlessLoan$Town", name := "peopleIn", desc := "(I)I" } : MethodName)) ∈ gtb := gtb_in (tin3 (List.mem_of_getElem? (i := 2) rfl)) rfl
theorem q598 : (Cond.selects "BlessLoan$Town" ({ cls := "BlessLoan$Town", name := "peopleIn", desc := "(I)I" } : MethodName) ({ cls := "BlessLoan$Town", name := "peopleIn", desc := "(I)I" } : MethodName)) ∈ gtb := gtb_in (tin3 (List.mem_of_getElem? (i := 3) rfl)) rfl
theorem q599 : (Cond.code ({ cls := "BlessLoan$Town", name := "peopleIn", desc := "(I)I" } : MethodName) prog_12_method_12_code (4 : Nat) (Option.some FieldType.int)) ∈ gtb := gtb_in (tin3 (List.mem_of_getElem? (i := 4) rfl)) rfl
theorem q600 : (Cond.methodLink "BlessLoanLaw" (22 : Nat) ({ cls := "BlessLoan", name := "person", desc := "(IIII)I" } : MethodName)) ∈ gtb := gtb_in (tin3 (List.mem_of_getElem? (i := 5) rfl)) rfl
theorem q601 : (Cond.instanceMethod ({ cls := "BlessLoan", name := "person", desc := "(IIII)I" } : MethodName)) ∈ gtb := gtb_in (tin3 (List.mem_of_getElem? (i := 6) rfl)) rfl
theorem q602 : (Cond.selects "BlessLoan" ({ cls := "BlessLoan", name := "person", desc := "(IIII)I" } : MethodName) ({ cls := "BlessLoan", name := "person", desc := "(IIII)I" } : MethodName)) ∈ gtb := gtb_in (tin3 (List.mem_of_getElem? (i := 7) rfl)) rfl
theorem q603 : (Cond.code ({ cls := "BlessLoan", name := "person", desc := "(IIII)I" } : MethodName) prog_1_method_4_code (5 : Nat) (Option.some FieldType.int)) ∈ gtb := gtb_in (tin3 (List.mem_of_getElem? (i := 8) rfl)) rfl
theorem q604 : (Cond.methodLink "BlessLoan" (123 : Nat) ({ cls := "BlessLoan$Town", name := "canBe", desc := "(IIII)Z" } : MethodName)) ∈ gtb := gtb_in (tin3 (List.mem_of_getElem? (i := 9) rfl)) rfl
theorem q605 : (Cond.static ({ cls := "BlessLoan$Town", name := "canBe", desc := "(IIII)Z" } : MethodName)) ∈ gtb := gtb_in (tin3 (List.mem_of_getElem? (i := 10) rfl)) rfl
theorem q606 : (Cond.code ({ cls := "BlessLoan$Town", name := "canBe", desc := "(IIII)Z" } : MethodName) prog_12_method_3_code (4 : Nat) (Option.some FieldType.boolean)) ∈ gtb := gtb_in (tin3 (List.mem_of_getElem? (i := 11) rfl)) rfl
theorem q607 : (Cond.methodLink "BlessLoan$Town" (67 : Nat) ({ cls := "BlessLoan$Town", name := "isPlace", desc := "(I)Z" } : MethodName)) ∈ gtb := gtb_in (tin3 (List.mem_of_getElem? (i := 12) rfl)) rfl
theorem q608 : (Cond.methodLink "BlessLoan" (130 : Nat) ({ cls := "BlessLoan$Town", name := "settle", desc := "(IIII)I" } : MethodName)) ∈ gtb := gtb_in (tin3 (List.mem_of_getElem? (i := 13) rfl)) rfl
theorem q609 : (Cond.instanceMethod ({ cls := "BlessLoan$Town", name := "settle", desc := "(IIII)I" } : MethodName)) ∈ gtb := gtb_in (tin3 (List.mem_of_getElem? (i := 14) rfl)) rfl
theorem q610 : (Cond.selects "BlessLoan$Town" ({ cls := "BlessLoan$Town", name := "settle", desc := "(IIII)I" } : MethodName) ({ cls := "BlessLoan$Town", name := "settle", desc := "(IIII)I" } : MethodName)) ∈ gtb := gtb_in (tin3 (List.mem_of_getElem? (i := 15) rfl)) rfl
theorem q611 : (Cond.code ({ cls := "BlessLoan$Town", name := "settle", desc := "(IIII)I" } : MethodName) prog_12_method_10_code (5 : Nat) (Option.some FieldType.int)) ∈ gtb := gtb_in (tin3 (List.mem_of_getElem? (i := 16) rfl)) rfl
theorem q612 : (Cond.methodLink "BlessLoanLaw" (27 : Nat) ({ cls := "BlessLoan", name := "of", desc := "(II)I" } : MethodName)) ∈ gtb := gtb_in (tin3 (List.mem_of_getElem? (i := 17) rfl)) rfl
theorem q613 : (Cond.instanceMethod ({ cls := "BlessLoan", name := "of", desc := "(II)I" } : MethodName)) ∈ gtb := gtb_in (tin3 (List.mem_of_getElem? (i := 18) rfl)) rfl
theorem q614 : (Cond.selects "BlessLoan" ({ cls := "BlessLoan", name := "of", desc := "(II)I" } : MethodName) ({ cls := "BlessLoan", name := "of", desc := "(II)I" } : MethodName)) ∈ gtb := gtb_in (tin3 (List.mem_of_getElem? (i := 19) rfl)) rfl
theorem q615 : (Cond.code ({ cls := "BlessLoan", name := "of", desc := "(II)I" } : MethodName) prog_1_method_5_code (3 : Nat) (Option.some FieldType.int)) ∈ gtb := gtb_in (tin3 (List.mem_of_getElem? (i := 20) rfl)) rfl
theorem q616 : (Cond.methodLink "BlessLoan" (134 : Nat) ({ cls := "BlessLoan$Town", name := "has", desc := "(I)Z" } : MethodName)) ∈ gtb := gtb_in (tin3 (List.mem_of_getElem? (i := 21) rfl)) rfl
theorem q617 : (Cond.instanceMethod ({ cls := "BlessLoan$Town", name := "has", desc := "(I)Z" } : MethodName)) ∈ gtb := gtb_in (tin3 (List.mem_of_getElem? (i := 22) rfl)) rfl
theorem q618 : (Cond.selects "BlessLoan$Town" ({ cls := "BlessLoan$Town", name := "has", desc := "(I)Z" } : MethodName) ({ cls := "BlessLoan$Town", name := "has", desc := "(I)Z" } : MethodName)) ∈ gtb := gtb_in (tin3 (List.mem_of_getElem? (i := 23) rfl)) rfl
theorem q619 : (Cond.code ({ cls := "BlessLoan$Town", name := "has", desc := "(I)Z" } : MethodName) prog_12_method_6_code (2 : Nat) (Option.some FieldType.boolean)) ∈ gtb := gtb_in (tin3 (List.mem_of_getElem? (i := 24) rfl)) rfl
theorem q620 : (Cond.methodLink "BlessLoan" (137 : Nat) ({ cls := "BlessLoan$Judge", name := "look", desc := "(LBlessLoan$Town;)V" } : MethodName)) ∈ gtb := gtb_in (tin3 (List.mem_of_getElem? (i := 25) rfl)) rfl
theorem q621 : (Cond.instanceMethod ({ cls := "BlessLoan$Judge", name := "look", desc := "(LBlessLoan$Town;)V" } : MethodName)) ∈ gtb := gtb_in (tin3 (List.mem_of_getElem? (i := 26) rfl)) rfl
theorem q622 : (Cond.selects "BlessLoan$Judge" ({ cls := "BlessLoan$Judge", name := "look", desc := "(LBlessLoan$Town;)V" } : MethodName) ({ cls := "BlessLoan$Judge", name := "look", desc := "(LBlessLoan$Town;)V" } : MethodName)) ∈ gtb := gtb_in (tin3 (List.mem_of_getElem? (i := 27) rfl)) rfl
theorem q623 : (Cond.code ({ cls := "BlessLoan$Judge", name := "look", desc := "(LBlessLoan$Town;)V" } : MethodName) prog_5_method_2_code (2 : Nat) (Option.none : Option FieldType)) ∈ gtb := gtb_in (tin3 (List.mem_of_getElem? (i := 28) rfl)) rfl
theorem q624 : (Cond.methodLink "BlessLoan$Judge" (34 : Nat) ({ cls := "BlessLoan$Town", name := "lawInForce", desc := "()LBlessLoan$Text;" } : MethodName)) ∈ gtb := gtb_in (tin3 (List.mem_of_getElem? (i := 29) rfl)) rfl
theorem q625 : (Cond.instanceMethod ({ cls := "BlessLoan$Town", name := "lawInForce", desc := "()LBlessLoan$Text;" } : MethodName)) ∈ gtb := gtb_in (tin3 (List.mem_of_getElem? (i := 30) rfl)) rfl
theorem q626 : (Cond.selects "BlessLoan$Town" ({ cls := "BlessLoan$Town", name := "lawInForce", desc := "()LBlessLoan$Text;" } : MethodName) ({ cls := "BlessLoan$Town", name := "lawInForce", desc := "()LBlessLoan$Text;" } : MethodName)) ∈ gtb := gtb_in (tin3 (List.mem_of_getElem? (i := 31) rfl)) rfl
theorem q627 : (Cond.code ({ cls := "BlessLoan$Town", name := "lawInForce", desc := "()LBlessLoan$Text;" } : MethodName) prog_12_method_9_code (1 : Nat) (Option.some (FieldType.object "BlessLoan$Text"))) ∈ gtb := gtb_in (tin3 (List.mem_of_getElem? (i := 32) rfl)) rfl
theorem q628 : (Cond.methodLink "BlessLoan" (155 : Nat) ({ cls := "BlessLoan$Judge", name := "chance", desc := "(I)I" } : MethodName)) ∈ gtb := gtb_in (tin3 (List.mem_of_getElem? (i := 33) rfl)) rfl
theorem q629 : (Cond.instanceMethod ({ cls := "BlessLoan$Judge", name := "chance", desc := "(I)I" } : MethodName)) ∈ gtb := gtb_in (tin3 (List.mem_of_getElem? (i := 34) rfl)) rfl
theorem q630 : (Cond.selects "BlessLoan$Judge" ({ cls := "BlessLoan$Judge", name := "chance", desc := "(I)I" } : MethodName) ({ cls := "BlessLoan$Judge", name := "chance", desc := "(I)I" } : MethodName)) ∈ gtb := gtb_in (tin3 (List.mem_of_getElem? (i := 35) rfl)) rfl
theorem q631 : (Cond.code ({ cls := "BlessLoan$Judge", name := "chance", desc := "(I)I" } : MethodName) prog_5_method_3_code (2 : Nat) (Option.some FieldType.int)) ∈ gtb := gtb_in (tin3 (List.mem_of_getElem? (i := 36) rfl)) rfl
theorem q632 : (Cond.methodLink "BlessLoan$Judge" (43 : Nat) ({ cls := "BlessLoan$Judge", name := "tells", desc := "(IIII)Z" } : MethodName)) ∈ gtb := gtb_in (tin3 (List.mem_of_getElem? (i := 37) rfl)) rfl
theorem q634 : (Cond.instanceMethod ({ cls := "BlessLoan$Judge", name := "tells", desc := "(IIII)Z" } : MethodName)) ∈ gtb := gtb_in (tin3 (List.mem_of_getElem? (i := 39) rfl)) rfl
theorem q635 : (Cond.code ({ cls := "BlessLoan$Judge", name := "tells", desc := "(IIII)Z" } : MethodName) prog_5_method_8_code (8 : Nat) (Option.some FieldType.boolean)) ∈ gtb := gtb_in (tin3 (List.mem_of_getElem? (i := 40) rfl)) rfl
theorem q636 : (Cond.methodLink "BlessLoan$Judge" (87 : Nat) ({ cls := "BlessLoan$Judge", name := "learn", desc := "(III)V" } : MethodName)) ∈ gtb := gtb_in (tin3 (List.mem_of_getElem? (i := 41) rfl)) rfl
theorem q638 : (Cond.instanceMethod ({ cls := "BlessLoan$Judge", name := "learn", desc := "(III)V" } : MethodName)) ∈ gtb := gtb_in (tin3 (List.mem_of_getElem? (i := 43) rfl)) rfl
theorem q639 : (Cond.code ({ cls := "BlessLoan$Judge", name := "learn", desc := "(III)V" } : MethodName) prog_5_method_9_code (4 : Nat) (Option.none : Option FieldType)) ∈ gtb := gtb_in (tin3 (List.mem_of_getElem? (i := 44) rfl)) rfl
theorem q640 : (Cond.methodLink "BlessLoan$Judge" (97 : Nat) ({ cls := "BlessLoan$Reckoner", name := "value", desc := "(LBlessLoan$Text;II[I)J" } : MethodName)) ∈ gtb := gtb_in (tin3 (List.mem_of_getElem? (i := 45) rfl)) rfl
theorem q641 : (Cond.instanceMethod ({ cls := "BlessLoan$Reckoner", name := "value", desc := "(LBlessLoan$Text;II[I)J" } : MethodName)) ∈ gtb := gtb_in (tin3 (List.mem_of_getElem? (i := 46) rfl)) rfl
theorem q642 : (Cond.selects "BlessLoan$Reckoner" ({ cls := "BlessLoan$Reckoner", name := "value", desc := "(LBlessLoan$Text;II[I)J" } : MethodName) ({ cls := "BlessLoan$Reckoner", name := "value", desc := "(LBlessLoan$Text;II[I)J" } : MethodName)) ∈ gtb := gtb_in (tin3 (List.mem_of_getElem? (i := 47) rfl)) rfl
theorem q643 : (Cond.code ({ cls := "BlessLoan$Reckoner", name := "value", desc := "(LBlessLoan$Text;II[I)J" } : MethodName) prog_9_method_2_code (15 : Nat) (Option.some FieldType.long)) ∈ gtb := gtb_in (tin3 (List.mem_of_getElem? (i := 48) rfl)) rfl
theorem q644 : (Cond.constantLong "BlessLoan$Reckoner" (32 : Nat) (1000000000 : Int64)) ∈ gtb := gtb_in (tin3 (List.mem_of_getElem? (i := 49) rfl)) rfl
theorem q645 : (Cond.constantLong "BlessLoan$Reckoner" (34 : Nat) (-1000000000 : Int64)) ∈ gtb := gtb_in (tin3 (List.mem_of_getElem? (i := 50) rfl)) rfl
theorem q646 : (Cond.methodLink "BlessLoan$Judge" (47 : Nat) ({ cls := "BlessLoan$Judge", name := "within", desc := "(I)I" } : MethodName)) ∈ gtb := gtb_in (tin3 (List.mem_of_getElem? (i := 51) rfl)) rfl
theorem q648 : (Cond.instanceMethod ({ cls := "BlessLoan$Judge", name := "within", desc := "(I)I" } : MethodName)) ∈ gtb := gtb_in (tin3 (List.mem_of_getElem? (i := 53) rfl)) rfl
theorem q649 : (Cond.code ({ cls := "BlessLoan$Judge", name := "within", desc := "(I)I" } : MethodName) prog_5_method_7_code (2 : Nat) (Option.some FieldType.int)) ∈ gtb := gtb_in (tin3 (List.mem_of_getElem? (i := 54) rfl)) rfl
theorem q650 : (Cond.methodLink "BlessLoan$Judge" (72 : Nat) ({ cls := "java/lang/Math", name := "min", desc := "(JJ)J" } : MethodName)) ∈ gtb := gtb_in (tin3 (List.mem_of_getElem? (i := 55) rfl)) rfl
theorem q651 : (Cond.static ({ cls := "java/lang/Math", name := "min", desc := "(JJ)J" } : MethodName)) ∈ gtb := gtb_in (tin3 (List.mem_of_getElem? (i := 56) rfl)) rfl
theorem q652 : (Cond.code ({ cls := "java/lang/Math", name := "min", desc := "(JJ)J" } : MethodName) prog_16_method_70_code (4 : Nat) (Option.some FieldType.long)) ∈ gtb := gtb_in (tin3 (List.mem_of_getElem? (i := 57) rfl)) rfl
theorem q653 : (Cond.methodLink "BlessLoan$Judge" (75 : Nat) ({ cls := "java/lang/Math", name := "max", desc := "(JJ)J" } : MethodName)) ∈ gtb := gtb_in (tin3 (List.mem_of_getElem? (i := 58) rfl)) rfl
theorem q654 : (Cond.static ({ cls := "java/lang/Math", name := "max", desc := "(JJ)J" } : MethodName)) ∈ gtb := gtb_in (tin3 (List.mem_of_getElem? (i := 59) rfl)) rfl
theorem q655 : (Cond.code ({ cls := "java/lang/Math", name := "max", desc := "(JJ)J" } : MethodName) prog_16_method_66_code (4 : Nat) (Option.some FieldType.long)) ∈ gtb := gtb_in (tin3 (List.mem_of_getElem? (i := 60) rfl)) rfl
theorem q656 : (Cond.methodLink "BlessLoan$Judge" (60 : Nat) ({ cls := "java/lang/Math", name := "min", desc := "(II)I" } : MethodName)) ∈ gtb := gtb_in (tin3 (List.mem_of_getElem? (i := 61) rfl)) rfl
theorem q657 : (Cond.static ({ cls := "java/lang/Math", name := "min", desc := "(II)I" } : MethodName)) ∈ gtb := gtb_in (tin3 (List.mem_of_getElem? (i := 62) rfl)) rfl
theorem q658 : (Cond.code ({ cls := "java/lang/Math", name := "min", desc := "(II)I" } : MethodName) prog_16_method_69_code (2 : Nat) (Option.some FieldType.int)) ∈ gtb := gtb_in (tin3 (List.mem_of_getElem? (i := 63) rfl)) rfl
theorem q659 : (Cond.methodLink "BlessLoan" (158 : Nat) ({ cls := "BlessLoan$Judge", name := "reach", desc := "(I)I" } : MethodName)) ∈ gtb := gtb_in (tin3 (List.mem_of_getElem? (i := 64) rfl)) rfl
theorem q660 : (Cond.instanceMethod ({ cls := "BlessLoan$Judge", name := "reach", desc := "(I)I" } : MethodName)) ∈ gtb := gtb_in (tin3 (List.mem_of_getElem? (i := 65) rfl)) rfl
theorem q661 : (Cond.selects "BlessLoan$Judge" ({ cls := "BlessLoan$Judge", name := "reach", desc := "(I)I" } : MethodName) ({ cls := "BlessLoan$Judge", name := "reach", desc := "(I)I" } : MethodName)) ∈ gtb := gtb_in (tin3 (List.mem_of_getElem? (i := 66) rfl)) rfl
theorem q662 : (Cond.code ({ cls := "BlessLoan$Judge", name := "reach", desc := "(I)I" } : MethodName) prog_5_method_4_code (2 : Nat) (Option.some FieldType.int)) ∈ gtb := gtb_in (tin3 (List.mem_of_getElem? (i := 67) rfl)) rfl
theorem q663 : (Cond.methodLink "BlessLoan" (161 : Nat) ({ cls := "BlessLoan$Judge", name := "blesser", desc := "(II)I" } : MethodName)) ∈ gtb := gtb_in (tin3 (List.mem_of_getElem? (i := 68) rfl)) rfl
theorem q664 : (Cond.instanceMethod ({ cls := "BlessLoan$Judge", name := "blesser", desc := "(II)I" } : MethodName)) ∈ gtb := gtb_in (tin3 (List.mem_of_getElem? (i := 69) rfl)) rfl
theorem q665 : (Cond.selects "BlessLoan$Judge" ({ cls := "BlessLoan$Judge", name := "blesser", desc := "(II)I" } : MethodName) ({ cls := "BlessLoan$Judge", name := "blesser", desc := "(II)I" } : MethodName)) ∈ gtb := gtb_in (tin3 (List.mem_of_getElem? (i := 70) rfl)) rfl
theorem q666 : (Cond.code ({ cls := "BlessLoan$Judge", name := "blesser", desc := "(II)I" } : MethodName) prog_5_method_11_code (5 : Nat) (Option.some FieldType.int)) ∈ gtb := gtb_in (tin3 (List.mem_of_getElem? (i := 71) rfl)) rfl
theorem q667 : (Cond.methodLink "BlessLoan$Judge" (117 : Nat) ({ cls := "BlessLoan$Judge", name := "ahead", desc := "(III)Z" } : MethodName)) ∈ gtb := gtb_in (tin3 (List.mem_of_getElem? (i := 72) rfl)) rfl
theorem q668 : (Cond.instanceMethod ({ cls := "BlessLoan$Judge", name := "ahead", desc := "(III)Z" } : MethodName)) ∈ gtb := gtb_in (tin3 (List.mem_of_getElem? (i := 73) rfl)) rfl
theorem q669 : (Cond.selects "BlessLoan$Judge" ({ cls := "BlessLoan$Judge", name := "ahead", desc := "(III)Z" } : MethodName) ({ cls := "BlessLoan$Judge", name := "ahead", desc := "(III)Z" } : MethodName)) ∈ gtb := gtb_in (tin3 (List.mem_of_getElem? (i := 74) rfl)) rfl
theorem q670 : (Cond.code ({ cls := "BlessLoan$Judge", name := "ahead", desc := "(III)Z" } : MethodName) prog_5_method_10_code (5 : Nat) (Option.some FieldType.boolean)) ∈ gtb := gtb_in (tin3 (List.mem_of_getElem? (i := 75) rfl)) rfl
theorem q671 : (Cond.methodLink "BlessLoan$Judge" (69 : Nat) ({ cls := "BlessLoan$Town", name := "far", desc := "(II)I" } : MethodName)) ∈ gtb := gtb_in (tin3 (List.mem_of_getElem? (i := 76) rfl)) rfl
theorem q672 : (Cond.instanceMethod ({ cls := "BlessLoan$Town", name := "far", desc := "(II)I" } : MethodName)) ∈ gtb := gtb_in (tin3 (List.mem_of_getElem? (i := 77) rfl)) rfl
theorem q673 : (Cond.selects "BlessLoan$Town" ({ cls := "BlessLoan$Town", name := "far", desc := "(II)I" } : MethodName) ({ cls := "BlessLoan$Town", name := "far", desc := "(II)I" } : MethodName)) ∈ gtb := gtb_in (tin3 (List.mem_of_getElem? (i := 78) rfl)) rfl
theorem q674 : (Cond.code ({ cls := "BlessLoan$Town", name := "far", desc := "(II)I" } : MethodName) prog_12_method_11_code (3 : Nat) (Option.some FieldType.int)) ∈ gtb := gtb_in (tin3 (List.mem_of_getElem? (i := 79) rfl)) rfl
theorem q675 : (Cond.methodLink "BlessLoan$Town" (80 : Nat) ({ cls := "BlessLoan$Town", name := "apart", desc := "(II)I" } : MethodName)) ∈ gtb := gtb_in (tin3 (List.mem_of_getElem? (i := 80) rfl)) rfl
theorem q676 : (Cond.static ({ cls := "BlessLoan$Town", name := "apart", desc := "(II)I" } : MethodName)) ∈ gtb := gtb_in (tin3 (List.mem_of_getElem? (i := 81) rfl)) rfl
theorem q677 : (Cond.code ({ cls := "BlessLoan$Town", name := "apart", desc := "(II)I" } : MethodName) prog_12_method_4_code (4 : Nat) (Option.some FieldType.int)) ∈ gtb := gtb_in (tin3 (List.mem_of_getElem? (i := 82) rfl)) rfl
theorem q678 : (Cond.methodLink "BlessLoan$Judge" (121 : Nat) ({ cls := "BlessLoan$Judge", name := "reach", desc := "(I)I" } : MethodName)) ∈ gtb := gtb_in (tin3 (List.mem_of_getElem? (i := 83) rfl)) rfl
theorem q679 : (Cond.methodLink "BlessLoan$Judge" (124 : Nat) ({ cls := "BlessLoan$Judge", name := "bars", desc := "(II)Z" } : MethodName)) ∈ gtb := gtb_in (tin3 (List.mem_of_getElem? (i := 84) rfl)) rfl
theorem q680 : (Cond.instanceMethod ({ cls := "BlessLoan$Judge", name := "bars", desc := "(II)Z" } : MethodName)) ∈ gtb := gtb_in (tin3 (List.mem_of_getElem? (i := 85) rfl)) rfl
theorem q681 : (Cond.selects "BlessLoan$Judge" ({ cls := "BlessLoan$Judge", name := "bars", desc := "(II)Z" } : MethodName) ({ cls := "BlessLoan$Judge", name := "bars", desc := "(II)Z" } : MethodName)) ∈ gtb := gtb_in (tin3 (List.mem_of_getElem? (i := 86) rfl)) rfl
theorem q682 : (Cond.code ({ cls := "BlessLoan$Judge", name := "bars", desc := "(II)Z" } : MethodName) prog_5_method_6_code (3 : Nat) (Option.some FieldType.boolean)) ∈ gtb := gtb_in (tin3 (List.mem_of_getElem? (i := 87) rfl)) rfl
theorem q683 : (Cond.methodLink "BlessLoanLaw" (31 : Nat) ({ cls := "BlessLoan", name := "mask", desc := "(II)I" } : MethodName)) ∈ gtb := gtb_in (tin3 (List.mem_of_getElem? (i := 88) rfl)) rfl
theorem q684 : (Cond.instanceMethod ({ cls := "BlessLoan", name := "mask", desc := "(II)I" } : MethodName)) ∈ gtb := gtb_in (tin3 (List.mem_of_getElem? (i := 89) rfl)) rfl
theorem q685 : (Cond.selects "BlessLoan" ({ cls := "BlessLoan", name := "mask", desc := "(II)I" } : MethodName) ({ cls := "BlessLoan", name := "mask", desc := "(II)I" } : MethodName)) ∈ gtb := gtb_in (tin3 (List.mem_of_getElem? (i := 90) rfl)) rfl
theorem q686 : (Cond.code ({ cls := "BlessLoan", name := "mask", desc := "(II)I" } : MethodName) prog_1_method_6_code (4 : Nat) (Option.some FieldType.int)) ∈ gtb := gtb_in (tin3 (List.mem_of_getElem? (i := 91) rfl)) rfl
theorem q687 : (Cond.methodLink "BlessLoanLaw" (35 : Nat) ({ cls := "BlessLoan", name := "owed", desc := "(II)I" } : MethodName)) ∈ gtb := gtb_in (tin3 (List.mem_of_getElem? (i := 92) rfl)) rfl
theorem q688 : (Cond.instanceMethod ({ cls := "BlessLoan", name := "owed", desc := "(II)I" } : MethodName)) ∈ gtb := gtb_in (tin3 (List.mem_of_getElem? (i := 93) rfl)) rfl
theorem q689 : (Cond.selects "BlessLoan" ({ cls := "BlessLoan", name := "owed", desc := "(II)I" } : MethodName) ({ cls := "BlessLoan", name := "owed", desc := "(II)I" } : MethodName)) ∈ gtb := gtb_in (tin3 (List.mem_of_getElem? (i := 94) rfl)) rfl
theorem q690 : (Cond.code ({ cls := "BlessLoan", name := "owed", desc := "(II)I" } : MethodName) prog_1_method_7_code (3 : Nat) (Option.some FieldType.int)) ∈ gtb := gtb_in (tin3 (List.mem_of_getElem? (i := 95) rfl)) rfl
theorem q691 : (Cond.methodLink "BlessLoan" (165 : Nat) ({ cls := "BlessLoan$Town", name := "hasBoth", desc := "(II)Z" } : MethodName)) ∈ gtb := gtb_in (tin3 (List.mem_of_getElem? (i := 96) rfl)) rfl
theorem q692 : (Cond.instanceMethod ({ cls := "BlessLoan$Town", name := "hasBoth", desc := "(II)Z" } : MethodName)) ∈ gtb := gtb_in (tin3 (List.mem_of_getElem? (i := 97) rfl)) rfl
theorem q693 : (Cond.selects "BlessLoan$Town" ({ cls := "BlessLoan$Town", name := "hasBoth", desc := "(II)Z" } : MethodName) ({ cls := "BlessLoan$Town", name := "hasBoth", desc := "(II)Z" } : MethodName)) ∈ gtb := gtb_in (tin3 (List.mem_of_getElem? (i := 98) rfl)) rfl
theorem q694 : (Cond.code ({ cls := "BlessLoan$Town", name := "hasBoth", desc := "(II)Z" } : MethodName) prog_12_method_7_code (3 : Nat) (Option.some FieldType.boolean)) ∈ gtb := gtb_in (tin3 (List.mem_of_getElem? (i := 99) rfl)) rfl
theorem q695 : (Cond.methodLink "BlessLoan$Town" (77 : Nat) ({ cls := "BlessLoan$Town", name := "has", desc := "(I)Z" } : MethodName)) ∈ gtb := gtb_in (tin3 (List.mem_of_getElem? (i := 100) rfl)) rfl
theorem q696 : (Cond.methodLink "BlessLoanLaw" (39 : Nat) ({ cls := "BlessLoan", name := "lend", desc := "(III)I" } : MethodName)) ∈ gtb := gtb_in (tin3 (List.mem_of_getElem? (i := 101) rfl)) rfl
theorem q697 : (Cond.instanceMethod ({ cls := "BlessLoan", name := "lend", desc := "(III)I" } : MethodName)) ∈ gtb := gtb_in (tin3 (List.mem_of_getElem? (i := 102) rfl)) rfl
theorem q698 : (Cond.selects "BlessLoan" ({ cls := "BlessLoan", name := "lend", desc := "(III)I" } : MethodName) ({ cls := "BlessLoan", name := "lend", desc := "(III)I" } : MethodName)) ∈ gtb := gtb_in (tin3 (List.mem_of_getElem? (i := 103) rfl)) rfl
theorem q699 : (Cond.code ({ cls := "BlessLoan", name := "lend", desc := "(III)I" } : MethodName) prog_1_method_8_code (5 : Nat) (Option.some FieldType.int)) ∈ gtb := gtb_in (tin3 (List.mem_of_getElem? (i := 104) rfl)) rfl
theorem q700 : (Cond.methodLink "BlessLoanLaw" (44 : Nat) ({ cls := "BlessLoan", name := "net", desc := "(I)I" } : MethodName)) ∈ gtb := gtb_in (tin3 (List.mem_of_getElem? (i := 105) rfl)) rfl
theorem q701 : (Cond.instanceMethod ({ cls := "BlessLoan", name := "net", desc := "(I)I" } : MethodName)) ∈ gtb := gtb_in (tin3 (List.mem_of_getElem? (i := 106) rfl)) rfl
theorem q702 : (Cond.selects "BlessLoan" ({ cls := "BlessLoan", name := "net", desc := "(I)I" } : MethodName) ({ cls := "BlessLoan", name := "net", desc := "(I)I" } : MethodName)) ∈ gtb := gtb_in (tin3 (List.mem_of_getElem? (i := 107) rfl)) rfl
theorem q703 : (Cond.code ({ cls := "BlessLoan", name := "net", desc := "(I)I" } : MethodName) prog_1_method_9_code (2 : Nat) (Option.some FieldType.int)) ∈ gtb := gtb_in (tin3 (List.mem_of_getElem? (i := 108) rfl)) rfl
theorem q704 : (Cond.constant "BlessLoan" (172 : Nat) (-100000 : Int32)) ∈ gtb := gtb_in (tin3 (List.mem_of_getElem? (i := 109) rfl)) rfl
theorem q705 : (Cond.methodLink "BlessLoan" (173 : Nat) ({ cls := "BlessLoan$Town", name := "owedTo", desc := "(I)I" } : MethodName)) ∈ gtb := gtb_in (tin3 (List.mem_of_getElem? (i := 110) rfl)) rfl
theorem q706 : (Cond.instanceMethod ({ cls := "BlessLoan$Town", name := "owedTo", desc := "(I)I" } : MethodName)) ∈ gtb := gtb_in (tin3 (List.mem_of_getElem? (i := 111) rfl)) rfl
theorem q707 : (Cond.selects "BlessLoan$Town" ({ cls := "BlessLoan$Town", name := "owedTo", desc := "(I)I" } : MethodName) ({ cls := "BlessLoan$Town", name := "owedTo", desc := "(I)I" } : MethodName)) ∈ gtb := gtb_in (tin3 (List.mem_of_getElem? (i := 112) rfl)) rfl
theorem q708 : (Cond.code ({ cls := "BlessLoan$Town", name := "owedTo", desc := "(I)I" } : MethodName) prog_12_method_14_code (4 : Nat) (Option.some FieldType.int)) ∈ gtb := gtb_in (tin3 (List.mem_of_getElem? (i := 113) rfl)) rfl
theorem q709 : (Cond.methodLink "BlessLoan" (176 : Nat) ({ cls := "BlessLoan$Town", name := "owedBy", desc := "(I)I" } : MethodName)) ∈ gtb := gtb_in (tin3 (List.mem_of_getElem? (i := 114) rfl)) rfl
theorem q710 : (Cond.instanceMethod ({ cls := "BlessLoan$Town", name := "owedBy", desc := "(I)I" } : MethodName)) ∈ gtb := gtb_in (tin3 (List.mem_of_getElem? (i := 115) rfl)) rfl
theorem q711 : (Cond.selects "BlessLoan$Town" ({ cls := "BlessLoan$Town", name := "owedBy", desc := "(I)I" } : MethodName) ({ cls := "BlessLoan$Town", name := "owedBy", desc := "(I)I" } : MethodName)) ∈ gtb := gtb_in (tin3 (List.mem_of_getElem? (i := 116) rfl)) rfl
theorem q712 : (Cond.code ({ cls := "BlessLoan$Town", name := "owedBy", desc := "(I)I" } : MethodName) prog_12_method_15_code (4 : Nat) (Option.some FieldType.int)) ∈ gtb := gtb_in (tin3 (List.mem_of_getElem? (i := 117) rfl)) rfl
theorem q713 : (Cond.methodLink "BlessLoanLaw" (49 : Nat) ({ cls := "BlessLoan", name := "terms", desc := "(II)I" } : MethodName)) ∈ gtb := gtb_in (tin3 (List.mem_of_getElem? (i := 118) rfl)) rfl
theorem q714 : (Cond.instanceMethod ({ cls := "BlessLoan", name := "terms", desc := "(II)I" } : MethodName)) ∈ gtb := gtb_in (tin3 (List.mem_of_getElem? (i := 119) rfl)) rfl
theorem q715 : (Cond.selects "BlessLoan" ({ cls := "BlessLoan", name := "terms", desc := "(II)I" } : MethodName) ({ cls := "BlessLoan", name := "terms", desc := "(II)I" } : MethodName)) ∈ gtb := gtb_in (tin3 (List.mem_of_getElem? (i := 120) rfl)) rfl
theorem q716 : (Cond.code ({ cls := "BlessLoan", name := "terms", desc := "(II)I" } : MethodName) prog_1_method_10_code (4 : Nat) (Option.some FieldType.int)) ∈ gtb := gtb_in (tin3 (List.mem_of_getElem? (i := 121) rfl)) rfl
theorem q717 : (Cond.methodLink "BlessLoanLaw" (53 : Nat) ({ cls := "BlessLoan", name := "feed", desc := "(IIIII)I" } : MethodName)) ∈ gtb := gtb_in (tin3 (List.mem_of_getElem? (i := 122) rfl)) rfl
theorem q718 : (Cond.instanceMethod ({ cls := "BlessLoan", name := "feed", desc := "(IIIII)I" } : MethodName)) ∈ gtb := gtb_in (tin3 (List.mem_of_getElem? (i := 123) rfl)) rfl
theorem q719 : (Cond.selects "BlessLoan" ({ cls := "BlessLoan", name := "feed", desc := "(IIIII)I" } : MethodName) ({ cls := "BlessLoan", name := "feed", desc := "(IIIII)I" } : MethodName)) ∈ gtb := gtb_in (tin3 (List.mem_of_getElem? (i := 124) rfl)) rfl
theorem q720 : (Cond.code ({ cls := "BlessLoan", name := "feed", desc := "(IIIII)I" } : MethodName) prog_1_method_11_code (6 : Nat) (Option.some FieldType.int)) ∈ gtb := gtb_in (tin3 (List.mem_of_getElem? (i := 125) rfl)) rfl
theorem q721 : (Cond.methodLink "BlessLoan" (185 : Nat) ({ cls := "BlessLoan$Reader", name := "put", desc := "(I)V" } : MethodName)) ∈ gtb := gtb_in (tin3 (List.mem_of_getElem? (i := 126) rfl)) rfl
theorem q722 : (Cond.instanceMethod ({ cls := "BlessLoan$Reader", name := "put", desc := "(I)V" } : MethodName)) ∈ gtb := gtb_in (tin3 (List.mem_of_getElem? (i := 127) rfl)) rfl
theorem q723 : (Cond.selects "BlessLoan$Reader" ({ cls := "BlessLoan$Reader", name := "put", desc := "(I)V" } : MethodName) ({ cls := "BlessLoan$Reader", name := "put", desc := "(I)V" } : MethodName)) ∈ gtb := gtb_in (tin3 (List.mem_of_getElem? (i := 128) rfl)) rfl
theorem q724 : (Cond.code ({ cls := "BlessLoan$Reader", name := "put", desc := "(I)V" } : MethodName) prog_8_method_2_code (3 : Nat) (Option.none : Option FieldType)) ∈ gtb := gtb_in (tin3 (List.mem_of_getElem? (i := 129) rfl)) rfl
theorem q725 : (Cond.methodLink "BlessLoanLaw" (58 : Nat) ({ cls := "BlessLoan", name := "end", desc := "(I)I" } : MethodName)) ∈ gtb := gtb_in (tin3 (List.mem_of_getElem? (i := 130) rfl)) rfl
theorem q726 : (Cond.instanceMethod ({ cls := "BlessLoan", name := "end", desc := "(I)I" } : MethodName)) ∈ gtb := gtb_in (tin3 (List.mem_of_getElem? (i := 131) rfl)) rfl
theorem q727 : (Cond.selects "BlessLoan" ({ cls := "BlessLoan", name := "end", desc := "(I)I" } : MethodName) ({ cls := "BlessLoan", name := "end", desc := "(I)I" } : MethodName)) ∈ gtb := gtb_in (tin3 (List.mem_of_getElem? (i := 132) rfl)) rfl
theorem q728 : (Cond.code ({ cls := "BlessLoan", name := "end", desc := "(I)I" } : MethodName) prog_1_method_12_code (2 : Nat) (Option.some FieldType.int)) ∈ gtb := gtb_in (tin3 (List.mem_of_getElem? (i := 133) rfl)) rfl
theorem q729 : (Cond.methodLink "BlessLoanLaw" (62 : Nat) ({ cls := "BlessLoan", name := "row", desc := "()I" } : MethodName)) ∈ gtb := gtb_in (tin3 (List.mem_of_getElem? (i := 134) rfl)) rfl
theorem q730 : (Cond.instanceMethod ({ cls := "BlessLoan", name := "row", desc := "()I" } : MethodName)) ∈ gtb := gtb_in (tin3 (List.mem_of_getElem? (i := 135) rfl)) rfl
theorem q731 : (Cond.selects "BlessLoan" ({ cls := "BlessLoan", name := "row", desc := "()I" } : MethodName) ({ cls := "BlessLoan", name := "row", desc := "()I" } : MethodName)) ∈ gtb := gtb_in (tin3 (List.mem_of_getElem? (i := 136) rfl)) rfl
theorem q732 : (Cond.code ({ cls := "BlessLoan", name := "row", desc := "()I" } : MethodName) prog_1_method_13_code (4 : Nat) (Option.some FieldType.int)) ∈ gtb := gtb_in (tin3 (List.mem_of_getElem? (i := 137) rfl)) rfl
theorem q733 : (Cond.methodLink "BlessLoan" (189 : Nat) ({ cls := "BlessLoan", name := "settleFrom", desc := "(I)Z" } : MethodName)) ∈ gtb := gtb_in (tin3 (List.mem_of_getElem? (i := 138) rfl)) rfl
theorem q735 : (Cond.instanceMethod ({ cls := "BlessLoan", name := "settleFrom", desc := "(I)Z" } : MethodName)) ∈ gtb := gtb_in (tin3 (List.mem_of_getElem? (i := 140) rfl)) rfl
theorem q736 : (Cond.code ({ cls := "BlessLoan", name := "settleFrom", desc := "(I)Z" } : MethodName) prog_1_method_49_code (3 : Nat) (Option.some FieldType.boolean)) ∈ gtb := gtb_in (tin3 (List.mem_of_getElem? (i := 141) rfl)) rfl
theorem q737 : (Cond.methodLink "BlessLoanLaw" (67 : Nat) ({ cls := "BlessLoan", name := "hiccups", desc := "()I" } : MethodName)) ∈ gtb := gtb_in (tin3 (List.mem_of_getElem? (i := 142) rfl)) rfl
theorem q738 : (Cond.instanceMethod ({ cls := "BlessLoan", name := "hiccups", desc := "()I" } : MethodName)) ∈ gtb := gtb_in (tin3 (List.mem_of_getElem? (i := 143) rfl)) rfl
theorem q739 : (Cond.selects "BlessLoan" ({ cls := "BlessLoan", name := "hiccups", desc := "()I" } : MethodName) ({ cls := "BlessLoan", name := "hiccups", desc := "()I" } : MethodName)) ∈ gtb := gtb_in (tin3 (List.mem_of_getElem? (i := 144) rfl)) rfl
theorem q740 : (Cond.code ({ cls := "BlessLoan", name := "hiccups", desc := "()I" } : MethodName) prog_1_method_14_code (1 : Nat) (Option.some FieldType.int)) ∈ gtb := gtb_in (tin3 (List.mem_of_getElem? (i := 145) rfl)) rfl
theorem q741 : (Cond.methodLink "BlessLoanLaw" (71 : Nat) ({ cls := "BlessLoan", name := "law", desc := "()I" } : MethodName)) ∈ gtb := gtb_in (tin3 (List.mem_of_getElem? (i := 146) rfl)) rfl
theorem q742 : (Cond.instanceMethod ({ cls := "BlessLoan", name := "law", desc := "()I" } : MethodName)) ∈ gtb := gtb_in (tin3 (List.mem_of_getElem? (i := 147) rfl)) rfl
theorem q743 : (Cond.selects "BlessLoan" ({ cls := "BlessLoan", name := "law", desc := "()I" } : MethodName) ({ cls := "BlessLoan", name := "law", desc := "()I" } : MethodName)) ∈ gtb := gtb_in (tin3 (List.mem_of_getElem? (i := 148) rfl)) rfl
theorem q744 : (Cond.code ({ cls := "BlessLoan", name := "law", desc := "()I" } : MethodName) prog_1_method_15_code (1 : Nat) (Option.some FieldType.int)) ∈ gtb := gtb_in (tin3 (List.mem_of_getElem? (i := 149) rfl)) rfl
theorem q745 : (Cond.methodLink "BlessLoan" (195 : Nat) ({ cls := "BlessLoan", name := "readTape", desc := "(Z)Z" } : MethodName)) ∈ gtb := gtb_in (tin3 (List.mem_of_getElem? (i := 150) rfl)) rfl
theorem q747 : (Cond.instanceMethod ({ cls := "BlessLoan", name := "readTape", desc := "(Z)Z" } : MethodName)) ∈ gtb := gtb_in (tin3 (List.mem_of_getElem? (i := 152) rfl)) rfl
theorem q748 : (Cond.code ({ cls := "BlessLoan", name := "readTape", desc := "(Z)Z" } : MethodName) prog_1_method_48_code (3 : Nat) (Option.some FieldType.boolean)) ∈ gtb := gtb_in (tin3 (List.mem_of_getElem? (i := 153) rfl)) rfl
theorem q749 : (Cond.methodLink "BlessLoan" (356 : Nat) ({ cls := "BlessLoan$Reader", name := "readText", desc := "(Z)Z" } : MethodName)) ∈ gtb := gtb_in (tin3 (List.mem_of_getElem? (i := 154) rfl)) rfl
theorem q750 : (Cond.instanceMethod ({ cls := "BlessLoan$Reader", name := "readText", desc := "(Z)Z" } : MethodName)) ∈ gtb := gtb_in (tin3 (List.mem_of_getElem? (i := 155) rfl)) rfl
theorem q751 : (Cond.selects "BlessLoan$Reader" ({ cls := "BlessLoan$Reader", name := "readText", desc := "(Z)Z" } : MethodName) ({ cls := "BlessLoan$Reader", name := "readText", desc := "(Z)Z" } : MethodName)) ∈ gtb := gtb_in (tin3 (List.mem_of_getElem? (i := 156) rfl)) rfl
theorem q752 : (Cond.code ({ cls := "BlessLoan$Reader", name := "readText", desc := "(Z)Z" } : MethodName) prog_8_method_3_code (3 : Nat) (Option.some FieldType.boolean)) ∈ gtb := gtb_in (tin3 (List.mem_of_getElem? (i := 157) rfl)) rfl
theorem q753 : (Cond.methodLink "BlessLoan$Reader" (53 : Nat) ({ cls := "BlessLoan$Reader", name := "advance", desc := "()V" } : MethodName)) ∈ gtb := gtb_in (tin3 (List.mem_of_getElem? (i := 158) rfl)) rfl
theorem q755 : (Cond.instanceMethod ({ cls := "BlessLoan$Reader", name := "advance", desc := "()V" } : MethodName)) ∈ gtb := gtb_in (tin3 (List.mem_of_getElem? (i := 160) rfl)) rfl
theorem q756 : (Cond.code ({ cls := "BlessLoan$Reader", name := "advance", desc := "()V" } : MethodName) prog_8_method_4_code (1 : Nat) (Option.none : Option FieldType)) ∈ gtb := gtb_in (tin3 (List.mem_of_getElem? (i := 161) rfl)) rfl
theorem q757 : (Cond.methodLink "BlessLoan$Reader" (64 : Nat) ({ cls := "BlessLoan$Reader", name := "sortOf", desc := "(I)I" } : MethodName)) ∈ gtb := gtb_in (tin3 (List.mem_of_getElem? (i := 162) rfl)) rfl
theorem q758 : (Cond.static ({ cls := "BlessLoan$Reader", name := "sortOf", desc := "(I)I" } : MethodName)) ∈ gtb := gtb_in (tin3 (List.mem_of_getElem? (i := 163) rfl)) rfl
theorem q759 : (Cond.code ({ cls := "BlessLoan$Reader", name := "sortOf", desc := "(I)I" } : MethodName) prog_8_method_5_code (1 : Nat) (Option.some FieldType.int)) ∈ gtb := gtb_in (tin3 (List.mem_of_getElem? (i := 164) rfl)) rfl
theorem q760 : (Cond.methodLink "BlessLoan$Reader" (56 : Nat) ({ cls := "BlessLoan$Reader", name := "readClause", desc := "(I)Z" } : MethodName)) ∈ gtb := gtb_in (tin3 (List.mem_of_getElem? (i := 165) rfl)) rfl
theorem q762 : (Cond.instanceMethod ({ cls := "BlessLoan$Reader", name := "readClause", desc := "(I)Z" } : MethodName)) ∈ gtb := gtb_in (tin3 (List.mem_of_getElem? (i := 167) rfl)) rfl
theorem q763 : (Cond.code ({ cls := "BlessLoan$Reader", name := "readClause", desc := "(I)Z" } : MethodName) prog_8_method_10_code (3 : Nat) (Option.some FieldType.boolean)) ∈ gtb := gtb_in (tin3 (List.mem_of_getElem? (i := 168) rfl)) rfl
theorem q766 : (Cond.methodLink "BlessLoan$Reader" (68 : Nat) ({ cls := "BlessLoan$Reader", name := "among", desc := "(Ljava/lang/String;)I" } : MethodName)) ∈ gtb := gtb_in (tin3 (List.mem_of_getElem? (i := 171) rfl)) rfl
theorem q768 : (Cond.instanceMethod ({ cls := "BlessLoan$Reader", name := "among", desc := "(Ljava/lang/String;)I" } : MethodName)) ∈ gtb := gtb_in (tin3 (List.mem_of_getElem? (i := 173) rfl)) rfl
theorem q769 : (Cond.code ({ cls := "BlessLoan$Reader", name := "among", desc := "(Ljava/lang/String;)I" } : MethodName) prog_8_method_8_code (7 : Nat) (Option.some FieldType.int)) ∈ gtb := gtb_in (tin3 (List.mem_of_getElem? (i := 174) rfl)) rfl
theorem q770 : (Cond.methodLink "BlessLoan$Reader" (72 : Nat) ({ cls := "java/lang/String", name := "length", desc := "()I" } : MethodName)) ∈ gtb := gtb_in (tin3 (List.mem_of_getElem? (i := 175) rfl)) rfl
theorem q780 : (Cond.methodLink "BlessLoan$Reader" (77 : Nat) ({ cls := "java/lang/String", name := "charAt", desc := "(I)C" } : MethodName)) ∈ gtb := gtb_in (tin3 (List.mem_of_getElem? (i := 185) rfl)) rfl
theorem q818 : (Cond.methodLink "BlessLoan$Reader" (103 : Nat) ({ cls := "BlessLoan$Reader", name := "readOrder", desc := "(II)Z" } : MethodName)) ∈ gtb := gtb_in (tin3 (List.mem_of_getElem? (i := 223) rfl)) rfl
theorem q820 : (Cond.instanceMethod ({ cls := "BlessLoan$Reader", name := "readOrder", desc := "(II)Z" } : MethodName)) ∈ gtb := gtb_in (tin3 (List.mem_of_getElem? (i := 225) rfl)) rfl
theorem q821 : (Cond.code ({ cls := "BlessLoan$Reader", name := "readOrder", desc := "(II)Z" } : MethodName) prog_8_method_11_code (3 : Nat) (Option.some FieldType.boolean)) ∈ gtb := gtb_in (tin3 (List.mem_of_getElem? (i := 226) rfl)) rfl
theorem q822 : (Cond.methodLink "BlessLoan$Reader" (107 : Nat) ({ cls := "BlessLoan$Reader", name := "readSum", desc := "()Z" } : MethodName)) ∈ gtb := gtb_in (tin3 (List.mem_of_getElem? (i := 227) rfl)) rfl
theorem q824 : (Cond.instanceMethod ({ cls := "BlessLoan$Reader", name := "readSum", desc := "()Z" } : MethodName)) ∈ gtb := gtb_in (tin3 (List.mem_of_getElem? (i := 229) rfl)) rfl
theorem q825 : (Cond.code ({ cls := "BlessLoan$Reader", name := "readSum", desc := "()Z" } : MethodName) prog_8_method_18_code (4 : Nat) (Option.some FieldType.boolean)) ∈ gtb := gtb_in (tin3 (List.mem_of_getElem? (i := 230) rfl)) rfl
theorem q826 : (Cond.methodLink "BlessLoan$Reader" (161 : Nat) ({ cls := "BlessLoan$Reader", name := "readTerm", desc := "()Z" } : MethodName)) ∈ gtb := gtb_in (tin3 (List.mem_of_getElem? (i := 231) rfl)) rfl
theorem q828 : (Cond.instanceMethod ({ cls := "BlessLoan$Reader", name := "readTerm", desc := "()Z" } : MethodName)) ∈ gtb := gtb_in (tin3 (List.mem_of_getElem? (i := 233) rfl)) rfl
theorem q829 : (Cond.code ({ cls := "BlessLoan$Reader", name := "readTerm", desc := "()Z" } : MethodName) prog_8_method_19_code (4 : Nat) (Option.some FieldType.boolean)) ∈ gtb := gtb_in (tin3 (List.mem_of_getElem? (i := 234) rfl)) rfl
theorem q830 : (Cond.methodLink "BlessLoan$Reader" (164 : Nat) ({ cls := "BlessLoan$Reader", name := "readPart", desc := "()Z" } : MethodName)) ∈ gtb := gtb_in (tin3 (List.mem_of_getElem? (i := 235) rfl)) rfl
theorem q832 : (Cond.instanceMethod ({ cls := "BlessLoan$Reader", name := "readPart", desc := "()Z" } : MethodName)) ∈ gtb := gtb_in (tin3 (List.mem_of_getElem? (i := 237) rfl)) rfl
theorem q833 : (Cond.code ({ cls := "BlessLoan$Reader", name := "readPart", desc := "()Z" } : MethodName) prog_8_method_20_code (4 : Nat) (Option.some FieldType.boolean)) ∈ gtb := gtb_in (tin3 (List.mem_of_getElem? (i := 238) rfl)) rfl
theorem q834 : (Cond.methodLink "BlessLoan$Reader" (60 : Nat) ({ cls := "BlessLoan$Reader", name := "isSign", desc := "(C)Z" } : MethodName)) ∈ gtb := gtb_in (tin3 (List.mem_of_getElem? (i := 239) rfl)) rfl
theorem q836 : (Cond.instanceMethod ({ cls := "BlessLoan$Reader", name := "isSign", desc := "(C)Z" } : MethodName)) ∈ gtb := gtb_in (tin4 (List.mem_of_getElem? (i := 1) rfl)) rfl
theorem q837 : (Cond.code ({ cls := "BlessLoan$Reader", name := "isSign", desc := "(C)Z" } : MethodName) prog_8_method_6_code (2 : Nat) (Option.some FieldType.boolean)) ∈ gtb := gtb_in (tin4 (List.mem_of_getElem? (i := 2) rfl)) rfl
theorem q838 : (Cond.methodLink "BlessLoan$Reader" (155 : Nat) ({ cls := "BlessLoan$Reader", name := "readInBrackets", desc := "(C)Z" } : MethodName)) ∈ gtb := gtb_in (tin4 (List.mem_of_getElem? (i := 3) rfl)) rfl
theorem q840 : (Cond.instanceMethod ({ cls := "BlessLoan$Reader", name := "readInBrackets", desc := "(C)Z" } : MethodName)) ∈ gtb := gtb_in (tin4 (List.mem_of_getElem? (i := 5) rfl)) rfl
theorem q841 : (Cond.code ({ cls := "BlessLoan$Reader", name := "readInBrackets", desc := "(C)Z" } : MethodName) prog_8_method_17_code (3 : Nat) (Option.some FieldType.boolean)) ∈ gtb := gtb_in (tin4 (List.mem_of_getElem? (i := 6) rfl)) rfl
theorem q842 : (Cond.methodLink "BlessLoan$Reader" (120 : Nat) ({ cls := "BlessLoan$Reader", name := "readTest", desc := "()Z" } : MethodName)) ∈ gtb := gtb_in (tin4 (List.mem_of_getElem? (i := 7) rfl)) rfl
theorem q844 : (Cond.instanceMethod ({ cls := "BlessLoan$Reader", name := "readTest", desc := "()Z" } : MethodName)) ∈ gtb := gtb_in (tin4 (List.mem_of_getElem? (i := 9) rfl)) rfl
theorem q845 : (Cond.code ({ cls := "BlessLoan$Reader", name := "readTest", desc := "()Z" } : MethodName) prog_8_method_13_code (4 : Nat) (Option.some FieldType.boolean)) ∈ gtb := gtb_in (tin4 (List.mem_of_getElem? (i := 10) rfl)) rfl
theorem q846 : (Cond.methodLink "BlessLoan$Reader" (136 : Nat) ({ cls := "BlessLoan$Reader", name := "readBoth", desc := "()Z" } : MethodName)) ∈ gtb := gtb_in (tin4 (List.mem_of_getElem? (i := 11) rfl)) rfl
theorem q848 : (Cond.instanceMethod ({ cls := "BlessLoan$Reader", name := "readBoth", desc := "()Z" } : MethodName)) ∈ gtb := gtb_in (tin4 (List.mem_of_getElem? (i := 13) rfl)) rfl
theorem q849 : (Cond.code ({ cls := "BlessLoan$Reader", name := "readBoth", desc := "()Z" } : MethodName) prog_8_method_14_code (4 : Nat) (Option.some FieldType.boolean)) ∈ gtb := gtb_in (tin4 (List.mem_of_getElem? (i := 14) rfl)) rfl
theorem q850 : (Cond.methodLink "BlessLoan$Reader" (148 : Nat) ({ cls := "BlessLoan$Reader", name := "readPlain", desc := "()Z" } : MethodName)) ∈ gtb := gtb_in (tin4 (List.mem_of_getElem? (i := 15) rfl)) rfl
theorem q852 : (Cond.instanceMethod ({ cls := "BlessLoan$Reader", name := "readPlain", desc := "()Z" } : MethodName)) ∈ gtb := gtb_in (tin4 (List.mem_of_getElem? (i := 17) rfl)) rfl
theorem q853 : (Cond.code ({ cls := "BlessLoan$Reader", name := "readPlain", desc := "()Z" } : MethodName) prog_8_method_15_code (3 : Nat) (Option.some FieldType.boolean)) ∈ gtb := gtb_in (tin4 (List.mem_of_getElem? (i := 18) rfl)) rfl
theorem q855 : (Cond.methodLink "BlessLoan$Reader" (116 : Nat) ({ cls := "BlessLoan$Reader", name := "isWord", desc := "(Ljava/lang/String;)Z" } : MethodName)) ∈ gtb := gtb_in (tin4 (List.mem_of_getElem? (i := 20) rfl)) rfl
theorem q857 : (Cond.instanceMethod ({ cls := "BlessLoan$Reader", name := "isWord", desc := "(Ljava/lang/String;)Z" } : MethodName)) ∈ gtb := gtb_in (tin4 (List.mem_of_getElem? (i := 22) rfl)) rfl
theorem q858 : (Cond.code ({ cls := "BlessLoan$Reader", name := "isWord", desc := "(Ljava/lang/String;)Z" } : MethodName) prog_8_method_7_code (2 : Nat) (Option.some FieldType.boolean)) ∈ gtb := gtb_in (tin4 (List.mem_of_getElem? (i := 23) rfl)) rfl
theorem q859 : (Cond.methodLink "BlessLoan$Reader" (158 : Nat) ({ cls := "BlessLoan$Reader", name := "readComparison", desc := "()Z" } : MethodName)) ∈ gtb := gtb_in (tin4 (List.mem_of_getElem? (i := 24) rfl)) rfl
theorem q861 : (Cond.instanceMethod ({ cls := "BlessLoan$Reader", name := "readComparison", desc := "()Z" } : MethodName)) ∈ gtb := gtb_in (tin4 (List.mem_of_getElem? (i := 26) rfl)) rfl
theorem q862 : (Cond.code ({ cls := "BlessLoan$Reader", name := "readComparison", desc := "()Z" } : MethodName) prog_8_method_16_code (2 : Nat) (Option.some FieldType.boolean)) ∈ gtb := gtb_in (tin4 (List.mem_of_getElem? (i := 27) rfl)) rfl
theorem q863 : (Cond.methodLink "BlessLoan$Reader" (141 : Nat) ({ cls := "BlessLoan$Text", name := "emit", desc := "(II)I" } : MethodName)) ∈ gtb := gtb_in (tin4 (List.mem_of_getElem? (i := 28) rfl)) rfl
theorem q864 : (Cond.instanceMethod ({ cls := "BlessLoan$Text", name := "emit", desc := "(II)I" } : MethodName)) ∈ gtb := gtb_in (tin4 (List.mem_of_getElem? (i := 29) rfl)) rfl
theorem q865 : (Cond.selects "BlessLoan$Text" ({ cls := "BlessLoan$Text", name := "emit", desc := "(II)I" } : MethodName) ({ cls := "BlessLoan$Text", name := "emit", desc := "(II)I" } : MethodName)) ∈ gtb := gtb_in (tin4 (List.mem_of_getElem? (i := 30) rfl)) rfl
theorem q866 : (Cond.code ({ cls := "BlessLoan$Text", name := "emit", desc := "(II)I" } : MethodName) prog_11_method_3_code (3 : Nat) (Option.some FieldType.int)) ∈ gtb := gtb_in (tin4 (List.mem_of_getElem? (i := 31) rfl)) rfl
theorem q868 : (Cond.methodLink "BlessLoan$Reader" (144 : Nat) ({ cls := "BlessLoan$Text", name := "landHere", desc := "(I)V" } : MethodName)) ∈ gtb := gtb_in (tin4 (List.mem_of_getElem? (i := 33) rfl)) rfl
theorem q869 : (Cond.instanceMethod ({ cls := "BlessLoan$Text", name := "landHere", desc := "(I)V" } : MethodName)) ∈ gtb := gtb_in (tin4 (List.mem_of_getElem? (i := 34) rfl)) rfl
theorem q870 : (Cond.selects "BlessLoan$Text" ({ cls := "BlessLoan$Text", name := "landHere", desc := "(I)V" } : MethodName) ({ cls := "BlessLoan$Text", name := "landHere", desc := "(I)V" } : MethodName)) ∈ gtb := gtb_in (tin4 (List.mem_of_getElem? (i := 35) rfl)) rfl
theorem q871 : (Cond.code ({ cls := "BlessLoan$Text", name := "landHere", desc := "(I)V" } : MethodName) prog_11_method_4_code (2 : Nat) (Option.none : Option FieldType)) ∈ gtb := gtb_in (tin4 (List.mem_of_getElem? (i := 36) rfl)) rfl
theorem q873 : (Cond.methodLink "BlessLoan$Reader" (133 : Nat) ({ cls := "BlessLoan$Reader", name := "numberTo", desc := "(I)I" } : MethodName)) ∈ gtb := gtb_in (tin4 (List.mem_of_getElem? (i := 38) rfl)) rfl
theorem q875 : (Cond.instanceMethod ({ cls := "BlessLoan$Reader", name := "numberTo", desc := "(I)I" } : MethodName)) ∈ gtb := gtb_in (tin4 (List.mem_of_getElem? (i := 40) rfl)) rfl
theorem q876 : (Cond.code ({ cls := "BlessLoan$Reader", name := "numberTo", desc := "(I)I" } : MethodName) prog_8_method_9_code (4 : Nat) (Option.some FieldType.int)) ∈ gtb := gtb_in (tin4 (List.mem_of_getElem? (i := 41) rfl)) rfl
theorem q877 : (Cond.methodLink "BlessLoan$Reader" (81 : Nat) ({ cls := "java/lang/Math", name := "min", desc := "(II)I" } : MethodName)) ∈ gtb := gtb_in (tin4 (List.mem_of_getElem? (i := 42) rfl)) rfl
theorem q883 : (Cond.methodLink "BlessLoan$Reader" (130 : Nat) ({ cls := "BlessLoan$Reader", name := "readTimes", desc := "(I)Z" } : MethodName)) ∈ gtb := gtb_in (tin4 (List.mem_of_getElem? (i := 48) rfl)) rfl
theorem q885 : (Cond.instanceMethod ({ cls := "BlessLoan$Reader", name := "readTimes", desc := "(I)Z" } : MethodName)) ∈ gtb := gtb_in (tin4 (List.mem_of_getElem? (i := 50) rfl)) rfl
theorem q886 : (Cond.code ({ cls := "BlessLoan$Reader", name := "readTimes", desc := "(I)Z" } : MethodName) prog_8_method_12_code (3 : Nat) (Option.some FieldType.boolean)) ∈ gtb := gtb_in (tin4 (List.mem_of_getElem? (i := 51) rfl)) rfl
theorem q888 : (Cond.methodLink "BlessLoan" (207 : Nat) ({ cls := "BlessLoan$Text", name := "kept", desc := "()LBlessLoan$Text;" } : MethodName)) ∈ gtb := gtb_in (tin4 (List.mem_of_getElem? (i := 53) rfl)) rfl
theorem q889 : (Cond.instanceMethod ({ cls := "BlessLoan$Text", name := "kept", desc := "()LBlessLoan$Text;" } : MethodName)) ∈ gtb := gtb_in (tin4 (List.mem_of_getElem? (i := 54) rfl)) rfl
theorem q890 : (Cond.selects "BlessLoan$Text" ({ cls := "BlessLoan$Text", name := "kept", desc := "()LBlessLoan$Text;" } : MethodName) ({ cls := "BlessLoan$Text", name := "kept", desc := "()LBlessLoan$Text;" } : MethodName)) ∈ gtb := gtb_in (tin4 (List.mem_of_getElem? (i := 55) rfl)) rfl
theorem q891 : (Cond.code ({ cls := "BlessLoan$Text", name := "kept", desc := "()LBlessLoan$Text;" } : MethodName) prog_11_method_2_code (2 : Nat) (Option.some (FieldType.object "BlessLoan$Text"))) ∈ gtb := gtb_in (tin4 (List.mem_of_getElem? (i := 56) rfl)) rfl
theorem q892 : (Cond.classLink "BlessLoan$Text" (10 : Nat) "BlessLoan$Text") ∈ gtb := gtb_in (tin4 (List.mem_of_getElem? (i := 57) rfl)) rfl
theorem q893 : (Cond.methodLink "BlessLoan$Text" (49 : Nat) ({ cls := "BlessLoan$Text", name := "<init>", desc := "(II)V" } : MethodName)) ∈ gtb := gtb_in (tin4 (List.mem_of_getElem? (i := 58) rfl)) rfl
theorem q894 : (Cond.methodLink "BlessLoan$Text" (52 : Nat) ({ cls := "java/lang/System", name := "arraycopy", desc := "(Ljava/lang/Object;ILjava/lang/Object;II)V" } : MethodName)) ∈ gtb := gtb_in (tin4 (List.mem_of_getElem? (i := 59) rfl)) rfl
theorem q895 : (Cond.static ({ cls := "java/lang/System", name := "arraycopy", desc := "(Ljava/lang/Object;ILjava/lang/Object;II)V" } : MethodName)) ∈ gtb := gtb_in (tin4 (List.mem_of_getElem? (i := 60) rfl)) rfl
theorem q896 : (Cond.native ({ cls := "java/lang/System", name := "arraycopy", desc := "(Ljava/lang/Object;ILjava/lang/Object;II)V" } : MethodName)) ∈ gtb := gtb_in (tin4 (List.mem_of_getElem? (i := 61) rfl)) rfl
theorem q898 : (Cond.methodLink "BlessLoanLaw" (75 : Nat) ({ cls := "BlessLoan", name := "orders", desc := "()I" } : MethodName)) ∈ gtb := gtb_in (tin4 (List.mem_of_getElem? (i := 63) rfl)) rfl
theorem q899 : (Cond.instanceMethod ({ cls := "BlessLoan", name := "orders", desc := "()I" } : MethodName)) ∈ gtb := gtb_in (tin4 (List.mem_of_getElem? (i := 64) rfl)) rfl
theorem q900 : (Cond.selects "BlessLoan" ({ cls := "BlessLoan", name := "orders", desc := "()I" } : MethodName) ({ cls := "BlessLoan", name := "orders", desc := "()I" } : MethodName)) ∈ gtb := gtb_in (tin4 (List.mem_of_getElem? (i := 65) rfl)) rfl
theorem q901 : (Cond.code ({ cls := "BlessLoan", name := "orders", desc := "()I" } : MethodName) prog_1_method_16_code (1 : Nat) (Option.some FieldType.int)) ∈ gtb := gtb_in (tin4 (List.mem_of_getElem? (i := 66) rfl)) rfl
theorem q902 : (Cond.methodLink "BlessLoan" (213 : Nat) ({ cls := "BlessLoan$Town", name := "become", desc := "(LBlessLoan$Town;)V" } : MethodName)) ∈ gtb := gtb_in (tin4 (List.mem_of_getElem? (i := 67) rfl)) rfl
theorem q903 : (Cond.instanceMethod ({ cls := "BlessLoan$Town", name := "become", desc := "(LBlessLoan$Town;)V" } : MethodName)) ∈ gtb := gtb_in (tin4 (List.mem_of_getElem? (i := 68) rfl)) rfl
theorem q904 : (Cond.selects "BlessLoan$Town" ({ cls := "BlessLoan$Town", name := "become", desc := "(LBlessLoan$Town;)V" } : MethodName) ({ cls := "BlessLoan$Town", name := "become", desc := "(LBlessLoan$Town;)V" } : MethodName)) ∈ gtb := gtb_in (tin4 (List.mem_of_getElem? (i := 69) rfl)) rfl
theorem q905 : (Cond.code ({ cls := "BlessLoan$Town", name := "become", desc := "(LBlessLoan$Town;)V" } : MethodName) prog_12_method_5_code (3 : Nat) (Option.none : Option FieldType)) ∈ gtb := gtb_in (tin4 (List.mem_of_getElem? (i := 70) rfl)) rfl
theorem q906 : (Cond.methodLink "BlessLoan$Town" (71 : Nat) ({ cls := "java/lang/System", name := "arraycopy", desc := "(Ljava/lang/Object;ILjava/lang/Object;II)V" } : MethodName)) ∈ gtb := gtb_in (tin4 (List.mem_of_getElem? (i := 71) rfl)) rfl
theorem q907 : (Cond.methodLink "BlessLoan" (216 : Nat) ({ cls := "BlessLoan$Past", name := "become", desc := "(LBlessLoan$Past;)V" } : MethodName)) ∈ gtb := gtb_in (tin4 (List.mem_of_getElem? (i := 72) rfl)) rfl
theorem q908 : (Cond.instanceMethod ({ cls := "BlessLoan$Past", name := "become", desc := "(LBlessLoan$Past;)V" } : MethodName)) ∈ gtb := gtb_in (tin4 (List.mem_of_getElem? (i := 73) rfl)) rfl
theorem q909 : (Cond.selects "BlessLoan$Past" ({ cls := "BlessLoan$Past", name := "become", desc := "(LBlessLoan$Past;)V" } : MethodName) ({ cls := "BlessLoan$Past", name := "become", desc := "(LBlessLoan$Past;)V" } : MethodName)) ∈ gtb := gtb_in (tin4 (List.mem_of_getElem? (i := 74) rfl)) rfl
theorem q910 : (Cond.code ({ cls := "BlessLoan$Past", name := "become", desc := "(LBlessLoan$Past;)V" } : MethodName) prog_6_method_2_code (2 : Nat) (Option.none : Option FieldType)) ∈ gtb := gtb_in (tin4 (List.mem_of_getElem? (i := 75) rfl)) rfl
theorem q911 : (Cond.methodLink "BlessLoan$Past" (19 : Nat) ({ cls := "java/lang/System", name := "arraycopy", desc := "(Ljava/lang/Object;ILjava/lang/Object;II)V" } : MethodName)) ∈ gtb := gtb_in (tin4 (List.mem_of_getElem? (i := 76) rfl)) rfl
theorem q912 : (Cond.methodLink "BlessLoan" (219 : Nat) ({ cls := "BlessLoan$Clerk", name := "execute", desc := "(LBlessLoan$Text;)I" } : MethodName)) ∈ gtb := gtb_in (tin4 (List.mem_of_getElem? (i := 77) rfl)) rfl
theorem q913 : (Cond.instanceMethod ({ cls := "BlessLoan$Clerk", name := "execute", desc := "(LBlessLoan$Text;)I" } : MethodName)) ∈ gtb := gtb_in (tin4 (List.mem_of_getElem? (i := 78) rfl)) rfl
theorem q914 : (Cond.selects "BlessLoan$Clerk" ({ cls := "BlessLoan$Clerk", name := "execute", desc := "(LBlessLoan$Text;)I" } : MethodName) ({ cls := "BlessLoan$Clerk", name := "execute", desc := "(LBlessLoan$Text;)I" } : MethodName)) ∈ gtb := gtb_in (tin4 (List.mem_of_getElem? (i := 79) rfl)) rfl
theorem q915 : (Cond.code ({ cls := "BlessLoan$Clerk", name := "execute", desc := "(LBlessLoan$Text;)I" } : MethodName) prog_2_method_2_code (4 : Nat) (Option.some FieldType.int)) ∈ gtb := gtb_in (tin4 (List.mem_of_getElem? (i := 80) rfl)) rfl
theorem q916 : (Cond.methodLink "BlessLoan$Clerk" (45 : Nat) ({ cls := "BlessLoan$Clerk", name := "learn", desc := "()V" } : MethodName)) ∈ gtb := gtb_in (tin4 (List.mem_of_getElem? (i := 81) rfl)) rfl
theorem q918 : (Cond.instanceMethod ({ cls := "BlessLoan$Clerk", name := "learn", desc := "()V" } : MethodName)) ∈ gtb := gtb_in (tin4 (List.mem_of_getElem? (i := 83) rfl)) rfl
theorem q919 : (Cond.code ({ cls := "BlessLoan$Clerk", name := "learn", desc := "()V" } : MethodName) prog_2_method_3_code (3 : Nat) (Option.none : Option FieldType)) ∈ gtb := gtb_in (tin4 (List.mem_of_getElem? (i := 84) rfl)) rfl
theorem q920 : (Cond.methodLink "BlessLoan$Clerk" (61 : Nat) ({ cls := "BlessLoan$Town", name := "has", desc := "(I)Z" } : MethodName)) ∈ gtb := gtb_in (tin4 (List.mem_of_getElem? (i := 85) rfl)) rfl
theorem q921 : (Cond.methodLink "BlessLoan$Clerk" (68 : Nat) ({ cls := "BlessLoan$Town", name := "owedTo", desc := "(I)I" } : MethodName)) ∈ gtb := gtb_in (tin4 (List.mem_of_getElem? (i := 86) rfl)) rfl
theorem q922 : (Cond.methodLink "BlessLoan$Clerk" (72 : Nat) ({ cls := "BlessLoan$Town", name := "owedBy", desc := "(I)I" } : MethodName)) ∈ gtb := gtb_in (tin4 (List.mem_of_getElem? (i := 87) rfl)) rfl
theorem q923 : (Cond.methodLink "BlessLoan$Clerk" (48 : Nat) ({ cls := "BlessLoan$Clerk", name := "isWanted", desc := "(LBlessLoan$Text;I)Z" } : MethodName)) ∈ gtb := gtb_in (tin4 (List.mem_of_getElem? (i := 88) rfl)) rfl
theorem q925 : (Cond.instanceMethod ({ cls := "BlessLoan$Clerk", name := "isWanted", desc := "(LBlessLoan$Text;I)Z" } : MethodName)) ∈ gtb := gtb_in (tin4 (List.mem_of_getElem? (i := 90) rfl)) rfl
theorem q926 : (Cond.code ({ cls := "BlessLoan$Clerk", name := "isWanted", desc := "(LBlessLoan$Text;I)Z" } : MethodName) prog_2_method_4_code (3 : Nat) (Option.some FieldType.boolean)) ∈ gtb := gtb_in (tin4 (List.mem_of_getElem? (i := 91) rfl)) rfl
theorem q927 : (Cond.methodLink "BlessLoan$Clerk" (81 : Nat) ({ cls := "BlessLoan$Reckoner", name := "value", desc := "(LBlessLoan$Text;II[I)J" } : MethodName)) ∈ gtb := gtb_in (tin4 (List.mem_of_getElem? (i := 92) rfl)) rfl
theorem q928 : (Cond.methodLink "BlessLoan$Clerk" (52 : Nat) ({ cls := "BlessLoan$Clerk", name := "act", desc := "(LBlessLoan$Text;I)I" } : MethodName)) ∈ gtb := gtb_in (tin4 (List.mem_of_getElem? (i := 93) rfl)) rfl
theorem q930 : (Cond.instanceMethod ({ cls := "BlessLoan$Clerk", name := "act", desc := "(LBlessLoan$Text;I)I" } : MethodName)) ∈ gtb := gtb_in (tin4 (List.mem_of_getElem? (i := 95) rfl)) rfl
theorem q931 : (Cond.code ({ cls := "BlessLoan$Clerk", name := "act", desc := "(LBlessLoan$Text;I)I" } : MethodName) prog_2_method_5_code (6 : Nat) (Option.some FieldType.int)) ∈ gtb := gtb_in (tin4 (List.mem_of_getElem? (i := 96) rfl)) rfl
theorem q932 : (Cond.methodLink "BlessLoan$Clerk" (88 : Nat) ({ cls := "BlessLoan$Deeds", name := "letPass", desc := "()I" } : MethodName)) ∈ gtb := gtb_in (tin4 (List.mem_of_getElem? (i := 97) rfl)) rfl
theorem q933 : (Cond.instanceMethod ({ cls := "BlessLoan$Deeds", name := "letPass", desc := "()I" } : MethodName)) ∈ gtb := gtb_in (tin4 (List.mem_of_getElem? (i := 98) rfl)) rfl
theorem q934 : (Cond.selects "BlessLoan$Deeds" ({ cls := "BlessLoan$Deeds", name := "letPass", desc := "()I" } : MethodName) ({ cls := "BlessLoan$Deeds", name := "letPass", desc := "()I" } : MethodName)) ∈ gtb := gtb_in (tin4 (List.mem_of_getElem? (i := 99) rfl)) rfl
theorem q935 : (Cond.code ({ cls := "BlessLoan$Deeds", name := "letPass", desc := "()I" } : MethodName) prog_3_method_6_code (1 : Nat) (Option.some FieldType.int)) ∈ gtb := gtb_in (tin4 (List.mem_of_getElem? (i := 100) rfl)) rfl
theorem q936 : (Cond.methodLink "BlessLoan$Deeds" (44 : Nat) ({ cls := "BlessLoan$Past", name := "note", desc := "(III)I" } : MethodName)) ∈ gtb := gtb_in (tin4 (List.mem_of_getElem? (i := 101) rfl)) rfl
theorem q937 : (Cond.instanceMethod ({ cls := "BlessLoan$Past", name := "note", desc := "(III)I" } : MethodName)) ∈ gtb := gtb_in (tin4 (List.mem_of_getElem? (i := 102) rfl)) rfl
theorem q938 : (Cond.selects "BlessLoan$Past" ({ cls := "BlessLoan$Past", name := "note", desc := "(III)I" } : MethodName) ({ cls := "BlessLoan$Past", name := "note", desc := "(III)I" } : MethodName)) ∈ gtb := gtb_in (tin4 (List.mem_of_getElem? (i := 103) rfl)) rfl
theorem q939 : (Cond.code ({ cls := "BlessLoan$Past", name := "note", desc := "(III)I" } : MethodName) prog_6_method_3_code (5 : Nat) (Option.some FieldType.int)) ∈ gtb := gtb_in (tin4 (List.mem_of_getElem? (i := 104) rfl)) rfl
theorem q940 : (Cond.methodLink "BlessLoan$Clerk" (104 : Nat) ({ cls := "BlessLoan$Deeds", name := "letSneeze", desc := "(I)I" } : MethodName)) ∈ gtb := gtb_in (tin4 (List.mem_of_getElem? (i := 105) rfl)) rfl
theorem q941 : (Cond.instanceMethod ({ cls := "BlessLoan$Deeds", name := "letSneeze", desc := "(I)I" } : MethodName)) ∈ gtb := gtb_in (tin4 (List.mem_of_getElem? (i := 106) rfl)) rfl
theorem q942 : (Cond.selects "BlessLoan$Deeds" ({ cls := "BlessLoan$Deeds", name := "letSneeze", desc := "(I)I" } : MethodName) ({ cls := "BlessLoan$Deeds", name := "letSneeze", desc := "(I)I" } : MethodName)) ∈ gtb := gtb_in (tin4 (List.mem_of_getElem? (i := 107) rfl)) rfl
theorem q943 : (Cond.code ({ cls := "BlessLoan$Deeds", name := "letSneeze", desc := "(I)I" } : MethodName) prog_3_method_3_code (4 : Nat) (Option.some FieldType.int)) ∈ gtb := gtb_in (tin4 (List.mem_of_getElem? (i := 108) rfl)) rfl
theorem q944 : (Cond.methodLink "BlessLoan$Deeds" (33 : Nat) ({ cls := "BlessLoan$Town", name := "has", desc := "(I)Z" } : MethodName)) ∈ gtb := gtb_in (tin4 (List.mem_of_getElem? (i := 109) rfl)) rfl
theorem q945 : (Cond.methodLink "BlessLoan$Deeds" (50 : Nat) ({ cls := "BlessLoan$Judge", name := "blesser", desc := "(II)I" } : MethodName)) ∈ gtb := gtb_in (tin4 (List.mem_of_getElem? (i := 110) rfl)) rfl
theorem q946 : (Cond.methodLink "BlessLoan$Deeds" (55 : Nat) ({ cls := "BlessLoan$Town", name := "debtOf", desc := "(II)I" } : MethodName)) ∈ gtb := gtb_in (tin4 (List.mem_of_getElem? (i := 111) rfl)) rfl
theorem q947 : (Cond.instanceMethod ({ cls := "BlessLoan$Town", name := "debtOf", desc := "(II)I" } : MethodName)) ∈ gtb := gtb_in (tin4 (List.mem_of_getElem? (i := 112) rfl)) rfl
theorem q948 : (Cond.selects "BlessLoan$Town" ({ cls := "BlessLoan$Town", name := "debtOf", desc := "(II)I" } : MethodName) ({ cls := "BlessLoan$Town", name := "debtOf", desc := "(II)I" } : MethodName)) ∈ gtb := gtb_in (tin4 (List.mem_of_getElem? (i := 113) rfl)) rfl
theorem q949 : (Cond.code ({ cls := "BlessLoan$Town", name := "debtOf", desc := "(II)I" } : MethodName) prog_12_method_17_code (4 : Nat) (Option.some FieldType.int)) ∈ gtb := gtb_in (tin4 (List.mem_of_getElem? (i := 114) rfl)) rfl
theorem q950 : (Cond.methodLink "BlessLoan$Deeds" (61 : Nat) ({ cls := "BlessLoan$Judge", name := "dues", desc := "(II)I" } : MethodName)) ∈ gtb := gtb_in (tin4 (List.mem_of_getElem? (i := 115) rfl)) rfl
theorem q951 : (Cond.instanceMethod ({ cls := "BlessLoan$Judge", name := "dues", desc := "(II)I" } : MethodName)) ∈ gtb := gtb_in (tin4 (List.mem_of_getElem? (i := 116) rfl)) rfl
theorem q952 : (Cond.selects "BlessLoan$Judge" ({ cls := "BlessLoan$Judge", name := "dues", desc := "(II)I" } : MethodName) ({ cls := "BlessLoan$Judge", name := "dues", desc := "(II)I" } : MethodName)) ∈ gtb := gtb_in (tin4 (List.mem_of_getElem? (i := 117) rfl)) rfl
theorem q953 : (Cond.code ({ cls := "BlessLoan$Judge", name := "dues", desc := "(II)I" } : MethodName) prog_5_method_5_code (3 : Nat) (Option.some FieldType.int)) ∈ gtb := gtb_in (tin4 (List.mem_of_getElem? (i := 118) rfl)) rfl
theorem q954 : (Cond.methodLink "BlessLoan$Deeds" (64 : Nat) ({ cls := "BlessLoan$Town", name := "bless", desc := "(III)V" } : MethodName)) ∈ gtb := gtb_in (tin4 (List.mem_of_getElem? (i := 119) rfl)) rfl
theorem q955 : (Cond.instanceMethod ({ cls := "BlessLoan$Town", name := "bless", desc := "(III)V" } : MethodName)) ∈ gtb := gtb_in (tin4 (List.mem_of_getElem? (i := 120) rfl)) rfl
theorem q956 : (Cond.selects "BlessLoan$Town" ({ cls := "BlessLoan$Town", name := "bless", desc := "(III)V" } : MethodName) ({ cls := "BlessLoan$Town", name := "bless", desc := "(III)V" } : MethodName)) ∈ gtb := gtb_in (tin4 (List.mem_of_getElem? (i := 121) rfl)) rfl
theorem q957 : (Cond.code ({ cls := "BlessLoan$Town", name := "bless", desc := "(III)V" } : MethodName) prog_12_method_18_code (5 : Nat) (Option.none : Option FieldType)) ∈ gtb := gtb_in (tin4 (List.mem_of_getElem? (i := 122) rfl)) rfl
theorem q958 : (Cond.methodLink "BlessLoan$Town" (88 : Nat) ({ cls := "BlessLoan$Town", name := "debtOf", desc := "(II)I" } : MethodName)) ∈ gtb := gtb_in (tin4 (List.mem_of_getElem? (i := 123) rfl)) rfl
theorem q959 : (Cond.methodLink "BlessLoan$Town" (91 : Nat) ({ cls := "java/lang/Math", name := "min", desc := "(II)I" } : MethodName)) ∈ gtb := gtb_in (tin4 (List.mem_of_getElem? (i := 124) rfl)) rfl
theorem q960 : (Cond.methodLink "BlessLoan$Clerk" (107 : Nat) ({ cls := "BlessLoan$Deeds", name := "walk", desc := "(II)I" } : MethodName)) ∈ gtb := gtb_in (tin4 (List.mem_of_getElem? (i := 125) rfl)) rfl
theorem q961 : (Cond.instanceMethod ({ cls := "BlessLoan$Deeds", name := "walk", desc := "(II)I" } : MethodName)) ∈ gtb := gtb_in (tin4 (List.mem_of_getElem? (i := 126) rfl)) rfl
theorem q962 : (Cond.selects "BlessLoan$Deeds" ({ cls := "BlessLoan$Deeds", name := "walk", desc := "(II)I" } : MethodName) ({ cls := "BlessLoan$Deeds", name := "walk", desc := "(II)I" } : MethodName)) ∈ gtb := gtb_in (tin4 (List.mem_of_getElem? (i := 127) rfl)) rfl
theorem q963 : (Cond.code ({ cls := "BlessLoan$Deeds", name := "walk", desc := "(II)I" } : MethodName) prog_3_method_2_code (4 : Nat) (Option.some FieldType.int)) ∈ gtb := gtb_in (tin4 (List.mem_of_getElem? (i := 128) rfl)) rfl
theorem q964 : (Cond.methodLink "BlessLoan$Deeds" (27 : Nat) ({ cls := "BlessLoan$Town", name := "isPlace", desc := "(I)Z" } : MethodName)) ∈ gtb := gtb_in (tin4 (List.mem_of_getElem? (i := 129) rfl)) rfl
theorem q965 : (Cond.methodLink "BlessLoan$Deeds" (40 : Nat) ({ cls := "BlessLoan$Town", name := "apart", desc := "(II)I" } : MethodName)) ∈ gtb := gtb_in (tin4 (List.mem_of_getElem? (i := 130) rfl)) rfl
theorem q966 : (Cond.methodLink "BlessLoan$Clerk" (111 : Nat) ({ cls := "BlessLoan$Deeds", name := "release", desc := "(II)I" } : MethodName)) ∈ gtb := gtb_in (tin4 (List.mem_of_getElem? (i := 131) rfl)) rfl
theorem q967 : (Cond.instanceMethod ({ cls := "BlessLoan$Deeds", name := "release", desc := "(II)I" } : MethodName)) ∈ gtb := gtb_in (tin4 (List.mem_of_getElem? (i := 132) rfl)) rfl
theorem q968 : (Cond.selects "BlessLoan$Deeds" ({ cls := "BlessLoan$Deeds", name := "release", desc := "(II)I" } : MethodName) ({ cls := "BlessLoan$Deeds", name := "release", desc := "(II)I" } : MethodName)) ∈ gtb := gtb_in (tin4 (List.mem_of_getElem? (i := 133) rfl)) rfl
theorem q969 : (Cond.code ({ cls := "BlessLoan$Deeds", name := "release", desc := "(II)I" } : MethodName) prog_3_method_4_code (5 : Nat) (Option.some FieldType.int)) ∈ gtb := gtb_in (tin4 (List.mem_of_getElem? (i := 134) rfl)) rfl
theorem q970 : (Cond.methodLink "BlessLoanLaw" (79 : Nat) ({ cls := "BlessLoan", name := "fault", desc := "()I" } : MethodName)) ∈ gtb := gtb_in (tin4 (List.mem_of_getElem? (i := 135) rfl)) rfl
theorem q971 : (Cond.instanceMethod ({ cls := "BlessLoan", name := "fault", desc := "()I" } : MethodName)) ∈ gtb := gtb_in (tin4 (List.mem_of_getElem? (i := 136) rfl)) rfl
theorem q972 : (Cond.selects "BlessLoan" ({ cls := "BlessLoan", name := "fault", desc := "()I" } : MethodName) ({ cls := "BlessLoan", name := "fault", desc := "()I" } : MethodName)) ∈ gtb := gtb_in (tin4 (List.mem_of_getElem? (i := 137) rfl)) rfl
theorem q973 : (Cond.code ({ cls := "BlessLoan", name := "fault", desc := "()I" } : MethodName) prog_1_method_17_code (1 : Nat) (Option.some FieldType.int)) ∈ gtb := gtb_in (tin4 (List.mem_of_getElem? (i := 138) rfl)) rfl
theorem q974 : (Cond.methodLink "BlessLoanLaw" (83 : Nat) ({ cls := "BlessLoan", name := "stopped", desc := "()I" } : MethodName)) ∈ gtb := gtb_in (tin4 (List.mem_of_getElem? (i := 139) rfl)) rfl
theorem q975 : (Cond.instanceMethod ({ cls := "BlessLoan", name := "stopped", desc := "()I" } : MethodName)) ∈ gtb := gtb_in (tin4 (List.mem_of_getElem? (i := 140) rfl)) rfl
theorem q976 : (Cond.selects "BlessLoan" ({ cls := "BlessLoan", name := "stopped", desc := "()I" } : MethodName) ({ cls := "BlessLoan", name := "stopped", desc := "()I" } : MethodName)) ∈ gtb := gtb_in (tin4 (List.mem_of_getElem? (i := 141) rfl)) rfl
theorem q977 : (Cond.code ({ cls := "BlessLoan", name := "stopped", desc := "()I" } : MethodName) prog_1_method_18_code (1 : Nat) (Option.some FieldType.int)) ∈ gtb := gtb_in (tin4 (List.mem_of_getElem? (i := 142) rfl)) rfl
theorem q978 : (Cond.methodLink "BlessLoanLaw" (87 : Nat) ({ cls := "BlessLoan", name := "force", desc := "(I)I" } : MethodName)) ∈ gtb := gtb_in (tin4 (List.mem_of_getElem? (i := 143) rfl)) rfl
theorem q979 : (Cond.instanceMethod ({ cls := "BlessLoan", name := "force", desc := "(I)I" } : MethodName)) ∈ gtb := gtb_in (tin4 (List.mem_of_getElem? (i := 144) rfl)) rfl
theorem q980 : (Cond.selects "BlessLoan" ({ cls := "BlessLoan", name := "force", desc := "(I)I" } : MethodName) ({ cls := "BlessLoan", name := "force", desc := "(I)I" } : MethodName)) ∈ gtb := gtb_in (tin4 (List.mem_of_getElem? (i := 145) rfl)) rfl
theorem q981 : (Cond.code ({ cls := "BlessLoan", name := "force", desc := "(I)I" } : MethodName) prog_1_method_19_code (3 : Nat) (Option.some FieldType.int)) ∈ gtb := gtb_in (tin4 (List.mem_of_getElem? (i := 146) rfl)) rfl
theorem q982 : (Cond.methodLink "BlessLoan" (226 : Nat) ({ cls := "BlessLoan$Town", name := "hasLawOrNone", desc := "(I)Z" } : MethodName)) ∈ gtb := gtb_in (tin4 (List.mem_of_getElem? (i := 147) rfl)) rfl
theorem q983 : (Cond.instanceMethod ({ cls := "BlessLoan$Town", name := "hasLawOrNone", desc := "(I)Z" } : MethodName)) ∈ gtb := gtb_in (tin4 (List.mem_of_getElem? (i := 148) rfl)) rfl
theorem q984 : (Cond.selects "BlessLoan$Town" ({ cls := "BlessLoan$Town", name := "hasLawOrNone", desc := "(I)Z" } : MethodName) ({ cls := "BlessLoan$Town", name := "hasLawOrNone", desc := "(I)Z" } : MethodName)) ∈ gtb := gtb_in (tin4 (List.mem_of_getElem? (i := 149) rfl)) rfl
theorem q985 : (Cond.code ({ cls := "BlessLoan$Town", name := "hasLawOrNone", desc := "(I)Z" } : MethodName) prog_12_method_8_code (2 : Nat) (Option.some FieldType.boolean)) ∈ gtb := gtb_in (tin4 (List.mem_of_getElem? (i := 150) rfl)) rfl
theorem q986 : (Cond.methodLink "BlessLoanLaw" (91 : Nat) ({ cls := "BlessLoan", name := "asks", desc := "(III)I" } : MethodName)) ∈ gtb := gtb_in (tin4 (List.mem_of_getElem? (i := 151) rfl)) rfl
theorem q987 : (Cond.instanceMethod ({ cls := "BlessLoan", name := "asks", desc := "(III)I" } : MethodName)) ∈ gtb := gtb_in (tin4 (List.mem_of_getElem? (i := 152) rfl)) rfl
theorem q988 : (Cond.selects "BlessLoan" ({ cls := "BlessLoan", name := "asks", desc := "(III)I" } : MethodName) ({ cls := "BlessLoan", name := "asks", desc := "(III)I" } : MethodName)) ∈ gtb := gtb_in (tin4 (List.mem_of_getElem? (i := 153) rfl)) rfl
theorem q989 : (Cond.code ({ cls := "BlessLoan", name := "asks", desc := "(III)I" } : MethodName) prog_1_method_20_code (4 : Nat) (Option.some FieldType.int)) ∈ gtb := gtb_in (tin4 (List.mem_of_getElem? (i := 154) rfl)) rfl
theorem q990 : (Cond.methodLink "BlessLoan" (232 : Nat) ({ cls := "BlessLoan$Judge", name := "dues", desc := "(II)I" } : MethodName)) ∈ gtb := gtb_in (tin4 (List.mem_of_getElem? (i := 155) rfl)) rfl
theorem q991 : (Cond.methodLink "BlessLoan" (235 : Nat) ({ cls := "BlessLoan$Judge", name := "bars", desc := "(II)Z" } : MethodName)) ∈ gtb := gtb_in (tin4 (List.mem_of_getElem? (i := 156) rfl)) rfl
theorem q992 : (Cond.methodLink "BlessLoanLaw" (95 : Nat) ({ cls := "BlessLoan", name := "step", desc := "(II)I" } : MethodName)) ∈ gtb := gtb_in (tin4 (List.mem_of_getElem? (i := 157) rfl)) rfl
theorem q993 : (Cond.instanceMethod ({ cls := "BlessLoan", name := "step", desc := "(II)I" } : MethodName)) ∈ gtb := gtb_in (tin4 (List.mem_of_getElem? (i := 158) rfl)) rfl
theorem q994 : (Cond.selects "BlessLoan" ({ cls := "BlessLoan", name := "step", desc := "(II)I" } : MethodName) ({ cls := "BlessLoan", name := "step", desc := "(II)I" } : MethodName)) ∈ gtb := gtb_in (tin4 (List.mem_of_getElem? (i := 159) rfl)) rfl
theorem q995 : (Cond.code ({ cls := "BlessLoan", name := "step", desc := "(II)I" } : MethodName) prog_1_method_21_code (3 : Nat) (Option.some FieldType.int)) ∈ gtb := gtb_in (tin4 (List.mem_of_getElem? (i := 160) rfl)) rfl
theorem q996 : (Cond.methodLink "BlessLoan" (238 : Nat) ({ cls := "BlessLoan$Deeds", name := "walk", desc := "(II)I" } : MethodName)) ∈ gtb := gtb_in (tin4 (List.mem_of_getElem? (i := 161) rfl)) rfl
theorem q997 : (Cond.methodLink "BlessLoan" (241 : Nat) ({ cls := "BlessLoan", name := "settled", desc := "(I)I" } : MethodName)) ∈ gtb := gtb_in (tin4 (List.mem_of_getElem? (i := 162) rfl)) rfl
theorem q999 : (Cond.instanceMethod ({ cls := "BlessLoan", name := "settled", desc := "(I)I" } : MethodName)) ∈ gtb := gtb_in (tin4 (List.mem_of_getElem? (i := 164) rfl)) rfl
theorem q1000 : (Cond.code ({ cls := "BlessLoan", name := "settled", desc := "(I)I" } : MethodName) prog_1_method_47_code (2 : Nat) (Option.some FieldType.int)) ∈ gtb := gtb_in (tin4 (List.mem_of_getElem? (i := 165) rfl)) rfl
theorem q1001 : (Cond.methodLink "BlessLoanLaw" (99 : Nat) ({ cls := "BlessLoan", name := "sneeze", desc := "(I)I" } : MethodName)) ∈ gtb := gtb_in (tin4 (List.mem_of_getElem? (i := 166) rfl)) rfl
theorem q1002 : (Cond.instanceMethod ({ cls := "BlessLoan", name := "sneeze", desc := "(I)I" } : MethodName)) ∈ gtb := gtb_in (tin4 (List.mem_of_getElem? (i := 167) rfl)) rfl
theorem q1003 : (Cond.selects "BlessLoan" ({ cls := "BlessLoan", name := "sneeze", desc := "(I)I" } : MethodName) ({ cls := "BlessLoan", name := "sneeze", desc := "(I)I" } : MethodName)) ∈ gtb := gtb_in (tin4 (List.mem_of_getElem? (i := 168) rfl)) rfl
theorem q1004 : (Cond.code ({ cls := "BlessLoan", name := "sneeze", desc := "(I)I" } : MethodName) prog_1_method_22_code (2 : Nat) (Option.some FieldType.int)) ∈ gtb := gtb_in (tin4 (List.mem_of_getElem? (i := 169) rfl)) rfl
theorem q1005 : (Cond.methodLink "BlessLoan" (244 : Nat) ({ cls := "BlessLoan$Deeds", name := "letSneeze", desc := "(I)I" } : MethodName)) ∈ gtb := gtb_in (tin4 (List.mem_of_getElem? (i := 170) rfl)) rfl
theorem q1006 : (Cond.methodLink "BlessLoanLaw" (103 : Nat) ({ cls := "BlessLoan", name := "forgive", desc := "(II)I" } : MethodName)) ∈ gtb := gtb_in (tin4 (List.mem_of_getElem? (i := 171) rfl)) rfl
theorem q1007 : (Cond.instanceMethod ({ cls := "BlessLoan", name := "forgive", desc := "(II)I" } : MethodName)) ∈ gtb := gtb_in (tin4 (List.mem_of_getElem? (i := 172) rfl)) rfl
theorem q1008 : (Cond.selects "BlessLoan" ({ cls := "BlessLoan", name := "forgive", desc := "(II)I" } : MethodName) ({ cls := "BlessLoan", name := "forgive", desc := "(II)I" } : MethodName)) ∈ gtb := gtb_in (tin4 (List.mem_of_getElem? (i := 173) rfl)) rfl
theorem q1009 : (Cond.code ({ cls := "BlessLoan", name := "forgive", desc := "(II)I" } : MethodName) prog_1_method_23_code (3 : Nat) (Option.some FieldType.int)) ∈ gtb := gtb_in (tin4 (List.mem_of_getElem? (i := 174) rfl)) rfl
theorem q1010 : (Cond.methodLink "BlessLoan" (247 : Nat) ({ cls := "BlessLoan$Deeds", name := "release", desc := "(II)I" } : MethodName)) ∈ gtb := gtb_in (tin4 (List.mem_of_getElem? (i := 175) rfl)) rfl
theorem q1011 : (Cond.methodLink "BlessLoanLaw" (107 : Nat) ({ cls := "BlessLoan", name := "clear", desc := "()I" } : MethodName)) ∈ gtb := gtb_in (tin4 (List.mem_of_getElem? (i := 176) rfl)) rfl
theorem q1012 : (Cond.instanceMethod ({ cls := "BlessLoan", name := "clear", desc := "()I" } : MethodName)) ∈ gtb := gtb_in (tin4 (List.mem_of_getElem? (i := 177) rfl)) rfl
theorem q1013 : (Cond.selects "BlessLoan" ({ cls := "BlessLoan", name := "clear", desc := "()I" } : MethodName) ({ cls := "BlessLoan", name := "clear", desc := "()I" } : MethodName)) ∈ gtb := gtb_in (tin4 (List.mem_of_getElem? (i := 178) rfl)) rfl
theorem q1014 : (Cond.code ({ cls := "BlessLoan", name := "clear", desc := "()I" } : MethodName) prog_1_method_24_code (1 : Nat) (Option.some FieldType.int)) ∈ gtb := gtb_in (tin4 (List.mem_of_getElem? (i := 179) rfl)) rfl
theorem q1015 : (Cond.methodLink "BlessLoan" (250 : Nat) ({ cls := "BlessLoan$Deeds", name := "clearRing", desc := "()I" } : MethodName)) ∈ gtb := gtb_in (tin4 (List.mem_of_getElem? (i := 180) rfl)) rfl
theorem q1016 : (Cond.instanceMethod ({ cls := "BlessLoan$Deeds", name := "clearRing", desc := "()I" } : MethodName)) ∈ gtb := gtb_in (tin4 (List.mem_of_getElem? (i := 181) rfl)) rfl
theorem q1017 : (Cond.selects "BlessLoan$Deeds" ({ cls := "BlessLoan$Deeds", name := "clearRing", desc := "()I" } : MethodName) ({ cls := "BlessLoan$Deeds", name := "clearRing", desc := "()I" } : MethodName)) ∈ gtb := gtb_in (tin4 (List.mem_of_getElem? (i := 182) rfl)) rfl
theorem q1018 : (Cond.code ({ cls := "BlessLoan$Deeds", name := "clearRing", desc := "()I" } : MethodName) prog_3_method_5_code (5 : Nat) (Option.some FieldType.int)) ∈ gtb := gtb_in (tin4 (List.mem_of_getElem? (i := 183) rfl)) rfl
theorem q1019 : (Cond.methodLink "BlessLoan$Deeds" (68 : Nat) ({ cls := "BlessLoan$Rings", name := "shortest", desc := "(LBlessLoan$Town;)I" } : MethodName)) ∈ gtb := gtb_in (tin4 (List.mem_of_getElem? (i := 184) rfl)) rfl
theorem q1020 : (Cond.instanceMethod ({ cls := "BlessLoan$Rings", name := "shortest", desc := "(LBlessLoan$Town;)I" } : MethodName)) ∈ gtb := gtb_in (tin4 (List.mem_of_getElem? (i := 185) rfl)) rfl
theorem q1021 : (Cond.selects "BlessLoan$Rings" ({ cls := "BlessLoan$Rings", name := "shortest", desc := "(LBlessLoan$Town;)I" } : MethodName) ({ cls := "BlessLoan$Rings", name := "shortest", desc := "(LBlessLoan$Town;)I" } : MethodName)) ∈ gtb := gtb_in (tin4 (List.mem_of_getElem? (i := 186) rfl)) rfl
theorem q1022 : (Cond.code ({ cls := "BlessLoan$Rings", name := "shortest", desc := "(LBlessLoan$Town;)I" } : MethodName) prog_10_method_2_code (4 : Nat) (Option.some FieldType.int)) ∈ gtb := gtb_in (tin4 (List.mem_of_getElem? (i := 187) rfl)) rfl
theorem q1023 : (Cond.methodLink "BlessLoan$Rings" (21 : Nat) ({ cls := "BlessLoan$Rings", name := "closes", desc := "(LBlessLoan$Town;[III)Z" } : MethodName)) ∈ gtb := gtb_in (tin4 (List.mem_of_getElem? (i := 188) rfl)) rfl
theorem q1024 : (Cond.static ({ cls := "BlessLoan$Rings", name := "closes", desc := "(LBlessLoan$Town;[III)Z" } : MethodName)) ∈ gtb := gtb_in (tin4 (List.mem_of_getElem? (i := 189) rfl)) rfl
theorem q1025 : (Cond.code ({ cls := "BlessLoan$Rings", name := "closes", desc := "(LBlessLoan$Town;[III)Z" } : MethodName) prog_10_method_3_code (6 : Nat) (Option.some FieldType.boolean)) ∈ gtb := gtb_in (tin4 (List.mem_of_getElem? (i := 190) rfl)) rfl
theorem q1026 : (Cond.methodLink "BlessLoan$Rings" (28 : Nat) ({ cls := "BlessLoan$Rings", name := "isAmong", desc := "([III)Z" } : MethodName)) ∈ gtb := gtb_in (tin4 (List.mem_of_getElem? (i := 191) rfl)) rfl
theorem q1027 : (Cond.static ({ cls := "BlessLoan$Rings", name := "isAmong", desc := "([III)Z" } : MethodName)) ∈ gtb := gtb_in (tin4 (List.mem_of_getElem? (i := 192) rfl)) rfl
theorem q1028 : (Cond.code ({ cls := "BlessLoan$Rings", name := "isAmong", desc := "([III)Z" } : MethodName) prog_10_method_4_code (4 : Nat) (Option.some FieldType.boolean)) ∈ gtb := gtb_in (tin4 (List.mem_of_getElem? (i := 193) rfl)) rfl
theorem q1029 : (Cond.methodLink "BlessLoan$Deeds" (74 : Nat) ({ cls := "BlessLoan$Rings", name := "least", desc := "(LBlessLoan$Town;I)I" } : MethodName)) ∈ gtb := gtb_in (tin4 (List.mem_of_getElem? (i := 194) rfl)) rfl
theorem q1030 : (Cond.instanceMethod ({ cls := "BlessLoan$Rings", name := "least", desc := "(LBlessLoan$Town;I)I" } : MethodName)) ∈ gtb := gtb_in (tin4 (List.mem_of_getElem? (i := 195) rfl)) rfl
theorem q1031 : (Cond.selects "BlessLoan$Rings" ({ cls := "BlessLoan$Rings", name := "least", desc := "(LBlessLoan$Town;I)I" } : MethodName) ({ cls := "BlessLoan$Rings", name := "least", desc := "(LBlessLoan$Town;I)I" } : MethodName)) ∈ gtb := gtb_in (tin4 (List.mem_of_getElem? (i := 196) rfl)) rfl
theorem q1032 : (Cond.code ({ cls := "BlessLoan$Rings", name := "least", desc := "(LBlessLoan$Town;I)I" } : MethodName) prog_10_method_5_code (5 : Nat) (Option.some FieldType.int)) ∈ gtb := gtb_in (tin4 (List.mem_of_getElem? (i := 197) rfl)) rfl
theorem q1033 : (Cond.methodLink "BlessLoan$Rings" (32 : Nat) ({ cls := "java/lang/Math", name := "min", desc := "(II)I" } : MethodName)) ∈ gtb := gtb_in (tin4 (List.mem_of_getElem? (i := 198) rfl)) rfl
theorem q1034 : (Cond.methodLink "BlessLoanLaw" (111 : Nat) ({ cls := "BlessLoan", name := "pass", desc := "()I" } : MethodName)) ∈ gtb := gtb_in (tin4 (List.mem_of_getElem? (i := 199) rfl)) rfl
theorem q1035 : (Cond.instanceMethod ({ cls := "BlessLoan", name := "pass", desc := "()I" } : MethodName)) ∈ gtb := gtb_in (tin4 (List.mem_of_getElem? (i := 200) rfl)) rfl
theorem q1036 : (Cond.selects "BlessLoan" ({ cls := "BlessLoan", name := "pass", desc := "()I" } : MethodName) ({ cls := "BlessLoan", name := "pass", desc := "()I" } : MethodName)) ∈ gtb := gtb_in (tin4 (List.mem_of_getElem? (i := 201) rfl)) rfl
theorem q1037 : (Cond.code ({ cls := "BlessLoan", name := "pass", desc := "()I" } : MethodName) prog_1_method_25_code (1 : Nat) (Option.some FieldType.int)) ∈ gtb := gtb_in (tin4 (List.mem_of_getElem? (i := 202) rfl)) rfl
theorem q1038 : (Cond.methodLink "BlessLoan" (254 : Nat) ({ cls := "BlessLoan$Deeds", name := "letPass", desc := "()I" } : MethodName)) ∈ gtb := gtb_in (tin4 (List.mem_of_getElem? (i := 203) rfl)) rfl
theorem q1039 : (Cond.methodLink "BlessLoanLaw" (115 : Nat) ({ cls := "BlessLoan", name := "undo", desc := "()I" } : MethodName)) ∈ gtb := gtb_in (tin4 (List.mem_of_getElem? (i := 204) rfl)) rfl
theorem q1040 : (Cond.instanceMethod ({ cls := "BlessLoan", name := "undo", desc := "()I" } : MethodName)) ∈ gtb := gtb_in (tin4 (List.mem_of_getElem? (i := 205) rfl)) rfl
theorem q1041 : (Cond.selects "BlessLoan" ({ cls := "BlessLoan", name := "undo", desc := "()I" } : MethodName) ({ cls := "BlessLoan", name := "undo", desc := "()I" } : MethodName)) ∈ gtb := gtb_in (tin4 (List.mem_of_getElem? (i := 206) rfl)) rfl
theorem q1042 : (Cond.code ({ cls := "BlessLoan", name := "undo", desc := "()I" } : MethodName) prog_1_method_26_code (1 : Nat) (Option.some FieldType.int)) ∈ gtb := gtb_in (tin4 (List.mem_of_getElem? (i := 207) rfl)) rfl
theorem q1043 : (Cond.methodLink "BlessLoan" (257 : Nat) ({ cls := "BlessLoan$Deeds", name := "takeBack", desc := "()I" } : MethodName)) ∈ gtb := gtb_in (tin4 (List.mem_of_getElem? (i := 208) rfl)) rfl
theorem q1044 : (Cond.instanceMethod ({ cls := "BlessLoan$Deeds", name := "takeBack", desc := "()I" } : MethodName)) ∈ gtb := gtb_in (tin4 (List.mem_of_getElem? (i := 209) rfl)) rfl
theorem q1045 : (Cond.selects "BlessLoan$Deeds" ({ cls := "BlessLoan$Deeds", name := "takeBack", desc := "()I" } : MethodName) ({ cls := "BlessLoan$Deeds", name := "takeBack", desc := "()I" } : MethodName)) ∈ gtb := gtb_in (tin4 (List.mem_of_getElem? (i := 210) rfl)) rfl
theorem q1046 : (Cond.code ({ cls := "BlessLoan$Deeds", name := "takeBack", desc := "()I" } : MethodName) prog_3_method_7_code (5 : Nat) (Option.some FieldType.int)) ∈ gtb := gtb_in (tin4 (List.mem_of_getElem? (i := 211) rfl)) rfl
theorem q1047 : (Cond.methodLink "BlessLoan$Deeds" (91 : Nat) ({ cls := "BlessLoan$Deeds", name := "tieAgain", desc := "(III)V" } : MethodName)) ∈ gtb := gtb_in (tin4 (List.mem_of_getElem? (i := 212) rfl)) rfl
theorem q1049 : (Cond.instanceMethod ({ cls := "BlessLoan$Deeds", name := "tieAgain", desc := "(III)V" } : MethodName)) ∈ gtb := gtb_in (tin4 (List.mem_of_getElem? (i := 214) rfl)) rfl
theorem q1050 : (Cond.code ({ cls := "BlessLoan$Deeds", name := "tieAgain", desc := "(III)V" } : MethodName) prog_3_method_8_code (7 : Nat) (Option.none : Option FieldType)) ∈ gtb := gtb_in (tin4 (List.mem_of_getElem? (i := 215) rfl)) rfl
theorem q1051 : (Cond.methodLink "BlessLoanLaw" (119 : Nat) ({ cls := "BlessLoan", name := "ring", desc := "(I)I" } : MethodName)) ∈ gtb := gtb_in (tin4 (List.mem_of_getElem? (i := 216) rfl)) rfl
theorem q1052 : (Cond.instanceMethod ({ cls := "BlessLoan", name := "ring", desc := "(I)I" } : MethodName)) ∈ gtb := gtb_in (tin4 (List.mem_of_getElem? (i := 217) rfl)) rfl
theorem q1053 : (Cond.selects "BlessLoan" ({ cls := "BlessLoan", name := "ring", desc := "(I)I" } : MethodName) ({ cls := "BlessLoan", name := "ring", desc := "(I)I" } : MethodName)) ∈ gtb := gtb_in (tin4 (List.mem_of_getElem? (i := 218) rfl)) rfl
theorem q1054 : (Cond.code ({ cls := "BlessLoan", name := "ring", desc := "(I)I" } : MethodName) prog_1_method_27_code (3 : Nat) (Option.some FieldType.int)) ∈ gtb := gtb_in (tin4 (List.mem_of_getElem? (i := 219) rfl)) rfl
theorem q1055 : (Cond.methodLink "BlessLoan" (260 : Nat) ({ cls := "BlessLoan$Rings", name := "shortest", desc := "(LBlessLoan$Town;)I" } : MethodName)) ∈ gtb := gtb_in (tin4 (List.mem_of_getElem? (i := 220) rfl)) rfl
theorem q1056 : (Cond.methodLink "BlessLoanLaw" (123 : Nat) ({ cls := "BlessLoan", name := "gain", desc := "(II)I" } : MethodName)) ∈ gtb := gtb_in (tin4 (List.mem_of_getElem? (i := 221) rfl)) rfl
theorem q1057 : (Cond.instanceMethod ({ cls := "BlessLoan", name := "gain", desc := "(II)I" } : MethodName)) ∈ gtb := gtb_in (tin4 (List.mem_of_getElem? (i := 222) rfl)) rfl
theorem q1058 : (Cond.selects "BlessLoan" ({ cls := "BlessLoan", name := "gain", desc := "(II)I" } : MethodName) ({ cls := "BlessLoan", name := "gain", desc := "(II)I" } : MethodName)) ∈ gtb := gtb_in (tin4 (List.mem_of_getElem? (i := 223) rfl)) rfl
theorem q1059 : (Cond.code ({ cls := "BlessLoan", name := "gain", desc := "(II)I" } : MethodName) prog_1_method_28_code (3 : Nat) (Option.some FieldType.int)) ∈ gtb := gtb_in (tin4 (List.mem_of_getElem? (i := 224) rfl)) rfl
theorem q1060 : (Cond.methodLink "BlessLoan" (267 : Nat) ({ cls := "BlessLoan$Planner", name := "open", desc := "(LBlessLoan$Town;)V" } : MethodName)) ∈ gtb := gtb_in (tin4 (List.mem_of_getElem? (i := 225) rfl)) rfl
theorem q1061 : (Cond.instanceMethod ({ cls := "BlessLoan$Planner", name := "open", desc := "(LBlessLoan$Town;)V" } : MethodName)) ∈ gtb := gtb_in (tin4 (List.mem_of_getElem? (i := 226) rfl)) rfl
theorem q1062 : (Cond.selects "BlessLoan$Planner" ({ cls := "BlessLoan$Planner", name := "open", desc := "(LBlessLoan$Town;)V" } : MethodName) ({ cls := "BlessLoan$Planner", name := "open", desc := "(LBlessLoan$Town;)V" } : MethodName)) ∈ gtb := gtb_in (tin4 (List.mem_of_getElem? (i := 227) rfl)) rfl
theorem q1063 : (Cond.code ({ cls := "BlessLoan$Planner", name := "open", desc := "(LBlessLoan$Town;)V" } : MethodName) prog_7_method_2_code (2 : Nat) (Option.none : Option FieldType)) ∈ gtb := gtb_in (tin4 (List.mem_of_getElem? (i := 228) rfl)) rfl
theorem q1064 : (Cond.methodLink "BlessLoan$Planner" (70 : Nat) ({ cls := "BlessLoan$Town", name := "become", desc := "(LBlessLoan$Town;)V" } : MethodName)) ∈ gtb := gtb_in (tin4 (List.mem_of_getElem? (i := 229) rfl)) rfl
theorem q1065 : (Cond.methodLink "BlessLoan$Planner" (74 : Nat) ({ cls := "BlessLoan$Judge", name := "look", desc := "(LBlessLoan$Town;)V" } : MethodName)) ∈ gtb := gtb_in (tin4 (List.mem_of_getElem? (i := 230) rfl)) rfl
theorem q1066 : (Cond.methodLink "BlessLoan" (270 : Nat) ({ cls := "BlessLoan$Planner", name := "findRivals", desc := "(I)V" } : MethodName)) ∈ gtb := gtb_in (tin4 (List.mem_of_getElem? (i := 231) rfl)) rfl
theorem q1067 : (Cond.instanceMethod ({ cls := "BlessLoan$Planner", name := "findRivals", desc := "(I)V" } : MethodName)) ∈ gtb := gtb_in (tin4 (List.mem_of_getElem? (i := 232) rfl)) rfl
theorem q1068 : (Cond.selects "BlessLoan$Planner" ({ cls := "BlessLoan$Planner", name := "findRivals", desc := "(I)V" } : MethodName) ({ cls := "BlessLoan$Planner", name := "findRivals", desc := "(I)V" } : MethodName)) ∈ gtb := gtb_in (tin4 (List.mem_of_getElem? (i := 233) rfl)) rfl
theorem q1069 : (Cond.code ({ cls := "BlessLoan$Planner", name := "findRivals", desc := "(I)V" } : MethodName) prog_7_method_3_code (3 : Nat) (Option.none : Option FieldType)) ∈ gtb := gtb_in (tin4 (List.mem_of_getElem? (i := 234) rfl)) rfl
theorem q1070 : (Cond.methodLink "BlessLoan$Planner" (82 : Nat) ({ cls := "BlessLoan$Judge", name := "chance", desc := "(I)I" } : MethodName)) ∈ gtb := gtb_in (tin4 (List.mem_of_getElem? (i := 235) rfl)) rfl
theorem q1071 : (Cond.methodLink "BlessLoan$Planner" (86 : Nat) ({ cls := "BlessLoan$Judge", name := "blesser", desc := "(II)I" } : MethodName)) ∈ gtb := gtb_in (tin4 (List.mem_of_getElem? (i := 236) rfl)) rfl
theorem q1072 : (Cond.methodLink "BlessLoan" (273 : Nat) ({ cls := "BlessLoan$Planner", name := "gainIn", desc := "(II)I" } : MethodName)) ∈ gtb := gtb_in (tin4 (List.mem_of_getElem? (i := 237) rfl)) rfl
theorem q1073 : (Cond.instanceMethod ({ cls := "BlessLoan$Planner", name := "gainIn", desc := "(II)I" } : MethodName)) ∈ gtb := gtb_in (tin4 (List.mem_of_getElem? (i := 238) rfl)) rfl
theorem q1074 : (Cond.selects "BlessLoan$Planner" ({ cls := "BlessLoan$Planner", name := "gainIn", desc := "(II)I" } : MethodName) ({ cls := "BlessLoan$Planner", name := "gainIn", desc := "(II)I" } : MethodName)) ∈ gtb := gtb_in (tin4 (List.mem_of_getElem? (i := 239) rfl)) rfl
theorem q1075 : (Cond.code ({ cls := "BlessLoan$Planner", name := "gainIn", desc := "(II)I" } : MethodName) prog_7_method_4_code (6 : Nat) (Option.some FieldType.int)) ∈ gtb := gtb_in (tin5 (List.mem_of_getElem? (i := 0) rfl)) rfl
theorem q1076 : (Cond.methodLink "BlessLoan$Planner" (96 : Nat) ({ cls := "BlessLoan$Judge", name := "reach", desc := "(I)I" } : MethodName)) ∈ gtb := gtb_in (tin5 (List.mem_of_getElem? (i := 1) rfl)) rfl
theorem q1077 : (Cond.methodLink "BlessLoan$Planner" (99 : Nat) ({ cls := "BlessLoan$Town", name := "far", desc := "(II)I" } : MethodName)) ∈ gtb := gtb_in (tin5 (List.mem_of_getElem? (i := 2) rfl)) rfl
theorem q1078 : (Cond.methodLink "BlessLoan$Planner" (102 : Nat) ({ cls := "BlessLoan$Judge", name := "ahead", desc := "(III)Z" } : MethodName)) ∈ gtb := gtb_in (tin5 (List.mem_of_getElem? (i := 3) rfl)) rfl
theorem q1079 : (Cond.methodLink "BlessLoan$Planner" (106 : Nat) ({ cls := "BlessLoan$Judge", name := "bars", desc := "(II)Z" } : MethodName)) ∈ gtb := gtb_in (tin5 (List.mem_of_getElem? (i := 4) rfl)) rfl
theorem q1080 : (Cond.methodLink "BlessLoan$Planner" (110 : Nat) ({ cls := "BlessLoan$Judge", name := "dues", desc := "(II)I" } : MethodName)) ∈ gtb := gtb_in (tin5 (List.mem_of_getElem? (i := 5) rfl)) rfl
theorem q1081 : (Cond.methodLink "BlessLoanLaw" (127 : Nat) ({ cls := "BlessLoan", name := "stand", desc := "(II)I" } : MethodName)) ∈ gtb := gtb_in (tin5 (List.mem_of_getElem? (i := 6) rfl)) rfl
theorem q1082 : (Cond.instanceMethod ({ cls := "BlessLoan", name := "stand", desc := "(II)I" } : MethodName)) ∈ gtb := gtb_in (tin5 (List.mem_of_getElem? (i := 7) rfl)) rfl
theorem q1083 : (Cond.selects "BlessLoan" ({ cls := "BlessLoan", name := "stand", desc := "(II)I" } : MethodName) ({ cls := "BlessLoan", name := "stand", desc := "(II)I" } : MethodName)) ∈ gtb := gtb_in (tin5 (List.mem_of_getElem? (i := 8) rfl)) rfl
theorem q1084 : (Cond.code ({ cls := "BlessLoan", name := "stand", desc := "(II)I" } : MethodName) prog_1_method_29_code (3 : Nat) (Option.some FieldType.int)) ∈ gtb := gtb_in (tin5 (List.mem_of_getElem? (i := 9) rfl)) rfl
theorem q1085 : (Cond.methodLink "BlessLoan" (276 : Nat) ({ cls := "BlessLoan$Planner", name := "findBest", desc := "(I)I" } : MethodName)) ∈ gtb := gtb_in (tin5 (List.mem_of_getElem? (i := 10) rfl)) rfl
theorem q1086 : (Cond.instanceMethod ({ cls := "BlessLoan$Planner", name := "findBest", desc := "(I)I" } : MethodName)) ∈ gtb := gtb_in (tin5 (List.mem_of_getElem? (i := 11) rfl)) rfl
theorem q1087 : (Cond.selects "BlessLoan$Planner" ({ cls := "BlessLoan$Planner", name := "findBest", desc := "(I)I" } : MethodName) ({ cls := "BlessLoan$Planner", name := "findBest", desc := "(I)I" } : MethodName)) ∈ gtb := gtb_in (tin5 (List.mem_of_getElem? (i := 12) rfl)) rfl
theorem q1088 : (Cond.code ({ cls := "BlessLoan$Planner", name := "findBest", desc := "(I)I" } : MethodName) prog_7_method_5_code (6 : Nat) (Option.some FieldType.int)) ∈ gtb := gtb_in (tin5 (List.mem_of_getElem? (i := 13) rfl)) rfl
theorem q1089 : (Cond.methodLink "BlessLoan$Planner" (113 : Nat) ({ cls := "BlessLoan$Planner", name := "gainIn", desc := "(II)I" } : MethodName)) ∈ gtb := gtb_in (tin5 (List.mem_of_getElem? (i := 14) rfl)) rfl
theorem q1090 : (Cond.methodLink "BlessLoanLaw" (131 : Nat) ({ cls := "BlessLoan", name := "rests", desc := "(I)I" } : MethodName)) ∈ gtb := gtb_in (tin5 (List.mem_of_getElem? (i := 15) rfl)) rfl
theorem q1091 : (Cond.instanceMethod ({ cls := "BlessLoan", name := "rests", desc := "(I)I" } : MethodName)) ∈ gtb := gtb_in (tin5 (List.mem_of_getElem? (i := 16) rfl)) rfl
theorem q1092 : (Cond.selects "BlessLoan" ({ cls := "BlessLoan", name := "rests", desc := "(I)I" } : MethodName) ({ cls := "BlessLoan", name := "rests", desc := "(I)I" } : MethodName)) ∈ gtb := gtb_in (tin5 (List.mem_of_getElem? (i := 17) rfl)) rfl
theorem q1093 : (Cond.code ({ cls := "BlessLoan", name := "rests", desc := "(I)I" } : MethodName) prog_1_method_30_code (3 : Nat) (Option.some FieldType.int)) ∈ gtb := gtb_in (tin5 (List.mem_of_getElem? (i := 18) rfl)) rfl
theorem q1094 : (Cond.methodLink "BlessLoan" (285 : Nat) ({ cls := "BlessLoan$Planner", name := "roundsToRest", desc := "()I" } : MethodName)) ∈ gtb := gtb_in (tin5 (List.mem_of_getElem? (i := 19) rfl)) rfl
theorem q1095 : (Cond.instanceMethod ({ cls := "BlessLoan$Planner", name := "roundsToRest", desc := "()I" } : MethodName)) ∈ gtb := gtb_in (tin5 (List.mem_of_getElem? (i := 20) rfl)) rfl
theorem q1096 : (Cond.selects "BlessLoan$Planner" ({ cls := "BlessLoan$Planner", name := "roundsToRest", desc := "()I" } : MethodName) ({ cls := "BlessLoan$Planner", name := "roundsToRest", desc := "()I" } : MethodName)) ∈ gtb := gtb_in (tin5 (List.mem_of_getElem? (i := 21) rfl)) rfl
theorem q1097 : (Cond.code ({ cls := "BlessLoan$Planner", name := "roundsToRest", desc := "()I" } : MethodName) prog_7_method_6_code (2 : Nat) (Option.some FieldType.int)) ∈ gtb := gtb_in (tin5 (List.mem_of_getElem? (i := 22) rfl)) rfl
theorem q1098 : (Cond.methodLink "BlessLoan$Planner" (116 : Nat) ({ cls := "BlessLoan$Planner", name := "whereAllAre", desc := "()J" } : MethodName)) ∈ gtb := gtb_in (tin5 (List.mem_of_getElem? (i := 23) rfl)) rfl
theorem q1100 : (Cond.instanceMethod ({ cls := "BlessLoan$Planner", name := "whereAllAre", desc := "()J" } : MethodName)) ∈ gtb := gtb_in (tin5 (List.mem_of_getElem? (i := 25) rfl)) rfl
theorem q1101 : (Cond.code ({ cls := "BlessLoan$Planner", name := "whereAllAre", desc := "()J" } : MethodName) prog_7_method_8_code (4 : Nat) (Option.some FieldType.long)) ∈ gtb := gtb_in (tin5 (List.mem_of_getElem? (i := 26) rfl)) rfl
theorem q1102 : (Cond.constantLong "BlessLoan$Planner" (135 : Nat) (25 : Int64)) ∈ gtb := gtb_in (tin5 (List.mem_of_getElem? (i := 27) rfl)) rfl
theorem q1103 : (Cond.methodLink "BlessLoan$Planner" (120 : Nat) ({ cls := "BlessLoan$Planner", name := "anybodyGoes", desc := "()Z" } : MethodName)) ∈ gtb := gtb_in (tin5 (List.mem_of_getElem? (i := 28) rfl)) rfl
theorem q1105 : (Cond.instanceMethod ({ cls := "BlessLoan$Planner", name := "anybodyGoes", desc := "()Z" } : MethodName)) ∈ gtb := gtb_in (tin5 (List.mem_of_getElem? (i := 30) rfl)) rfl
theorem q1106 : (Cond.code ({ cls := "BlessLoan$Planner", name := "anybodyGoes", desc := "()Z" } : MethodName) prog_7_method_7_code (3 : Nat) (Option.some FieldType.boolean)) ∈ gtb := gtb_in (tin5 (List.mem_of_getElem? (i := 31) rfl)) rfl
theorem q1107 : (Cond.methodLink "BlessLoan$Planner" (128 : Nat) ({ cls := "BlessLoan$Planner", name := "findRivals", desc := "(I)V" } : MethodName)) ∈ gtb := gtb_in (tin5 (List.mem_of_getElem? (i := 32) rfl)) rfl
theorem q1108 : (Cond.methodLink "BlessLoan$Planner" (132 : Nat) ({ cls := "BlessLoan$Planner", name := "findBest", desc := "(I)I" } : MethodName)) ∈ gtb := gtb_in (tin5 (List.mem_of_getElem? (i := 33) rfl)) rfl
theorem q1109 : (Cond.methodLink "BlessLoan$Planner" (124 : Nat) ({ cls := "BlessLoan$Planner", name := "wereThere", desc := "(I)Z" } : MethodName)) ∈ gtb := gtb_in (tin5 (List.mem_of_getElem? (i := 34) rfl)) rfl
theorem q1111 : (Cond.instanceMethod ({ cls := "BlessLoan$Planner", name := "wereThere", desc := "(I)Z" } : MethodName)) ∈ gtb := gtb_in (tin5 (List.mem_of_getElem? (i := 36) rfl)) rfl
theorem q1112 : (Cond.code ({ cls := "BlessLoan$Planner", name := "wereThere", desc := "(I)Z" } : MethodName) prog_7_method_9_code (5 : Nat) (Option.some FieldType.boolean)) ∈ gtb := gtb_in (tin5 (List.mem_of_getElem? (i := 37) rfl)) rfl
theorem q1113 : (Cond.methodLink "BlessLoanLaw" (135 : Nat) ({ cls := "BlessLoan", name := "round", desc := "(II)I" } : MethodName)) ∈ gtb := gtb_in (tin5 (List.mem_of_getElem? (i := 38) rfl)) rfl
theorem q1114 : (Cond.instanceMethod ({ cls := "BlessLoan", name := "round", desc := "(II)I" } : MethodName)) ∈ gtb := gtb_in (tin5 (List.mem_of_getElem? (i := 39) rfl)) rfl
theorem q1115 : (Cond.selects "BlessLoan" ({ cls := "BlessLoan", name := "round", desc := "(II)I" } : MethodName) ({ cls := "BlessLoan", name := "round", desc := "(II)I" } : MethodName)) ∈ gtb := gtb_in (tin5 (List.mem_of_getElem? (i := 40) rfl)) rfl
theorem q1116 : (Cond.code ({ cls := "BlessLoan", name := "round", desc := "(II)I" } : MethodName) prog_1_method_31_code (4 : Nat) (Option.some FieldType.int)) ∈ gtb := gtb_in (tin5 (List.mem_of_getElem? (i := 41) rfl)) rfl
theorem q1117 : (Cond.methodLink "BlessLoan" (291 : Nat) ({ cls := "BlessLoan$Planner", name := "shortestRound", desc := "(I)I" } : MethodName)) ∈ gtb := gtb_in (tin5 (List.mem_of_getElem? (i := 42) rfl)) rfl
theorem q1118 : (Cond.instanceMethod ({ cls := "BlessLoan$Planner", name := "shortestRound", desc := "(I)I" } : MethodName)) ∈ gtb := gtb_in (tin5 (List.mem_of_getElem? (i := 43) rfl)) rfl
theorem q1119 : (Cond.selects "BlessLoan$Planner" ({ cls := "BlessLoan$Planner", name := "shortestRound", desc := "(I)I" } : MethodName) ({ cls := "BlessLoan$Planner", name := "shortestRound", desc := "(I)I" } : MethodName)) ∈ gtb := gtb_in (tin5 (List.mem_of_getElem? (i := 44) rfl)) rfl
theorem q1120 : (Cond.code ({ cls := "BlessLoan$Planner", name := "shortestRound", desc := "(I)I" } : MethodName) prog_7_method_10_code (5 : Nat) (Option.some FieldType.int)) ∈ gtb := gtb_in (tin5 (List.mem_of_getElem? (i := 45) rfl)) rfl
theorem q1121 : (Cond.methodLink "BlessLoan$Planner" (140 : Nat) ({ cls := "BlessLoan$Planner", name := "fewestSteps", desc := "(II)I" } : MethodName)) ∈ gtb := gtb_in (tin5 (List.mem_of_getElem? (i := 46) rfl)) rfl
theorem q1123 : (Cond.instanceMethod ({ cls := "BlessLoan$Planner", name := "fewestSteps", desc := "(II)I" } : MethodName)) ∈ gtb := gtb_in (tin5 (List.mem_of_getElem? (i := 48) rfl)) rfl
theorem q1124 : (Cond.code ({ cls := "BlessLoan$Planner", name := "fewestSteps", desc := "(II)I" } : MethodName) prog_7_method_11_code (5 : Nat) (Option.some FieldType.int)) ∈ gtb := gtb_in (tin5 (List.mem_of_getElem? (i := 49) rfl)) rfl
theorem q1125 : (Cond.constant "BlessLoan$Planner" (146 : Nat) (1000000 : Int32)) ∈ gtb := gtb_in (tin5 (List.mem_of_getElem? (i := 50) rfl)) rfl
theorem q1126 : (Cond.methodLink "BlessLoan$Planner" (147 : Nat) ({ cls := "BlessLoan$Planner", name := "stepsBy", desc := "(III)I" } : MethodName)) ∈ gtb := gtb_in (tin5 (List.mem_of_getElem? (i := 51) rfl)) rfl
theorem q1128 : (Cond.instanceMethod ({ cls := "BlessLoan$Planner", name := "stepsBy", desc := "(III)I" } : MethodName)) ∈ gtb := gtb_in (tin5 (List.mem_of_getElem? (i := 53) rfl)) rfl
theorem q1129 : (Cond.code ({ cls := "BlessLoan$Planner", name := "stepsBy", desc := "(III)I" } : MethodName) prog_7_method_12_code (5 : Nat) (Option.some FieldType.int)) ∈ gtb := gtb_in (tin5 (List.mem_of_getElem? (i := 54) rfl)) rfl
theorem q1130 : (Cond.methodLink "BlessLoan$Planner" (151 : Nat) ({ cls := "java/lang/Math", name := "min", desc := "(II)I" } : MethodName)) ∈ gtb := gtb_in (tin5 (List.mem_of_getElem? (i := 55) rfl)) rfl
theorem q1131 : (Cond.methodLink "BlessLoan$Planner" (143 : Nat) ({ cls := "BlessLoan$Planner", name := "traceRound", desc := "(I)V" } : MethodName)) ∈ gtb := gtb_in (tin5 (List.mem_of_getElem? (i := 56) rfl)) rfl
theorem q1133 : (Cond.instanceMethod ({ cls := "BlessLoan$Planner", name := "traceRound", desc := "(I)V" } : MethodName)) ∈ gtb := gtb_in (tin5 (List.mem_of_getElem? (i := 58) rfl)) rfl
theorem q1134 : (Cond.code ({ cls := "BlessLoan$Planner", name := "traceRound", desc := "(I)V" } : MethodName) prog_7_method_13_code (6 : Nat) (Option.none : Option FieldType)) ∈ gtb := gtb_in (tin5 (List.mem_of_getElem? (i := 59) rfl)) rfl
theorem q1135 : (Cond.methodLink "BlessLoan$Planner" (156 : Nat) ({ cls := "BlessLoan$Planner", name := "isNext", desc := "(III)Z" } : MethodName)) ∈ gtb := gtb_in (tin5 (List.mem_of_getElem? (i := 60) rfl)) rfl
theorem q1137 : (Cond.instanceMethod ({ cls := "BlessLoan$Planner", name := "isNext", desc := "(III)Z" } : MethodName)) ∈ gtb := gtb_in (tin5 (List.mem_of_getElem? (i := 62) rfl)) rfl
theorem q1138 : (Cond.code ({ cls := "BlessLoan$Planner", name := "isNext", desc := "(III)Z" } : MethodName) prog_7_method_14_code (4 : Nat) (Option.some FieldType.boolean)) ∈ gtb := gtb_in (tin5 (List.mem_of_getElem? (i := 63) rfl)) rfl
theorem q1139 : (Cond.methodLink "BlessLoanLaw" (139 : Nat) ({ cls := "BlessLoan", name := "masks", desc := "(I)I" } : MethodName)) ∈ gtb := gtb_in (tin5 (List.mem_of_getElem? (i := 64) rfl)) rfl
theorem q1140 : (Cond.instanceMethod ({ cls := "BlessLoan", name := "masks", desc := "(I)I" } : MethodName)) ∈ gtb := gtb_in (tin5 (List.mem_of_getElem? (i := 65) rfl)) rfl
theorem q1141 : (Cond.selects "BlessLoan" ({ cls := "BlessLoan", name := "masks", desc := "(I)I" } : MethodName) ({ cls := "BlessLoan", name := "masks", desc := "(I)I" } : MethodName)) ∈ gtb := gtb_in (tin5 (List.mem_of_getElem? (i := 66) rfl)) rfl
theorem q1142 : (Cond.code ({ cls := "BlessLoan", name := "masks", desc := "(I)I" } : MethodName) prog_1_method_32_code (3 : Nat) (Option.some FieldType.int)) ∈ gtb := gtb_in (tin5 (List.mem_of_getElem? (i := 67) rfl)) rfl
theorem q1143 : (Cond.methodLink "BlessLoan" (299 : Nat) ({ cls := "BlessLoan$Planner", name := "fewestMasks", desc := "()I" } : MethodName)) ∈ gtb := gtb_in (tin5 (List.mem_of_getElem? (i := 68) rfl)) rfl
theorem q1144 : (Cond.instanceMethod ({ cls := "BlessLoan$Planner", name := "fewestMasks", desc := "()I" } : MethodName)) ∈ gtb := gtb_in (tin5 (List.mem_of_getElem? (i := 69) rfl)) rfl
theorem q1145 : (Cond.selects "BlessLoan$Planner" ({ cls := "BlessLoan$Planner", name := "fewestMasks", desc := "()I" } : MethodName) ({ cls := "BlessLoan$Planner", name := "fewestMasks", desc := "()I" } : MethodName)) ∈ gtb := gtb_in (tin5 (List.mem_of_getElem? (i := 70) rfl)) rfl
theorem q1146 : (Cond.code ({ cls := "BlessLoan$Planner", name := "fewestMasks", desc := "()I" } : MethodName) prog_7_method_16_code (3 : Nat) (Option.some FieldType.int)) ∈ gtb := gtb_in (tin5 (List.mem_of_getElem? (i := 71) rfl)) rfl
theorem q1147 : (Cond.methodLink "BlessLoan$Planner" (159 : Nat) ({ cls := "BlessLoan$Planner", name := "lineUp", desc := "(I)V" } : MethodName)) ∈ gtb := gtb_in (tin5 (List.mem_of_getElem? (i := 72) rfl)) rfl
theorem q1149 : (Cond.instanceMethod ({ cls := "BlessLoan$Planner", name := "lineUp", desc := "(I)V" } : MethodName)) ∈ gtb := gtb_in (tin5 (List.mem_of_getElem? (i := 74) rfl)) rfl
theorem q1150 : (Cond.code ({ cls := "BlessLoan$Planner", name := "lineUp", desc := "(I)V" } : MethodName) prog_7_method_17_code (6 : Nat) (Option.none : Option FieldType)) ∈ gtb := gtb_in (tin5 (List.mem_of_getElem? (i := 75) rfl)) rfl
theorem q1151 : (Cond.methodLink "BlessLoan$Planner" (162 : Nat) ({ cls := "java/lang/Integer", name := "bitCount", desc := "(I)I" } : MethodName)) ∈ gtb := gtb_in (tin5 (List.mem_of_getElem? (i := 76) rfl)) rfl
theorem q1152 : (Cond.static ({ cls := "java/lang/Integer", name := "bitCount", desc := "(I)I" } : MethodName)) ∈ gtb := gtb_in (tin5 (List.mem_of_getElem? (i := 77) rfl)) rfl
theorem q1153 : (Cond.code ({ cls := "java/lang/Integer", name := "bitCount", desc := "(I)I" } : MethodName) prog_15_method_49_code (1 : Nat) (Option.some FieldType.int)) ∈ gtb := gtb_in (tin5 (List.mem_of_getElem? (i := 78) rfl)) rfl
theorem q1154 : (Cond.constant "java/lang/Integer" (265 : Nat) (1431655765 : Int32)) ∈ gtb := gtb_in (tin5 (List.mem_of_getElem? (i := 79) rfl)) rfl
theorem q1155 : (Cond.constant "java/lang/Integer" (266 : Nat) (858993459 : Int32)) ∈ gtb := gtb_in (tin5 (List.mem_of_getElem? (i := 80) rfl)) rfl
theorem q1156 : (Cond.constant "java/lang/Integer" (267 : Nat) (252645135 : Int32)) ∈ gtb := gtb_in (tin5 (List.mem_of_getElem? (i := 81) rfl)) rfl
theorem q1157 : (Cond.methodLink "BlessLoan$Planner" (167 : Nat) ({ cls := "BlessLoan$Planner", name := "nobodyGains", desc := "(I)Z" } : MethodName)) ∈ gtb := gtb_in (tin5 (List.mem_of_getElem? (i := 82) rfl)) rfl
theorem q1159 : (Cond.instanceMethod ({ cls := "BlessLoan$Planner", name := "nobodyGains", desc := "(I)Z" } : MethodName)) ∈ gtb := gtb_in (tin5 (List.mem_of_getElem? (i := 84) rfl)) rfl
theorem q1160 : (Cond.code ({ cls := "BlessLoan$Planner", name := "nobodyGains", desc := "(I)Z" } : MethodName) prog_7_method_18_code (3 : Nat) (Option.some FieldType.boolean)) ∈ gtb := gtb_in (tin5 (List.mem_of_getElem? (i := 85) rfl)) rfl
theorem q1161 : (Cond.methodLink "BlessLoan$Planner" (170 : Nat) ({ cls := "BlessLoan$Planner", name := "isPaid", desc := "(II)Z" } : MethodName)) ∈ gtb := gtb_in (tin5 (List.mem_of_getElem? (i := 86) rfl)) rfl
theorem q1163 : (Cond.instanceMethod ({ cls := "BlessLoan$Planner", name := "isPaid", desc := "(II)Z" } : MethodName)) ∈ gtb := gtb_in (tin5 (List.mem_of_getElem? (i := 88) rfl)) rfl
theorem q1164 : (Cond.code ({ cls := "BlessLoan$Planner", name := "isPaid", desc := "(II)Z" } : MethodName) prog_7_method_19_code (4 : Nat) (Option.some FieldType.boolean)) ∈ gtb := gtb_in (tin5 (List.mem_of_getElem? (i := 89) rfl)) rfl
theorem q1165 : (Cond.methodLink "BlessLoan" (302 : Nat) ({ cls := "java/lang/Integer", name := "bitCount", desc := "(I)I" } : MethodName)) ∈ gtb := gtb_in (tin5 (List.mem_of_getElem? (i := 90) rfl)) rfl
theorem q1166 : (Cond.methodLink "BlessLoanLaw" (143 : Nat) ({ cls := "BlessLoan", name := "seen", desc := "(II)I" } : MethodName)) ∈ gtb := gtb_in (tin5 (List.mem_of_getElem? (i := 91) rfl)) rfl
theorem q1167 : (Cond.instanceMethod ({ cls := "BlessLoan", name := "seen", desc := "(II)I" } : MethodName)) ∈ gtb := gtb_in (tin5 (List.mem_of_getElem? (i := 92) rfl)) rfl
theorem q1168 : (Cond.selects "BlessLoan" ({ cls := "BlessLoan", name := "seen", desc := "(II)I" } : MethodName) ({ cls := "BlessLoan", name := "seen", desc := "(II)I" } : MethodName)) ∈ gtb := gtb_in (tin5 (List.mem_of_getElem? (i := 93) rfl)) rfl
theorem q1169 : (Cond.code ({ cls := "BlessLoan", name := "seen", desc := "(II)I" } : MethodName) prog_1_method_33_code (3 : Nat) (Option.some FieldType.int)) ∈ gtb := gtb_in (tin5 (List.mem_of_getElem? (i := 94) rfl)) rfl
theorem q1170 : (Cond.methodLink "BlessLoanLaw" (147 : Nat) ({ cls := "BlessLoan", name := "forget", desc := "()I" } : MethodName)) ∈ gtb := gtb_in (tin5 (List.mem_of_getElem? (i := 95) rfl)) rfl
theorem q1171 : (Cond.instanceMethod ({ cls := "BlessLoan", name := "forget", desc := "()I" } : MethodName)) ∈ gtb := gtb_in (tin5 (List.mem_of_getElem? (i := 96) rfl)) rfl
theorem q1172 : (Cond.selects "BlessLoan" ({ cls := "BlessLoan", name := "forget", desc := "()I" } : MethodName) ({ cls := "BlessLoan", name := "forget", desc := "()I" } : MethodName)) ∈ gtb := gtb_in (tin5 (List.mem_of_getElem? (i := 97) rfl)) rfl
theorem q1173 : (Cond.code ({ cls := "BlessLoan", name := "forget", desc := "()I" } : MethodName) prog_1_method_34_code (2 : Nat) (Option.some FieldType.int)) ∈ gtb := gtb_in (tin5 (List.mem_of_getElem? (i := 98) rfl)) rfl
theorem q1174 : (Cond.methodLink "BlessLoanLaw" (151 : Nat) ({ cls := "BlessLoan", name := "can", desc := "(I)I" } : MethodName)) ∈ gtb := gtb_in (tin5 (List.mem_of_getElem? (i := 99) rfl)) rfl
theorem q1175 : (Cond.instanceMethod ({ cls := "BlessLoan", name := "can", desc := "(I)I" } : MethodName)) ∈ gtb := gtb_in (tin5 (List.mem_of_getElem? (i := 100) rfl)) rfl
theorem q1176 : (Cond.selects "BlessLoan" ({ cls := "BlessLoan", name := "can", desc := "(I)I" } : MethodName) ({ cls := "BlessLoan", name := "can", desc := "(I)I" } : MethodName)) ∈ gtb := gtb_in (tin5 (List.mem_of_getElem? (i := 101) rfl)) rfl
theorem q1177 : (Cond.code ({ cls := "BlessLoan", name := "can", desc := "(I)I" } : MethodName) prog_1_method_35_code (2 : Nat) (Option.some FieldType.int)) ∈ gtb := gtb_in (tin5 (List.mem_of_getElem? (i := 102) rfl)) rfl
theorem q1178 : (Cond.methodLink "BlessLoan" (316 : Nat) ({ cls := "BlessLoan$Planner", name := "findAllRivals", desc := "(I)V" } : MethodName)) ∈ gtb := gtb_in (tin5 (List.mem_of_getElem? (i := 103) rfl)) rfl
theorem q1179 : (Cond.instanceMethod ({ cls := "BlessLoan$Planner", name := "findAllRivals", desc := "(I)V" } : MethodName)) ∈ gtb := gtb_in (tin5 (List.mem_of_getElem? (i := 104) rfl)) rfl
theorem q1180 : (Cond.selects "BlessLoan$Planner" ({ cls := "BlessLoan$Planner", name := "findAllRivals", desc := "(I)V" } : MethodName) ({ cls := "BlessLoan$Planner", name := "findAllRivals", desc := "(I)V" } : MethodName)) ∈ gtb := gtb_in (tin5 (List.mem_of_getElem? (i := 105) rfl)) rfl
theorem q1181 : (Cond.code ({ cls := "BlessLoan$Planner", name := "findAllRivals", desc := "(I)V" } : MethodName) prog_7_method_20_code (3 : Nat) (Option.none : Option FieldType)) ∈ gtb := gtb_in (tin5 (List.mem_of_getElem? (i := 106) rfl)) rfl
theorem q1182 : (Cond.methodLink "BlessLoan" (319 : Nat) ({ cls := "BlessLoan$Planner", name := "placesBySeen", desc := "(I)I" } : MethodName)) ∈ gtb := gtb_in (tin5 (List.mem_of_getElem? (i := 107) rfl)) rfl
theorem q1183 : (Cond.instanceMethod ({ cls := "BlessLoan$Planner", name := "placesBySeen", desc := "(I)I" } : MethodName)) ∈ gtb := gtb_in (tin5 (List.mem_of_getElem? (i := 108) rfl)) rfl
theorem q1184 : (Cond.selects "BlessLoan$Planner" ({ cls := "BlessLoan$Planner", name := "placesBySeen", desc := "(I)I" } : MethodName) ({ cls := "BlessLoan$Planner", name := "placesBySeen", desc := "(I)I" } : MethodName)) ∈ gtb := gtb_in (tin5 (List.mem_of_getElem? (i := 109) rfl)) rfl
theorem q1185 : (Cond.code ({ cls := "BlessLoan$Planner", name := "placesBySeen", desc := "(I)I" } : MethodName) prog_7_method_22_code (6 : Nat) (Option.some FieldType.int)) ∈ gtb := gtb_in (tin5 (List.mem_of_getElem? (i := 110) rfl)) rfl
theorem q1186 : (Cond.methodLink "BlessLoan$Planner" (179 : Nat) ({ cls := "BlessLoan$Planner", name := "blesserWith", desc := "(III)I" } : MethodName)) ∈ gtb := gtb_in (tin5 (List.mem_of_getElem? (i := 111) rfl)) rfl
theorem q1188 : (Cond.instanceMethod ({ cls := "BlessLoan$Planner", name := "blesserWith", desc := "(III)I" } : MethodName)) ∈ gtb := gtb_in (tin5 (List.mem_of_getElem? (i := 113) rfl)) rfl
theorem q1189 : (Cond.code ({ cls := "BlessLoan$Planner", name := "blesserWith", desc := "(III)I" } : MethodName) prog_7_method_21_code (5 : Nat) (Option.some FieldType.int)) ∈ gtb := gtb_in (tin5 (List.mem_of_getElem? (i := 114) rfl)) rfl
theorem q1190 : (Cond.methodLink "BlessLoanLaw" (155 : Nat) ({ cls := "BlessLoan", name := "listen", desc := "(II)I" } : MethodName)) ∈ gtb := gtb_in (tin5 (List.mem_of_getElem? (i := 115) rfl)) rfl
theorem q1191 : (Cond.instanceMethod ({ cls := "BlessLoan", name := "listen", desc := "(II)I" } : MethodName)) ∈ gtb := gtb_in (tin5 (List.mem_of_getElem? (i := 116) rfl)) rfl
theorem q1192 : (Cond.selects "BlessLoan" ({ cls := "BlessLoan", name := "listen", desc := "(II)I" } : MethodName) ({ cls := "BlessLoan", name := "listen", desc := "(II)I" } : MethodName)) ∈ gtb := gtb_in (tin5 (List.mem_of_getElem? (i := 117) rfl)) rfl
theorem q1193 : (Cond.code ({ cls := "BlessLoan", name := "listen", desc := "(II)I" } : MethodName) prog_1_method_36_code (4 : Nat) (Option.some FieldType.int)) ∈ gtb := gtb_in (tin5 (List.mem_of_getElem? (i := 118) rfl)) rfl
theorem q1194 : (Cond.methodLink "BlessLoan" (322 : Nat) ({ cls := "BlessLoan$Planner", name := "findSneezeToHear", desc := "(II)V" } : MethodName)) ∈ gtb := gtb_in (tin5 (List.mem_of_getElem? (i := 119) rfl)) rfl
theorem q1195 : (Cond.instanceMethod ({ cls := "BlessLoan$Planner", name := "findSneezeToHear", desc := "(II)V" } : MethodName)) ∈ gtb := gtb_in (tin5 (List.mem_of_getElem? (i := 120) rfl)) rfl
theorem q1196 : (Cond.selects "BlessLoan$Planner" ({ cls := "BlessLoan$Planner", name := "findSneezeToHear", desc := "(II)V" } : MethodName) ({ cls := "BlessLoan$Planner", name := "findSneezeToHear", desc := "(II)V" } : MethodName)) ∈ gtb := gtb_in (tin5 (List.mem_of_getElem? (i := 121) rfl)) rfl
theorem q1197 : (Cond.code ({ cls := "BlessLoan$Planner", name := "findSneezeToHear", desc := "(II)V" } : MethodName) prog_7_method_23_code (5 : Nat) (Option.none : Option FieldType)) ∈ gtb := gtb_in (tin5 (List.mem_of_getElem? (i := 122) rfl)) rfl
theorem q1198 : (Cond.methodLink "BlessLoan$Planner" (185 : Nat) ({ cls := "BlessLoan$Planner", name := "mostAlike", desc := "(III)I" } : MethodName)) ∈ gtb := gtb_in (tin5 (List.mem_of_getElem? (i := 123) rfl)) rfl
theorem q1200 : (Cond.instanceMethod ({ cls := "BlessLoan$Planner", name := "mostAlike", desc := "(III)I" } : MethodName)) ∈ gtb := gtb_in (tin5 (List.mem_of_getElem? (i := 125) rfl)) rfl
theorem q1201 : (Cond.code ({ cls := "BlessLoan$Planner", name := "mostAlike", desc := "(III)I" } : MethodName) prog_7_method_24_code (7 : Nat) (Option.some FieldType.int)) ∈ gtb := gtb_in (tin5 (List.mem_of_getElem? (i := 126) rfl)) rfl
theorem q1202 : (Cond.methodLink "BlessLoan$Planner" (188 : Nat) ({ cls := "java/util/Arrays", name := "fill", desc := "([II)V" } : MethodName)) ∈ gtb := gtb_in (tin5 (List.mem_of_getElem? (i := 127) rfl)) rfl
theorem q1203 : (Cond.methodLink "BlessLoan$Planner" (194 : Nat) ({ cls := "java/lang/Math", name := "max", desc := "(II)I" } : MethodName)) ∈ gtb := gtb_in (tin5 (List.mem_of_getElem? (i := 128) rfl)) rfl
theorem q1204 : (Cond.methodLink "BlessLoanLaw" (159 : Nat) ({ cls := "BlessLoan", name := "often", desc := "(III)J" } : MethodName)) ∈ gtb := gtb_in (tin5 (List.mem_of_getElem? (i := 129) rfl)) rfl
theorem q1205 : (Cond.instanceMethod ({ cls := "BlessLoan", name := "often", desc := "(III)J" } : MethodName)) ∈ gtb := gtb_in (tin5 (List.mem_of_getElem? (i := 130) rfl)) rfl
theorem q1206 : (Cond.selects "BlessLoan" ({ cls := "BlessLoan", name := "often", desc := "(III)J" } : MethodName) ({ cls := "BlessLoan", name := "often", desc := "(III)J" } : MethodName)) ∈ gtb := gtb_in (tin5 (List.mem_of_getElem? (i := 131) rfl)) rfl
theorem q1207 : (Cond.code ({ cls := "BlessLoan", name := "often", desc := "(III)J" } : MethodName) prog_1_method_37_code (4 : Nat) (Option.some FieldType.long)) ∈ gtb := gtb_in (tin5 (List.mem_of_getElem? (i := 132) rfl)) rfl
theorem q1208 : (Cond.constantLong "BlessLoan" (332 : Nat) (-1 : Int64)) ∈ gtb := gtb_in (tin5 (List.mem_of_getElem? (i := 133) rfl)) rfl
theorem q1209 : (Cond.methodLink "BlessLoan" (334 : Nat) ({ cls := "BlessLoan$Planner", name := "chanceOf", desc := "(III)J" } : MethodName)) ∈ gtb := gtb_in (tin5 (List.mem_of_getElem? (i := 134) rfl)) rfl
theorem q1210 : (Cond.instanceMethod ({ cls := "BlessLoan$Planner", name := "chanceOf", desc := "(III)J" } : MethodName)) ∈ gtb := gtb_in (tin5 (List.mem_of_getElem? (i := 135) rfl)) rfl
theorem q1211 : (Cond.selects "BlessLoan$Planner" ({ cls := "BlessLoan$Planner", name := "chanceOf", desc := "(III)J" } : MethodName) ({ cls := "BlessLoan$Planner", name := "chanceOf", desc := "(III)J" } : MethodName)) ∈ gtb := gtb_in (tin5 (List.mem_of_getElem? (i := 136) rfl)) rfl
theorem q1212 : (Cond.code ({ cls := "BlessLoan$Planner", name := "chanceOf", desc := "(III)J" } : MethodName) prog_7_method_25_code (10 : Nat) (Option.some FieldType.long)) ∈ gtb := gtb_in (tin5 (List.mem_of_getElem? (i := 137) rfl)) rfl
theorem q1213 : (Cond.methodLink "BlessLoan$Planner" (197 : Nat) ({ cls := "java/util/Arrays", name := "fill", desc := "([JJ)V" } : MethodName)) ∈ gtb := gtb_in (tin5 (List.mem_of_getElem? (i := 138) rfl)) rfl
theorem q1214 : (Cond.static ({ cls := "java/util/Arrays", name := "fill", desc := "([JJ)V" } : MethodName)) ∈ gtb := gtb_in (tin5 (List.mem_of_getElem? (i := 139) rfl)) rfl
theorem q1215 : (Cond.code ({ cls := "java/util/Arrays", name := "fill", desc := "([JJ)V" } : MethodName) prog_21_method_101_code (5 : Nat) (Option.none : Option FieldType)) ∈ gtb := gtb_in (tin5 (List.mem_of_getElem? (i := 140) rfl)) rfl
theorem q1216 : (Cond.constantLong "BlessLoan$Planner" (200 : Nat) (1000000000000 : Int64)) ∈ gtb := gtb_in (tin5 (List.mem_of_getElem? (i := 141) rfl)) rfl
theorem q1217 : (Cond.constantLong "BlessLoan$Planner" (202 : Nat) (10 : Int64)) ∈ gtb := gtb_in (tin5 (List.mem_of_getElem? (i := 142) rfl)) rfl
theorem q1218 : (Cond.methodLink "BlessLoanLaw" (164 : Nat) ({ cls := "BlessLoan", name := "compare", desc := "(I)I" } : MethodName)) ∈ gtb := gtb_in (tin5 (List.mem_of_getElem? (i := 143) rfl)) rfl
theorem q1219 : (Cond.instanceMethod ({ cls := "BlessLoan", name := "compare", desc := "(I)I" } : MethodName)) ∈ gtb := gtb_in (tin5 (List.mem_of_getElem? (i := 144) rfl)) rfl
theorem q1220 : (Cond.selects "BlessLoan" ({ cls := "BlessLoan", name := "compare", desc := "(I)I" } : MethodName) ({ cls := "BlessLoan", name := "compare", desc := "(I)I" } : MethodName)) ∈ gtb := gtb_in (tin5 (List.mem_of_getElem? (i := 145) rfl)) rfl
theorem q1221 : (Cond.code ({ cls := "BlessLoan", name := "compare", desc := "(I)I" } : MethodName) prog_1_method_38_code (2 : Nat) (Option.some FieldType.int)) ∈ gtb := gtb_in (tin5 (List.mem_of_getElem? (i := 146) rfl)) rfl
theorem q1222 : (Cond.methodLink "BlessLoan" (338 : Nat) ({ cls := "BlessLoan$Planner", name := "allGains", desc := "()I" } : MethodName)) ∈ gtb := gtb_in (tin5 (List.mem_of_getElem? (i := 147) rfl)) rfl
theorem q1223 : (Cond.instanceMethod ({ cls := "BlessLoan$Planner", name := "allGains", desc := "()I" } : MethodName)) ∈ gtb := gtb_in (tin5 (List.mem_of_getElem? (i := 148) rfl)) rfl
theorem q1224 : (Cond.selects "BlessLoan$Planner" ({ cls := "BlessLoan$Planner", name := "allGains", desc := "()I" } : MethodName) ({ cls := "BlessLoan$Planner", name := "allGains", desc := "()I" } : MethodName)) ∈ gtb := gtb_in (tin5 (List.mem_of_getElem? (i := 149) rfl)) rfl
theorem q1225 : (Cond.code ({ cls := "BlessLoan$Planner", name := "allGains", desc := "()I" } : MethodName) prog_7_method_15_code (5 : Nat) (Option.some FieldType.int)) ∈ gtb := gtb_in (tin5 (List.mem_of_getElem? (i := 150) rfl)) rfl
theorem q1226 : (Cond.methodLink "BlessLoanLaw" (168 : Nat) ({ cls := "BlessLoan", name := "hours", desc := "(II)I" } : MethodName)) ∈ gtb := gtb_in (tin5 (List.mem_of_getElem? (i := 151) rfl)) rfl
theorem q1227 : (Cond.instanceMethod ({ cls := "BlessLoan", name := "hours", desc := "(II)I" } : MethodName)) ∈ gtb := gtb_in (tin5 (List.mem_of_getElem? (i := 152) rfl)) rfl
theorem q1228 : (Cond.selects "BlessLoan" ({ cls := "BlessLoan", name := "hours", desc := "(II)I" } : MethodName) ({ cls := "BlessLoan", name := "hours", desc := "(II)I" } : MethodName)) ∈ gtb := gtb_in (tin5 (List.mem_of_getElem? (i := 153) rfl)) rfl
theorem q1229 : (Cond.code ({ cls := "BlessLoan", name := "hours", desc := "(II)I" } : MethodName) prog_1_method_39_code (3 : Nat) (Option.some FieldType.int)) ∈ gtb := gtb_in (tin5 (List.mem_of_getElem? (i := 154) rfl)) rfl
theorem q1230 : (Cond.constant "BlessLoan" (341 : Nat) (1000000 : Int32)) ∈ gtb := gtb_in (tin5 (List.mem_of_getElem? (i := 155) rfl)) rfl
theorem q1231 : (Cond.classLink "BlessLoan" (342 : Nat) "BlessLoan$Draws") ∈ gtb := gtb_in (tin5 (List.mem_of_getElem? (i := 156) rfl)) rfl
theorem q1232 : (Cond.instantiable "BlessLoan$Draws" (1 : Nat)) ∈ gtb := gtb_in (tin5 (List.mem_of_getElem? (i := 157) rfl)) rfl
theorem q1233 : (Cond.methodLink "BlessLoan" (344 : Nat) ({ cls := "BlessLoan$Draws", name := "<init>", desc := "(I)V" } : MethodName)) ∈ gtb := gtb_in (tin5 (List.mem_of_getElem? (i := 158) rfl)) rfl
theorem q1234 : (Cond.instanceMethod ({ cls := "BlessLoan$Draws", name := "<init>", desc := "(I)V" } : MethodName)) ∈ gtb := gtb_in (tin5 (List.mem_of_getElem? (i := 159) rfl)) rfl
theorem q1235 : (Cond.code ({ cls := "BlessLoan$Draws", name := "<init>", desc := "(I)V" } : MethodName) prog_4_method_1_code (2 : Nat) (Option.none : Option FieldType)) ∈ gtb := gtb_in (tin5 (List.mem_of_getElem? (i := 160) rfl)) rfl
theorem q1236 : (Cond.methodLink "BlessLoan$Draws" (3 : Nat) ({ cls := "java/lang/Object", name := "<init>", desc := "()V" } : MethodName)) ∈ gtb := gtb_in (tin5 (List.mem_of_getElem? (i := 161) rfl)) rfl
theorem q1237 : (Cond.fieldLink "BlessLoan$Draws" (9 : Nat) "BlessLoan$Draws" "state" "I") ∈ gtb := gtb_in (tin5 (List.mem_of_getElem? (i := 162) rfl)) rfl
theorem q1241 : (Cond.methodLink "BlessLoan" (346 : Nat) ({ cls := "BlessLoan$Draws", name := "sneezesIn", desc := "(LBlessLoan$Town;LBlessLoan$Judge;I)I" } : MethodName)) ∈ gtb := gtb_in (tin5 (List.mem_of_getElem? (i := 166) rfl)) rfl
theorem q1242 : (Cond.instanceMethod ({ cls := "BlessLoan$Draws", name := "sneezesIn", desc := "(LBlessLoan$Town;LBlessLoan$Judge;I)I" } : MethodName)) ∈ gtb := gtb_in (tin5 (List.mem_of_getElem? (i := 167) rfl)) rfl
theorem q1243 : (Cond.selects "BlessLoan$Draws" ({ cls := "BlessLoan$Draws", name := "sneezesIn", desc := "(LBlessLoan$Town;LBlessLoan$Judge;I)I" } : MethodName) ({ cls := "BlessLoan$Draws", name := "sneezesIn", desc := "(LBlessLoan$Town;LBlessLoan$Judge;I)I" } : MethodName)) ∈ gtb := gtb_in (tin5 (List.mem_of_getElem? (i := 168) rfl)) rfl
theorem q1244 : (Cond.code ({ cls := "BlessLoan$Draws", name := "sneezesIn", desc := "(LBlessLoan$Town;LBlessLoan$Judge;I)I" } : MethodName) prog_4_method_3_code (9 : Nat) (Option.some FieldType.int)) ∈ gtb := gtb_in (tin5 (List.mem_of_getElem? (i := 169) rfl)) rfl
theorem q1245 : (Cond.methodLink "BlessLoan$Draws" (30 : Nat) ({ cls := "BlessLoan$Draws", name := "draw", desc := "(I)I" } : MethodName)) ∈ gtb := gtb_in (tin5 (List.mem_of_getElem? (i := 170) rfl)) rfl
theorem q1247 : (Cond.instanceMethod ({ cls := "BlessLoan$Draws", name := "draw", desc := "(I)I" } : MethodName)) ∈ gtb := gtb_in (tin5 (List.mem_of_getElem? (i := 172) rfl)) rfl
theorem q1248 : (Cond.code ({ cls := "BlessLoan$Draws", name := "draw", desc := "(I)I" } : MethodName) prog_4_method_2_code (2 : Nat) (Option.some FieldType.int)) ∈ gtb := gtb_in (tin5 (List.mem_of_getElem? (i := 173) rfl)) rfl
theorem q1249 : (Cond.constantLong "BlessLoan$Draws" (15 : Nat) (1103 : Int64)) ∈ gtb := gtb_in (tin5 (List.mem_of_getElem? (i := 174) rfl)) rfl
theorem q1250 : (Cond.constantLong "BlessLoan$Draws" (17 : Nat) (12345 : Int64)) ∈ gtb := gtb_in (tin5 (List.mem_of_getElem? (i := 175) rfl)) rfl
theorem q1251 : (Cond.constantLong "BlessLoan$Draws" (19 : Nat) (1000003 : Int64)) ∈ gtb := gtb_in (tin5 (List.mem_of_getElem? (i := 176) rfl)) rfl
theorem q1252 : (Cond.methodLink "BlessLoan$Draws" (34 : Nat) ({ cls := "BlessLoan$Judge", name := "chance", desc := "(I)I" } : MethodName)) ∈ gtb := gtb_in (tin5 (List.mem_of_getElem? (i := 177) rfl)) rfl
theorem q1253 : (Cond.methodLink "BlessLoan$Draws" (39 : Nat) ({ cls := "BlessLoan$Draws", name := "letSneeze", desc := "(LBlessLoan$Town;LBlessLoan$Judge;I)V" } : MethodName)) ∈ gtb := gtb_in (tin5 (List.mem_of_getElem? (i := 178) rfl)) rfl
theorem q1254 : (Cond.static ({ cls := "BlessLoan$Draws", name := "letSneeze", desc := "(LBlessLoan$Town;LBlessLoan$Judge;I)V" } : MethodName)) ∈ gtb := gtb_in (tin5 (List.mem_of_getElem? (i := 179) rfl)) rfl
theorem q1255 : (Cond.code ({ cls := "BlessLoan$Draws", name := "letSneeze", desc := "(LBlessLoan$Town;LBlessLoan$Judge;I)V" } : MethodName) prog_4_method_4_code (4 : Nat) (Option.none : Option FieldType)) ∈ gtb := gtb_in (tin5 (List.mem_of_getElem? (i := 180) rfl)) rfl
theorem q1256 : (Cond.methodLink "BlessLoan$Draws" (50 : Nat) ({ cls := "BlessLoan$Judge", name := "blesser", desc := "(II)I" } : MethodName)) ∈ gtb := gtb_in (tin5 (List.mem_of_getElem? (i := 181) rfl)) rfl
theorem q1257 : (Cond.methodLink "BlessLoan$Draws" (53 : Nat) ({ cls := "BlessLoan$Judge", name := "dues", desc := "(II)I" } : MethodName)) ∈ gtb := gtb_in (tin5 (List.mem_of_getElem? (i := 182) rfl)) rfl
theorem q1258 : (Cond.methodLink "BlessLoan$Draws" (56 : Nat) ({ cls := "BlessLoan$Town", name := "bless", desc := "(III)V" } : MethodName)) ∈ gtb := gtb_in (tin5 (List.mem_of_getElem? (i := 183) rfl)) rfl
theorem q1259 : (Cond.methodLink "BlessLoan$Draws" (46 : Nat) ({ cls := "BlessLoan$Draws", name := "beside", desc := "(II)I" } : MethodName)) ∈ gtb := gtb_in (tin5 (List.mem_of_getElem? (i := 184) rfl)) rfl
theorem q1260 : (Cond.static ({ cls := "BlessLoan$Draws", name := "beside", desc := "(II)I" } : MethodName)) ∈ gtb := gtb_in (tin5 (List.mem_of_getElem? (i := 185) rfl)) rfl
theorem q1261 : (Cond.code ({ cls := "BlessLoan$Draws", name := "beside", desc := "(II)I" } : MethodName) prog_4_method_5_code (4 : Nat) (Option.some FieldType.int)) ∈ gtb := gtb_in (tin5 (List.mem_of_getElem? (i := 186) rfl)) rfl
theorem q1262 : (Cond.methodLink "BlessLoanLaw" (172 : Nat) ({ cls := "BlessLoan", name := "drawn", desc := "(II)I" } : MethodName)) ∈ gtb := gtb_in (tin5 (List.mem_of_getElem? (i := 187) rfl)) rfl
theorem q1263 : (Cond.instanceMethod ({ cls := "BlessLoan", name := "drawn", desc := "(II)I" } : MethodName)) ∈ gtb := gtb_in (tin5 (List.mem_of_getElem? (i := 188) rfl)) rfl
theorem q1264 : (Cond.selects "BlessLoan" ({ cls := "BlessLoan", name := "drawn", desc := "(II)I" } : MethodName) ({ cls := "BlessLoan", name := "drawn", desc := "(II)I" } : MethodName)) ∈ gtb := gtb_in (tin5 (List.mem_of_getElem? (i := 189) rfl)) rfl
theorem q1265 : (Cond.code ({ cls := "BlessLoan", name := "drawn", desc := "(II)I" } : MethodName) prog_1_method_40_code (3 : Nat) (Option.some FieldType.int)) ∈ gtb := gtb_in (tin5 (List.mem_of_getElem? (i := 190) rfl)) rfl
theorem q1266 : (Cond.methodLink "BlessLoanLaw" (176 : Nat) ({ cls := "BlessLoan", name := "image", desc := "(I)I" } : MethodName)) ∈ gtb := gtb_in (tin5 (List.mem_of_getElem? (i := 191) rfl)) rfl
theorem q1267 : (Cond.instanceMethod ({ cls := "BlessLoan", name := "image", desc := "(I)I" } : MethodName)) ∈ gtb := gtb_in (tin5 (List.mem_of_getElem? (i := 192) rfl)) rfl
theorem q1268 : (Cond.selects "BlessLoan" ({ cls := "BlessLoan", name := "image", desc := "(I)I" } : MethodName) ({ cls := "BlessLoan", name := "image", desc := "(I)I" } : MethodName)) ∈ gtb := gtb_in (tin5 (List.mem_of_getElem? (i := 193) rfl)) rfl
theorem q1269 : (Cond.code ({ cls := "BlessLoan", name := "image", desc := "(I)I" } : MethodName) prog_1_method_41_code (2 : Nat) (Option.some FieldType.int)) ∈ gtb := gtb_in (tin5 (List.mem_of_getElem? (i := 194) rfl)) rfl
theorem q1270 : (Cond.methodLink "BlessLoanLaw" (180 : Nat) ({ cls := "BlessLoan", name := "back", desc := "(I)I" } : MethodName)) ∈ gtb := gtb_in (tin5 (List.mem_of_getElem? (i := 195) rfl)) rfl
theorem q1271 : (Cond.instanceMethod ({ cls := "BlessLoan", name := "back", desc := "(I)I" } : MethodName)) ∈ gtb := gtb_in (tin5 (List.mem_of_getElem? (i := 196) rfl)) rfl
theorem q1272 : (Cond.selects "BlessLoan" ({ cls := "BlessLoan", name := "back", desc := "(I)I" } : MethodName) ({ cls := "BlessLoan", name := "back", desc := "(I)I" } : MethodName)) ∈ gtb := gtb_in (tin5 (List.mem_of_getElem? (i := 197) rfl)) rfl
theorem q1273 : (Cond.code ({ cls := "BlessLoan", name := "back", desc := "(I)I" } : MethodName) prog_1_method_42_code (2 : Nat) (Option.some FieldType.int)) ∈ gtb := gtb_in (tin5 (List.mem_of_getElem? (i := 198) rfl)) rfl
theorem q1274 : (Cond.methodLink "BlessLoanLaw" (184 : Nat) ({ cls := "BlessLoan", name := "count", desc := "(I)I" } : MethodName)) ∈ gtb := gtb_in (tin5 (List.mem_of_getElem? (i := 199) rfl)) rfl
theorem q1275 : (Cond.instanceMethod ({ cls := "BlessLoan", name := "count", desc := "(I)I" } : MethodName)) ∈ gtb := gtb_in (tin5 (List.mem_of_getElem? (i := 200) rfl)) rfl
theorem q1276 : (Cond.selects "BlessLoan" ({ cls := "BlessLoan", name := "count", desc := "(I)I" } : MethodName) ({ cls := "BlessLoan", name := "count", desc := "(I)I" } : MethodName)) ∈ gtb := gtb_in (tin5 (List.mem_of_getElem? (i := 201) rfl)) rfl
theorem q1277 : (Cond.code ({ cls := "BlessLoan", name := "count", desc := "(I)I" } : MethodName) prog_1_method_43_code (2 : Nat) (Option.some FieldType.int)) ∈ gtb := gtb_in (tin5 (List.mem_of_getElem? (i := 202) rfl)) rfl
theorem q1278 : (Cond.methodLink "BlessLoan" (350 : Nat) ({ cls := "BlessLoan$Town", name := "maskedOnes", desc := "()I" } : MethodName)) ∈ gtb := gtb_in (tin5 (List.mem_of_getElem? (i := 203) rfl)) rfl
theorem q1279 : (Cond.instanceMethod ({ cls := "BlessLoan$Town", name := "maskedOnes", desc := "()I" } : MethodName)) ∈ gtb := gtb_in (tin5 (List.mem_of_getElem? (i := 204) rfl)) rfl
theorem q1280 : (Cond.selects "BlessLoan$Town" ({ cls := "BlessLoan$Town", name := "maskedOnes", desc := "()I" } : MethodName) ({ cls := "BlessLoan$Town", name := "maskedOnes", desc := "()I" } : MethodName)) ∈ gtb := gtb_in (tin5 (List.mem_of_getElem? (i := 205) rfl)) rfl
theorem q1281 : (Cond.code ({ cls := "BlessLoan$Town", name := "maskedOnes", desc := "()I" } : MethodName) prog_12_method_13_code (3 : Nat) (Option.some FieldType.int)) ∈ gtb := gtb_in (tin5 (List.mem_of_getElem? (i := 206) rfl)) rfl
theorem q1282 : (Cond.methodLink "BlessLoan" (353 : Nat) ({ cls := "BlessLoan$Town", name := "owedInAll", desc := "()I" } : MethodName)) ∈ gtb := gtb_in (tin5 (List.mem_of_getElem? (i := 207) rfl)) rfl
theorem q1283 : (Cond.instanceMethod ({ cls := "BlessLoan$Town", name := "owedInAll", desc := "()I" } : MethodName)) ∈ gtb := gtb_in (tin5 (List.mem_of_getElem? (i := 208) rfl)) rfl
theorem q1284 : (Cond.selects "BlessLoan$Town" ({ cls := "BlessLoan$Town", name := "owedInAll", desc := "()I" } : MethodName) ({ cls := "BlessLoan$Town", name := "owedInAll", desc := "()I" } : MethodName)) ∈ gtb := gtb_in (tin5 (List.mem_of_getElem? (i := 209) rfl)) rfl
theorem q1285 : (Cond.code ({ cls := "BlessLoan$Town", name := "owedInAll", desc := "()I" } : MethodName) prog_12_method_16_code (3 : Nat) (Option.some FieldType.int)) ∈ gtb := gtb_in (tin5 (List.mem_of_getElem? (i := 210) rfl)) rfl
theorem q1286 : (Cond.methodLink "BlessLoan$Town" (84 : Nat) ({ cls := "BlessLoan$Town", name := "owedBy", desc := "(I)I" } : MethodName)) ∈ gtb := gtb_in (tin5 (List.mem_of_getElem? (i := 211) rfl)) rfl
theorem q1287 : (Cond.methodLink "BlessLoanLaw" (188 : Nat) ({ cls := "BlessLoan", name := "status", desc := "()I" } : MethodName)) ∈ gtb := gtb_in (tin5 (List.mem_of_getElem? (i := 212) rfl)) rfl
theorem q1288 : (Cond.instanceMethod ({ cls := "BlessLoan", name := "status", desc := "()I" } : MethodName)) ∈ gtb := gtb_in (tin5 (List.mem_of_getElem? (i := 213) rfl)) rfl
theorem q1289 : (Cond.selects "BlessLoan" ({ cls := "BlessLoan", name := "status", desc := "()I" } : MethodName) ({ cls := "BlessLoan", name := "status", desc := "()I" } : MethodName)) ∈ gtb := gtb_in (tin5 (List.mem_of_getElem? (i := 214) rfl)) rfl
theorem q1290 : (Cond.code ({ cls := "BlessLoan", name := "status", desc := "()I" } : MethodName) prog_1_method_44_code (1 : Nat) (Option.some FieldType.int)) ∈ gtb := gtb_in (tin5 (List.mem_of_getElem? (i := 215) rfl)) rfl
theorem q1291 : (Cond.classLink "BlessLoanLaw" (10 : Nat) "BlessLoanModel") ∈ gtb := gtb_in (tin5 (List.mem_of_getElem? (i := 216) rfl)) rfl
theorem q1292 : (Cond.instantiable "BlessLoanModel" (58 : Nat)) ∈ gtb := gtb_in (tin5 (List.mem_of_getElem? (i := 217) rfl)) rfl
theorem q1293 : (Cond.methodLink "BlessLoanLaw" (12 : Nat) ({ cls := "BlessLoanModel", name := "<init>", desc := "()V" } : MethodName)) ∈ gtb := gtb_in (tin5 (List.mem_of_getElem? (i := 218) rfl)) rfl
theorem q1294 : (Cond.instanceMethod ({ cls := "BlessLoanModel", name := "<init>", desc := "()V" } : MethodName)) ∈ gtb := gtb_in (tin5 (List.mem_of_getElem? (i := 219) rfl)) rfl
theorem q1295 : (Cond.code ({ cls := "BlessLoanModel", name := "<init>", desc := "()V" } : MethodName) prog_14_method_1_code (2 : Nat) (Option.none : Option FieldType)) ∈ gtb := gtb_in (tin5 (List.mem_of_getElem? (i := 220) rfl)) rfl
theorem q1296 : (Cond.methodLink "BlessLoanModel" (1 : Nat) ({ cls := "java/lang/Object", name := "<init>", desc := "()V" } : MethodName)) ∈ gtb := gtb_in (tin5 (List.mem_of_getElem? (i := 221) rfl)) rfl
theorem q1297 : (Cond.constantLong "BlessLoanModel" (57 : Nat) (542723566 : Int64)) ∈ gtb := gtb_in (tin5 (List.mem_of_getElem? (i := 222) rfl)) rfl
theorem q1298 : (Cond.constantLong "BlessLoanModel" (59 : Nat) (17171557 : Int64)) ∈ gtb := gtb_in (tin5 (List.mem_of_getElem? (i := 223) rfl)) rfl
theorem q1299 : (Cond.constantLong "BlessLoanModel" (61 : Nat) (153204 : Int64)) ∈ gtb := gtb_in (tin5 (List.mem_of_getElem? (i := 224) rfl)) rfl
theorem q1300 : (Cond.constantLong "BlessLoanModel" (63 : Nat) (1253 : Int64)) ∈ gtb := gtb_in (tin5 (List.mem_of_getElem? (i := 225) rfl)) rfl
theorem q1301 : (Cond.constantLong "BlessLoanModel" (65 : Nat) (165459 : Int64)) ∈ gtb := gtb_in (tin5 (List.mem_of_getElem? (i := 226) rfl)) rfl
theorem q1302 : (Cond.constantLong "BlessLoanModel" (67 : Nat) (114052 : Int64)) ∈ gtb := gtb_in (tin5 (List.mem_of_getElem? (i := 227) rfl)) rfl
theorem q1303 : (Cond.constantLong "BlessLoanModel" (69 : Nat) (6194 : Int64)) ∈ gtb := gtb_in (tin5 (List.mem_of_getElem? (i := 228) rfl)) rfl
theorem q1304 : (Cond.constantLong "BlessLoanModel" (71 : Nat) (16392370 : Int64)) ∈ gtb := gtb_in (tin5 (List.mem_of_getElem? (i := 229) rfl)) rfl
theorem q1305 : (Cond.constantLong "BlessLoanModel" (73 : Nat) (446125701 : Int64)) ∈ gtb := gtb_in (tin5 (List.mem_of_getElem? (i := 230) rfl)) rfl
theorem q1306 : (Cond.constantLong "BlessLoanModel" (75 : Nat) (441828 : Int64)) ∈ gtb := gtb_in (tin5 (List.mem_of_getElem? (i := 231) rfl)) rfl
theorem q1307 : (Cond.constantLong "BlessLoanModel" (81 : Nat) (146885 : Int64)) ∈ gtb := gtb_in (tin5 (List.mem_of_getElem? (i := 232) rfl)) rfl
theorem q1308 : (Cond.constantLong "BlessLoanModel" (83 : Nat) (404362868 : Int64)) ∈ gtb := gtb_in (tin5 (List.mem_of_getElem? (i := 233) rfl)) rfl
theorem q1309 : (Cond.constantLong "BlessLoanModel" (85 : Nat) (52 : Int64)) ∈ gtb := gtb_in (tin5 (List.mem_of_getElem? (i := 234) rfl)) rfl
theorem q1310 : (Cond.constantLong "BlessLoanModel" (87 : Nat) (515236 : Int64)) ∈ gtb := gtb_in (tin5 (List.mem_of_getElem? (i := 235) rfl)) rfl
theorem q1311 : (Cond.constantLong "BlessLoanModel" (89 : Nat) (515251 : Int64)) ∈ gtb := gtb_in (tin5 (List.mem_of_getElem? (i := 236) rfl)) rfl
theorem q1312 : (Cond.constantLong "BlessLoanModel" (94 : Nat) (20876290227 : Int64)) ∈ gtb := gtb_in (tin5 (List.mem_of_getElem? (i := 237) rfl)) rfl
theorem q1313 : (Cond.constantLong "BlessLoanModel" (96 : Nat) (8554067 : Int64)) ∈ gtb := gtb_in (tin5 (List.mem_of_getElem? (i := 238) rfl)) rfl
theorem q1314 : (Cond.constantLong "BlessLoanModel" (98 : Nat) (67155 : Int64)) ∈ gtb := gtb_in (tin5 (List.mem_of_getElem? (i := 239) rfl)) rfl
theorem q1315 : (Cond.constantLong "BlessLoanModel" (130 : Nat) (643248 : Int64)) ∈ gtb := gtb_in (tin6 (List.mem_of_getElem? (i := 0) rfl)) rfl
theorem q1316 : (Cond.constantLong "BlessLoanModel" (132 : Nat) (652384069 : Int64)) ∈ gtb := gtb_in (tin6 (List.mem_of_getElem? (i := 1) rfl)) rfl
theorem q1317 : (Cond.constantLong "BlessLoanModel" (134 : Nat) (6964881093 : Int64)) ∈ gtb := gtb_in (tin6 (List.mem_of_getElem? (i := 2) rfl)) rfl
theorem q1318 : (Cond.constantLong "BlessLoanModel" (136 : Nat) (525939 : Int64)) ∈ gtb := gtb_in (tin6 (List.mem_of_getElem? (i := 3) rfl)) rfl
theorem q1319 : (Cond.fieldLink "BlessLoanModel" (153 : Nat) "BlessLoanModel" "thrown" "I") ∈ gtb := gtb_in (tin6 (List.mem_of_getElem? (i := 4) rfl)) rfl
theorem q1320 : (Cond.fieldLink "BlessLoanModel" (156 : Nat) "BlessLoanModel" "status" "I") ∈ gtb := gtb_in (tin6 (List.mem_of_getElem? (i := 5) rfl)) rfl
theorem q1321 : (Cond.fieldLink "BlessLoanModel" (7 : Nat) "BlessLoanModel" "refusals" "[I") ∈ gtb := gtb_in (tin6 (List.mem_of_getElem? (i := 6) rfl)) rfl
theorem q1322 : (Cond.fieldLink "BlessLoanModel" (13 : Nat) "BlessLoanModel" "row" "[I") ∈ gtb := gtb_in (tin6 (List.mem_of_getElem? (i := 7) rfl)) rfl
theorem q1323 : (Cond.fieldLink "BlessLoanModel" (16 : Nat) "BlessLoanModel" "images" "[I") ∈ gtb := gtb_in (tin6 (List.mem_of_getElem? (i := 8) rfl)) rfl
theorem q1324 : (Cond.fieldLink "BlessLoanModel" (19 : Nat) "BlessLoanModel" "isKept" "[Z") ∈ gtb := gtb_in (tin6 (List.mem_of_getElem? (i := 9) rfl)) rfl
theorem q1325 : (Cond.fieldLink "BlessLoanModel" (23 : Nat) "BlessLoanModel" "undos" "[I") ∈ gtb := gtb_in (tin6 (List.mem_of_getElem? (i := 10) rfl)) rfl
theorem q1326 : (Cond.fieldLink "BlessLoanModel" (26 : Nat) "BlessLoanModel" "sorts" "[I") ∈ gtb := gtb_in (tin6 (List.mem_of_getElem? (i := 11) rfl)) rfl
theorem q1327 : (Cond.fieldLink "BlessLoanModel" (159 : Nat) "BlessLoanModel" "nUndo" "I") ∈ gtb := gtb_in (tin6 (List.mem_of_getElem? (i := 12) rfl)) rfl
theorem q1328 : (Cond.fieldLink "BlessLoanModel" (29 : Nat) "BlessLoanModel" "undosBefore" "[I") ∈ gtb := gtb_in (tin6 (List.mem_of_getElem? (i := 13) rfl)) rfl
theorem q1329 : (Cond.fieldLink "BlessLoanModel" (32 : Nat) "BlessLoanModel" "sortsBefore" "[I") ∈ gtb := gtb_in (tin6 (List.mem_of_getElem? (i := 14) rfl)) rfl
theorem q1330 : (Cond.fieldLink "BlessLoanModel" (229 : Nat) "BlessLoanModel" "hiccups" "I") ∈ gtb := gtb_in (tin6 (List.mem_of_getElem? (i := 15) rfl)) rfl
theorem q1331 : (Cond.fieldLink "BlessLoanModel" (35 : Nat) "BlessLoanModel" "tape" "[I") ∈ gtb := gtb_in (tin6 (List.mem_of_getElem? (i := 16) rfl)) rfl
theorem q1332 : (Cond.fieldLink "BlessLoanModel" (226 : Nat) "BlessLoanModel" "taped" "I") ∈ gtb := gtb_in (tin6 (List.mem_of_getElem? (i := 17) rfl)) rfl
theorem q1333 : (Cond.fieldLink "BlessLoanModel" (245 : Nat) "BlessLoanModel" "from" "I") ∈ gtb := gtb_in (tin6 (List.mem_of_getElem? (i := 18) rfl)) rfl
theorem q1334 : (Cond.fieldLink "BlessLoanModel" (235 : Nat) "BlessLoanModel" "to" "I") ∈ gtb := gtb_in (tin6 (List.mem_of_getElem? (i := 19) rfl)) rfl
theorem q1335 : (Cond.fieldLink "BlessLoanModel" (258 : Nat) "BlessLoanModel" "sort" "I") ∈ gtb := gtb_in (tin6 (List.mem_of_getElem? (i := 20) rfl)) rfl
theorem q1336 : (Cond.fieldLink "BlessLoanModel" (248 : Nat) "BlessLoanModel" "worth" "J") ∈ gtb := gtb_in (tin6 (List.mem_of_getElem? (i := 21) rfl)) rfl
theorem q1337 : (Cond.fieldLink "BlessLoanModel" (38 : Nat) "BlessLoanModel" "fault" "I") ∈ gtb := gtb_in (tin6 (List.mem_of_getElem? (i := 22) rfl)) rfl
theorem q1338 : (Cond.fieldLink "BlessLoanModel" (238 : Nat) "BlessLoanModel" "bad" "Z") ∈ gtb := gtb_in (tin6 (List.mem_of_getElem? (i := 23) rfl)) rfl
theorem q1339 : (Cond.fieldLink "BlessLoanModel" (315 : Nat) "BlessLoanModel" "ordered" "Z") ∈ gtb := gtb_in (tin6 (List.mem_of_getElem? (i := 24) rfl)) rfl
theorem q1340 : (Cond.fieldLink "BlessLoanModel" (369 : Nat) "BlessLoanModel" "nClauses" "I") ∈ gtb := gtb_in (tin6 (List.mem_of_getElem? (i := 25) rfl)) rfl
theorem q1341 : (Cond.fieldLink "BlessLoanModel" (42 : Nat) "BlessLoanModel" "nClause" "[I") ∈ gtb := gtb_in (tin6 (List.mem_of_getElem? (i := 26) rfl)) rfl
theorem q1342 : (Cond.fieldLink "BlessLoanModel" (277 : Nat) "BlessLoanModel" "nCode" "I") ∈ gtb := gtb_in (tin6 (List.mem_of_getElem? (i := 27) rfl)) rfl
theorem q1343 : (Cond.fieldLink "BlessLoanModel" (45 : Nat) "BlessLoanModel" "nOp" "[I") ∈ gtb := gtb_in (tin6 (List.mem_of_getElem? (i := 28) rfl)) rfl
theorem q1344 : (Cond.fieldLink "BlessLoanModel" (48 : Nat) "BlessLoanModel" "nArg" "[I") ∈ gtb := gtb_in (tin6 (List.mem_of_getElem? (i := 29) rfl)) rfl
theorem q1345 : (Cond.fieldLink "BlessLoanModel" (306 : Nat) "BlessLoanModel" "nLeaves" "I") ∈ gtb := gtb_in (tin6 (List.mem_of_getElem? (i := 30) rfl)) rfl
theorem q1346 : (Cond.fieldLink "BlessLoanModel" (51 : Nat) "BlessLoanModel" "pile" "[I") ∈ gtb := gtb_in (tin6 (List.mem_of_getElem? (i := 31) rfl)) rfl
theorem q1347 : (Cond.fieldLink "BlessLoanModel" (54 : Nat) "BlessLoanModel" "pileAt" "[I") ∈ gtb := gtb_in (tin6 (List.mem_of_getElem? (i := 32) rfl)) rfl
theorem q1348 : (Cond.fieldLink "BlessLoanModel" (280 : Nat) "BlessLoanModel" "piled" "I") ∈ gtb := gtb_in (tin6 (List.mem_of_getElem? (i := 33) rfl)) rfl
theorem q1349 : (Cond.fieldLink "BlessLoanModel" (300 : Nat) "BlessLoanModel" "opened" "I") ∈ gtb := gtb_in (tin6 (List.mem_of_getElem? (i := 34) rfl)) rfl
theorem q1350 : (Cond.fieldLink "BlessLoanModel" (77 : Nat) "BlessLoanModel" "words" "[J") ∈ gtb := gtb_in (tin6 (List.mem_of_getElem? (i := 35) rfl)) rfl
theorem q1351 : (Cond.fieldLink "BlessLoanModel" (91 : Nat) "BlessLoanModel" "orderWords" "[J") ∈ gtb := gtb_in (tin6 (List.mem_of_getElem? (i := 36) rfl)) rfl
theorem q1352 : (Cond.fieldLink "BlessLoanModel" (100 : Nat) "BlessLoanModel" "heads" "[J") ∈ gtb := gtb_in (tin6 (List.mem_of_getElem? (i := 37) rfl)) rfl
theorem q1353 : (Cond.fieldLink "BlessLoanModel" (392 : Nat) "BlessLoanModel" "law" "I") ∈ gtb := gtb_in (tin6 (List.mem_of_getElem? (i := 38) rfl)) rfl
theorem q1354 : (Cond.fieldLink "BlessLoanModel" (103 : Nat) "BlessLoanModel" "set" "[J") ∈ gtb := gtb_in (tin6 (List.mem_of_getElem? (i := 39) rfl)) rfl
theorem q1355 : (Cond.fieldLink "BlessLoanModel" (106 : Nat) "BlessLoanModel" "now" "[J") ∈ gtb := gtb_in (tin6 (List.mem_of_getElem? (i := 40) rfl)) rfl
theorem q1356 : (Cond.fieldLink "BlessLoanModel" (109 : Nat) "BlessLoanModel" "rest" "[J") ∈ gtb := gtb_in (tin6 (List.mem_of_getElem? (i := 41) rfl)) rfl
theorem q1357 : (Cond.fieldLink "BlessLoanModel" (389 : Nat) "BlessLoanModel" "broken" "Z") ∈ gtb := gtb_in (tin6 (List.mem_of_getElem? (i := 42) rfl)) rfl
theorem q1358 : (Cond.fieldLink "BlessLoanModel" (403 : Nat) "BlessLoanModel" "value" "J") ∈ gtb := gtb_in (tin6 (List.mem_of_getElem? (i := 43) rfl)) rfl
theorem q1359 : (Cond.fieldLink "BlessLoanModel" (409 : Nat) "BlessLoanModel" "sum" "J") ∈ gtb := gtb_in (tin6 (List.mem_of_getElem? (i := 44) rfl)) rfl
theorem q1360 : (Cond.fieldLink "BlessLoanModel" (112 : Nat) "BlessLoanModel" "ringOf" "[I") ∈ gtb := gtb_in (tin6 (List.mem_of_getElem? (i := 45) rfl)) rfl
theorem q1361 : (Cond.fieldLink "BlessLoanModel" (456 : Nat) "BlessLoanModel" "ringLong" "I") ∈ gtb := gtb_in (tin6 (List.mem_of_getElem? (i := 46) rfl)) rfl
theorem q1362 : (Cond.fieldLink "BlessLoanModel" (478 : Nat) "BlessLoanModel" "bestGain" "I") ∈ gtb := gtb_in (tin6 (List.mem_of_getElem? (i := 47) rfl)) rfl
theorem q1363 : (Cond.fieldLink "BlessLoanModel" (115 : Nat) "BlessLoanModel" "goals" "[I") ∈ gtb := gtb_in (tin6 (List.mem_of_getElem? (i := 48) rfl)) rfl
theorem q1364 : (Cond.fieldLink "BlessLoanModel" (118 : Nat) "BlessLoanModel" "tried" "[I") ∈ gtb := gtb_in (tin6 (List.mem_of_getElem? (i := 49) rfl)) rfl
theorem q1365 : (Cond.fieldLink "BlessLoanModel" (121 : Nat) "BlessLoanModel" "bestRow" "[I") ∈ gtb := gtb_in (tin6 (List.mem_of_getElem? (i := 50) rfl)) rfl
theorem q1366 : (Cond.fieldLink "BlessLoanModel" (124 : Nat) "BlessLoanModel" "blessed" "[I") ∈ gtb := gtb_in (tin6 (List.mem_of_getElem? (i := 51) rfl)) rfl
theorem q1367 : (Cond.fieldLink "BlessLoanModel" (127 : Nat) "BlessLoanModel" "parts" "[J") ∈ gtb := gtb_in (tin6 (List.mem_of_getElem? (i := 52) rfl)) rfl
theorem q1368 : (Cond.fieldLink "BlessLoanModel" (138 : Nat) "BlessLoanModel" "acts" "[J") ∈ gtb := gtb_in (tin6 (List.mem_of_getElem? (i := 53) rfl)) rfl
theorem q1369 : (Cond.fieldLink "BlessLoanModel" (141 : Nat) "BlessLoanModel" "nOrder" "[I") ∈ gtb := gtb_in (tin6 (List.mem_of_getElem? (i := 54) rfl)) rfl
theorem q1370 : (Cond.fieldLink "BlessLoanModel" (524 : Nat) "BlessLoanModel" "done" "I") ∈ gtb := gtb_in (tin6 (List.mem_of_getElem? (i := 55) rfl)) rfl
theorem q1371 : (Cond.fieldLink "BlessLoanModel" (527 : Nat) "BlessLoanModel" "latest" "I") ∈ gtb := gtb_in (tin6 (List.mem_of_getElem? (i := 56) rfl)) rfl
theorem q1372 : (Cond.fieldLink "BlessLoanModel" (144 : Nat) "BlessLoanModel" "stopped" "I") ∈ gtb := gtb_in (tin6 (List.mem_of_getElem? (i := 57) rfl)) rfl
theorem q1373 : (Cond.fieldLink "BlessLoanModel" (521 : Nat) "BlessLoanModel" "off" "Z") ∈ gtb := gtb_in (tin6 (List.mem_of_getElem? (i := 58) rfl)) rfl
theorem q1374 : (Cond.fieldLink "BlessLoanModel" (546 : Nat) "BlessLoanModel" "state" "J") ∈ gtb := gtb_in (tin6 (List.mem_of_getElem? (i := 59) rfl)) rfl
theorem q1375 : (Cond.fieldLink "BlessLoanModel" (147 : Nat) "BlessLoanModel" "drawn" "[I") ∈ gtb := gtb_in (tin6 (List.mem_of_getElem? (i := 60) rfl)) rfl
theorem q1376 : (Cond.fieldLink "BlessLoanModel" (150 : Nat) "BlessLoanModel" "nDrawn" "I") ∈ gtb := gtb_in (tin6 (List.mem_of_getElem? (i := 61) rfl)) rfl
theorem q1494 : (Cond.arrayClass FieldType.boolean) ∈ gtb := gtb_in (tin6 (List.mem_of_getElem? (i := 179) rfl)) rfl
theorem q1495 : (Cond.methodLink "BlessLoanLaw" (118 : Nat) ({ cls := "BlessLoanModel", name := "undo", desc := "()I" } : MethodName)) ∈ gtb := gtb_in (tin6 (List.mem_of_getElem? (i := 180) rfl)) rfl
theorem q1496 : (Cond.instanceMethod ({ cls := "BlessLoanModel", name := "undo", desc := "()I" } : MethodName)) ∈ gtb := gtb_in (tin6 (List.mem_of_getElem? (i := 181) rfl)) rfl
theorem q1497 : (Cond.selects "BlessLoanModel" ({ cls := "BlessLoanModel", name := "undo", desc := "()I" } : MethodName) ({ cls := "BlessLoanModel", name := "undo", desc := "()I" } : MethodName)) ∈ gtb := gtb_in (tin6 (List.mem_of_getElem? (i := 182) rfl)) rfl
theorem q1498 : (Cond.code ({ cls := "BlessLoanModel", name := "undo", desc := "()I" } : MethodName) prog_14_method_12_code (1 : Nat) (Option.some FieldType.int)) ∈ gtb := gtb_in (tin6 (List.mem_of_getElem? (i := 183) rfl)) rfl
theorem q1499 : (Cond.methodLink "BlessLoanModel" (166 : Nat) ({ cls := "BlessLoanModel", name := "tell", desc := "(I)I" } : MethodName)) ∈ gtb := gtb_in (tin6 (List.mem_of_getElem? (i := 184) rfl)) rfl
theorem q1501 : (Cond.instanceMethod ({ cls := "BlessLoanModel", name := "tell", desc := "(I)I" } : MethodName)) ∈ gtb := gtb_in (tin6 (List.mem_of_getElem? (i := 186) rfl)) rfl
theorem q1502 : (Cond.code ({ cls := "BlessLoanModel", name := "tell", desc := "(I)I" } : MethodName) prog_14_method_7_code (2 : Nat) (Option.some FieldType.int)) ∈ gtb := gtb_in (tin6 (List.mem_of_getElem? (i := 187) rfl)) rfl
theorem q1503 : (Cond.methodLink "BlessLoanModel" (170 : Nat) ({ cls := "BlessLoanModel", name := "putBack", desc := "(I)V" } : MethodName)) ∈ gtb := gtb_in (tin6 (List.mem_of_getElem? (i := 188) rfl)) rfl
theorem q1505 : (Cond.instanceMethod ({ cls := "BlessLoanModel", name := "putBack", desc := "(I)V" } : MethodName)) ∈ gtb := gtb_in (tin6 (List.mem_of_getElem? (i := 190) rfl)) rfl
theorem q1506 : (Cond.code ({ cls := "BlessLoanModel", name := "putBack", desc := "(I)V" } : MethodName) prog_14_method_10_code (3 : Nat) (Option.none : Option FieldType)) ∈ gtb := gtb_in (tin6 (List.mem_of_getElem? (i := 191) rfl)) rfl
theorem q1507 : (Cond.methodLink "BlessLoanLaw" (179 : Nat) ({ cls := "BlessLoanModel", name := "image", desc := "(I)I" } : MethodName)) ∈ gtb := gtb_in (tin6 (List.mem_of_getElem? (i := 192) rfl)) rfl
theorem q1508 : (Cond.instanceMethod ({ cls := "BlessLoanModel", name := "image", desc := "(I)I" } : MethodName)) ∈ gtb := gtb_in (tin6 (List.mem_of_getElem? (i := 193) rfl)) rfl
theorem q1509 : (Cond.selects "BlessLoanModel" ({ cls := "BlessLoanModel", name := "image", desc := "(I)I" } : MethodName) ({ cls := "BlessLoanModel", name := "image", desc := "(I)I" } : MethodName)) ∈ gtb := gtb_in (tin6 (List.mem_of_getElem? (i := 194) rfl)) rfl
theorem q1510 : (Cond.code ({ cls := "BlessLoanModel", name := "image", desc := "(I)I" } : MethodName) prog_14_method_13_code (3 : Nat) (Option.some FieldType.int)) ∈ gtb := gtb_in (tin6 (List.mem_of_getElem? (i := 195) rfl)) rfl
theorem q1511 : (Cond.methodLink "BlessLoanModel" (173 : Nat) ({ cls := "BlessLoanModel", name := "in", desc := "(JJJ)Z" } : MethodName)) ∈ gtb := gtb_in (tin6 (List.mem_of_getElem? (i := 196) rfl)) rfl
theorem q1512 : (Cond.static ({ cls := "BlessLoanModel", name := "in", desc := "(JJJ)Z" } : MethodName)) ∈ gtb := gtb_in (tin6 (List.mem_of_getElem? (i := 197) rfl)) rfl
theorem q1513 : (Cond.code ({ cls := "BlessLoanModel", name := "in", desc := "(JJJ)Z" } : MethodName) prog_14_method_3_code (6 : Nat) (Option.some FieldType.boolean)) ∈ gtb := gtb_in (tin6 (List.mem_of_getElem? (i := 198) rfl)) rfl
theorem q1514 : (Cond.methodLink "BlessLoanLaw" (183 : Nat) ({ cls := "BlessLoanModel", name := "back", desc := "(I)I" } : MethodName)) ∈ gtb := gtb_in (tin6 (List.mem_of_getElem? (i := 199) rfl)) rfl
theorem q1515 : (Cond.instanceMethod ({ cls := "BlessLoanModel", name := "back", desc := "(I)I" } : MethodName)) ∈ gtb := gtb_in (tin6 (List.mem_of_getElem? (i := 200) rfl)) rfl
theorem q1516 : (Cond.selects "BlessLoanModel" ({ cls := "BlessLoanModel", name := "back", desc := "(I)I" } : MethodName) ({ cls := "BlessLoanModel", name := "back", desc := "(I)I" } : MethodName)) ∈ gtb := gtb_in (tin6 (List.mem_of_getElem? (i := 201) rfl)) rfl
theorem q1517 : (Cond.code ({ cls := "BlessLoanModel", name := "back", desc := "(I)I" } : MethodName) prog_14_method_14_code (3 : Nat) (Option.some FieldType.int)) ∈ gtb := gtb_in (tin6 (List.mem_of_getElem? (i := 202) rfl)) rfl
theorem q1518 : (Cond.methodLink "BlessLoanLaw" (17 : Nat) ({ cls := "BlessLoanModel", name := "dust", desc := "(II)I" } : MethodName)) ∈ gtb := gtb_in (tin6 (List.mem_of_getElem? (i := 203) rfl)) rfl
theorem q1519 : (Cond.instanceMethod ({ cls := "BlessLoanModel", name := "dust", desc := "(II)I" } : MethodName)) ∈ gtb := gtb_in (tin6 (List.mem_of_getElem? (i := 204) rfl)) rfl
theorem q1520 : (Cond.selects "BlessLoanModel" ({ cls := "BlessLoanModel", name := "dust", desc := "(II)I" } : MethodName) ({ cls := "BlessLoanModel", name := "dust", desc := "(II)I" } : MethodName)) ∈ gtb := gtb_in (tin6 (List.mem_of_getElem? (i := 205) rfl)) rfl
theorem q1521 : (Cond.code ({ cls := "BlessLoanModel", name := "dust", desc := "(II)I" } : MethodName) prog_14_method_23_code (3 : Nat) (Option.some FieldType.int)) ∈ gtb := gtb_in (tin6 (List.mem_of_getElem? (i := 206) rfl)) rfl
theorem q1522 : (Cond.methodLink "BlessLoanModel" (186 : Nat) ({ cls := "BlessLoanModel", name := "isPlace", desc := "(I)Z" } : MethodName)) ∈ gtb := gtb_in (tin6 (List.mem_of_getElem? (i := 207) rfl)) rfl
theorem q1523 : (Cond.static ({ cls := "BlessLoanModel", name := "isPlace", desc := "(I)Z" } : MethodName)) ∈ gtb := gtb_in (tin6 (List.mem_of_getElem? (i := 208) rfl)) rfl
theorem q1524 : (Cond.code ({ cls := "BlessLoanModel", name := "isPlace", desc := "(I)Z" } : MethodName) prog_14_method_15_code (1 : Nat) (Option.some FieldType.boolean)) ∈ gtb := gtb_in (tin6 (List.mem_of_getElem? (i := 209) rfl)) rfl
theorem q1525 : (Cond.constantLong "BlessLoanModel" (177 : Nat) (24 : Int64)) ∈ gtb := gtb_in (tin6 (List.mem_of_getElem? (i := 210) rfl)) rfl
theorem q1526 : (Cond.constantLong "BlessLoanModel" (190 : Nat) (9 : Int64)) ∈ gtb := gtb_in (tin6 (List.mem_of_getElem? (i := 211) rfl)) rfl
theorem q1527 : (Cond.methodLink "BlessLoanModel" (192 : Nat) ({ cls := "BlessLoanModel", name := "change", desc := "(II)I" } : MethodName)) ∈ gtb := gtb_in (tin6 (List.mem_of_getElem? (i := 212) rfl)) rfl
theorem q1529 : (Cond.instanceMethod ({ cls := "BlessLoanModel", name := "change", desc := "(II)I" } : MethodName)) ∈ gtb := gtb_in (tin6 (List.mem_of_getElem? (i := 214) rfl)) rfl
theorem q1530 : (Cond.code ({ cls := "BlessLoanModel", name := "change", desc := "(II)I" } : MethodName) prog_14_method_8_code (4 : Nat) (Option.some FieldType.int)) ∈ gtb := gtb_in (tin6 (List.mem_of_getElem? (i := 215) rfl)) rfl
theorem q1531 : (Cond.methodLink "BlessLoanLaw" (21 : Nat) ({ cls := "BlessLoanModel", name := "at", desc := "(II)I" } : MethodName)) ∈ gtb := gtb_in (tin6 (List.mem_of_getElem? (i := 216) rfl)) rfl
theorem q1532 : (Cond.instanceMethod ({ cls := "BlessLoanModel", name := "at", desc := "(II)I" } : MethodName)) ∈ gtb := gtb_in (tin6 (List.mem_of_getElem? (i := 217) rfl)) rfl
theorem q1533 : (Cond.selects "BlessLoanModel" ({ cls := "BlessLoanModel", name := "at", desc := "(II)I" } : MethodName) ({ cls := "BlessLoanModel", name := "at", desc := "(II)I" } : MethodName)) ∈ gtb := gtb_in (tin6 (List.mem_of_getElem? (i := 218) rfl)) rfl
theorem q1534 : (Cond.code ({ cls := "BlessLoanModel", name := "at", desc := "(II)I" } : MethodName) prog_14_method_24_code (5 : Nat) (Option.some FieldType.int)) ∈ gtb := gtb_in (tin6 (List.mem_of_getElem? (i := 219) rfl)) rfl
theorem q1535 : (Cond.methodLink "BlessLoanLaw" (26 : Nat) ({ cls := "BlessLoanModel", name := "person", desc := "(IIII)I" } : MethodName)) ∈ gtb := gtb_in (tin6 (List.mem_of_getElem? (i := 220) rfl)) rfl
theorem q1536 : (Cond.instanceMethod ({ cls := "BlessLoanModel", name := "person", desc := "(IIII)I" } : MethodName)) ∈ gtb := gtb_in (tin6 (List.mem_of_getElem? (i := 221) rfl)) rfl
theorem q1537 : (Cond.selects "BlessLoanModel" ({ cls := "BlessLoanModel", name := "person", desc := "(IIII)I" } : MethodName) ({ cls := "BlessLoanModel", name := "person", desc := "(IIII)I" } : MethodName)) ∈ gtb := gtb_in (tin6 (List.mem_of_getElem? (i := 222) rfl)) rfl
theorem q1538 : (Cond.code ({ cls := "BlessLoanModel", name := "person", desc := "(IIII)I" } : MethodName) prog_14_method_26_code (5 : Nat) (Option.some FieldType.int)) ∈ gtb := gtb_in (tin6 (List.mem_of_getElem? (i := 223) rfl)) rfl
theorem q1539 : (Cond.methodLink "BlessLoanModel" (201 : Nat) ({ cls := "BlessLoanModel", name := "come", desc := "(IIII)I" } : MethodName)) ∈ gtb := gtb_in (tin6 (List.mem_of_getElem? (i := 224) rfl)) rfl
theorem q1541 : (Cond.instanceMethod ({ cls := "BlessLoanModel", name := "come", desc := "(IIII)I" } : MethodName)) ∈ gtb := gtb_in (tin6 (List.mem_of_getElem? (i := 226) rfl)) rfl
theorem q1542 : (Cond.code ({ cls := "BlessLoanModel", name := "come", desc := "(IIII)I" } : MethodName) prog_14_method_25_code (7 : Nat) (Option.some FieldType.int)) ∈ gtb := gtb_in (tin6 (List.mem_of_getElem? (i := 227) rfl)) rfl
theorem q1543 : (Cond.constantLong "BlessLoanModel" (195 : Nat) (99 : Int64)) ∈ gtb := gtb_in (tin6 (List.mem_of_getElem? (i := 228) rfl)) rfl
theorem q1544 : (Cond.methodLink "BlessLoanModel" (197 : Nat) ({ cls := "BlessLoanModel", name := "setOwed", desc := "(III)V" } : MethodName)) ∈ gtb := gtb_in (tin6 (List.mem_of_getElem? (i := 229) rfl)) rfl
theorem q1546 : (Cond.instanceMethod ({ cls := "BlessLoanModel", name := "setOwed", desc := "(III)V" } : MethodName)) ∈ gtb := gtb_in (tin6 (List.mem_of_getElem? (i := 231) rfl)) rfl
theorem q1547 : (Cond.code ({ cls := "BlessLoanModel", name := "setOwed", desc := "(III)V" } : MethodName) prog_14_method_20_code (4 : Nat) (Option.none : Option FieldType)) ∈ gtb := gtb_in (tin6 (List.mem_of_getElem? (i := 232) rfl)) rfl
theorem q1548 : (Cond.methodLink "BlessLoanLaw" (30 : Nat) ({ cls := "BlessLoanModel", name := "of", desc := "(II)I" } : MethodName)) ∈ gtb := gtb_in (tin6 (List.mem_of_getElem? (i := 233) rfl)) rfl
theorem q1549 : (Cond.instanceMethod ({ cls := "BlessLoanModel", name := "of", desc := "(II)I" } : MethodName)) ∈ gtb := gtb_in (tin6 (List.mem_of_getElem? (i := 234) rfl)) rfl
theorem q1550 : (Cond.selects "BlessLoanModel" ({ cls := "BlessLoanModel", name := "of", desc := "(II)I" } : MethodName) ({ cls := "BlessLoanModel", name := "of", desc := "(II)I" } : MethodName)) ∈ gtb := gtb_in (tin6 (List.mem_of_getElem? (i := 235) rfl)) rfl
theorem q1551 : (Cond.code ({ cls := "BlessLoanModel", name := "of", desc := "(II)I" } : MethodName) prog_14_method_27_code (3 : Nat) (Option.some FieldType.int)) ∈ gtb := gtb_in (tin6 (List.mem_of_getElem? (i := 236) rfl)) rfl
theorem q1552 : (Cond.methodLink "BlessLoanModel" (205 : Nat) ({ cls := "BlessLoanModel", name := "isPerson", desc := "(I)Z" } : MethodName)) ∈ gtb := gtb_in (tin6 (List.mem_of_getElem? (i := 237) rfl)) rfl
theorem q1554 : (Cond.instanceMethod ({ cls := "BlessLoanModel", name := "isPerson", desc := "(I)Z" } : MethodName)) ∈ gtb := gtb_in (tin6 (List.mem_of_getElem? (i := 239) rfl)) rfl
theorem q1555 : (Cond.code ({ cls := "BlessLoanModel", name := "isPerson", desc := "(I)Z" } : MethodName) prog_14_method_16_code (2 : Nat) (Option.some FieldType.boolean)) ∈ gtb := gtb_in (tin7 (List.mem_of_getElem? (i := 0) rfl)) rfl
theorem q1556 : (Cond.methodLink "BlessLoanModel" (208 : Nat) ({ cls := "BlessLoanModel", name := "sneezesOf", desc := "(I)I" } : MethodName)) ∈ gtb := gtb_in (tin7 (List.mem_of_getElem? (i := 1) rfl)) rfl
theorem q1558 : (Cond.instanceMethod ({ cls := "BlessLoanModel", name := "sneezesOf", desc := "(I)I" } : MethodName)) ∈ gtb := gtb_in (tin7 (List.mem_of_getElem? (i := 3) rfl)) rfl
theorem q1559 : (Cond.code ({ cls := "BlessLoanModel", name := "sneezesOf", desc := "(I)I" } : MethodName) prog_14_method_72_code (2 : Nat) (Option.some FieldType.int)) ∈ gtb := gtb_in (tin7 (List.mem_of_getElem? (i := 4) rfl)) rfl
theorem q1560 : (Cond.methodLink "BlessLoanModel" (418 : Nat) ({ cls := "BlessLoanModel", name := "tells", desc := "(IIIJ)J" } : MethodName)) ∈ gtb := gtb_in (tin7 (List.mem_of_getElem? (i := 5) rfl)) rfl
theorem q1562 : (Cond.instanceMethod ({ cls := "BlessLoanModel", name := "tells", desc := "(IIIJ)J" } : MethodName)) ∈ gtb := gtb_in (tin7 (List.mem_of_getElem? (i := 7) rfl)) rfl
theorem q1563 : (Cond.code ({ cls := "BlessLoanModel", name := "tells", desc := "(IIIJ)J" } : MethodName) prog_14_method_71_code (10 : Nat) (Option.some FieldType.long)) ∈ gtb := gtb_in (tin7 (List.mem_of_getElem? (i := 8) rfl)) rfl
theorem q1564 : (Cond.constantLong "BlessLoanModel" (265 : Nat) (-1 : Int64)) ∈ gtb := gtb_in (tin7 (List.mem_of_getElem? (i := 9) rfl)) rfl
theorem q1565 : (Cond.methodLink "BlessLoanModel" (412 : Nat) ({ cls := "BlessLoanModel", name := "farOf", desc := "(II)I" } : MethodName)) ∈ gtb := gtb_in (tin7 (List.mem_of_getElem? (i := 10) rfl)) rfl
theorem q1567 : (Cond.instanceMethod ({ cls := "BlessLoanModel", name := "farOf", desc := "(II)I" } : MethodName)) ∈ gtb := gtb_in (tin7 (List.mem_of_getElem? (i := 12) rfl)) rfl
theorem q1568 : (Cond.code ({ cls := "BlessLoanModel", name := "farOf", desc := "(II)I" } : MethodName) prog_14_method_18_code (3 : Nat) (Option.some FieldType.int)) ∈ gtb := gtb_in (tin7 (List.mem_of_getElem? (i := 13) rfl)) rfl
theorem q1569 : (Cond.methodLink "BlessLoanModel" (179 : Nat) ({ cls := "BlessLoanModel", name := "farFrom", desc := "(II)I" } : MethodName)) ∈ gtb := gtb_in (tin7 (List.mem_of_getElem? (i := 14) rfl)) rfl
theorem q1570 : (Cond.static ({ cls := "BlessLoanModel", name := "farFrom", desc := "(II)I" } : MethodName)) ∈ gtb := gtb_in (tin7 (List.mem_of_getElem? (i := 15) rfl)) rfl
theorem q1571 : (Cond.code ({ cls := "BlessLoanModel", name := "farFrom", desc := "(II)I" } : MethodName) prog_14_method_17_code (4 : Nat) (Option.some FieldType.int)) ∈ gtb := gtb_in (tin7 (List.mem_of_getElem? (i := 16) rfl)) rfl
theorem q1572 : (Cond.methodLink "BlessLoanModel" (415 : Nat) ({ cls := "BlessLoanModel", name := "isSo", desc := "(I)Z" } : MethodName)) ∈ gtb := gtb_in (tin7 (List.mem_of_getElem? (i := 17) rfl)) rfl
theorem q1574 : (Cond.instanceMethod ({ cls := "BlessLoanModel", name := "isSo", desc := "(I)Z" } : MethodName)) ∈ gtb := gtb_in (tin7 (List.mem_of_getElem? (i := 19) rfl)) rfl
theorem q1575 : (Cond.code ({ cls := "BlessLoanModel", name := "isSo", desc := "(I)Z" } : MethodName) prog_14_method_70_code (2 : Nat) (Option.some FieldType.boolean)) ∈ gtb := gtb_in (tin7 (List.mem_of_getElem? (i := 20) rfl)) rfl
theorem q1576 : (Cond.methodLink "BlessLoanModel" (406 : Nat) ({ cls := "BlessLoanModel", name := "reckonAll", desc := "(II)V" } : MethodName)) ∈ gtb := gtb_in (tin7 (List.mem_of_getElem? (i := 21) rfl)) rfl
theorem q1578 : (Cond.instanceMethod ({ cls := "BlessLoanModel", name := "reckonAll", desc := "(II)V" } : MethodName)) ∈ gtb := gtb_in (tin7 (List.mem_of_getElem? (i := 23) rfl)) rfl
theorem q1579 : (Cond.code ({ cls := "BlessLoanModel", name := "reckonAll", desc := "(II)V" } : MethodName) prog_14_method_69_code (7 : Nat) (Option.none : Option FieldType)) ∈ gtb := gtb_in (tin7 (List.mem_of_getElem? (i := 24) rfl)) rfl
theorem q1580 : (Cond.methodLink "BlessLoanModel" (217 : Nat) ({ cls := "BlessLoanModel", name := "owedTo", desc := "(I)I" } : MethodName)) ∈ gtb := gtb_in (tin7 (List.mem_of_getElem? (i := 25) rfl)) rfl
theorem q1582 : (Cond.instanceMethod ({ cls := "BlessLoanModel", name := "owedTo", desc := "(I)I" } : MethodName)) ∈ gtb := gtb_in (tin7 (List.mem_of_getElem? (i := 27) rfl)) rfl
theorem q1583 : (Cond.code ({ cls := "BlessLoanModel", name := "owedTo", desc := "(I)I" } : MethodName) prog_14_method_21_code (4 : Nat) (Option.some FieldType.int)) ∈ gtb := gtb_in (tin7 (List.mem_of_getElem? (i := 28) rfl)) rfl
theorem q1584 : (Cond.methodLink "BlessLoanModel" (183 : Nat) ({ cls := "BlessLoanModel", name := "owes", desc := "(II)I" } : MethodName)) ∈ gtb := gtb_in (tin7 (List.mem_of_getElem? (i := 29) rfl)) rfl
theorem q1586 : (Cond.instanceMethod ({ cls := "BlessLoanModel", name := "owes", desc := "(II)I" } : MethodName)) ∈ gtb := gtb_in (tin7 (List.mem_of_getElem? (i := 31) rfl)) rfl
theorem q1587 : (Cond.code ({ cls := "BlessLoanModel", name := "owes", desc := "(II)I" } : MethodName) prog_14_method_19_code (3 : Nat) (Option.some FieldType.int)) ∈ gtb := gtb_in (tin7 (List.mem_of_getElem? (i := 32) rfl)) rfl
theorem q1588 : (Cond.methodLink "BlessLoanModel" (220 : Nat) ({ cls := "BlessLoanModel", name := "owedBy", desc := "(I)I" } : MethodName)) ∈ gtb := gtb_in (tin7 (List.mem_of_getElem? (i := 33) rfl)) rfl
theorem q1590 : (Cond.instanceMethod ({ cls := "BlessLoanModel", name := "owedBy", desc := "(I)I" } : MethodName)) ∈ gtb := gtb_in (tin7 (List.mem_of_getElem? (i := 35) rfl)) rfl
theorem q1591 : (Cond.code ({ cls := "BlessLoanModel", name := "owedBy", desc := "(I)I" } : MethodName) prog_14_method_22_code (4 : Nat) (Option.some FieldType.int)) ∈ gtb := gtb_in (tin7 (List.mem_of_getElem? (i := 36) rfl)) rfl
theorem q1592 : (Cond.methodLink "BlessLoanModel" (395 : Nat) ({ cls := "BlessLoanModel", name := "reckon", desc := "(IJJ)J" } : MethodName)) ∈ gtb := gtb_in (tin7 (List.mem_of_getElem? (i := 37) rfl)) rfl
theorem q1594 : (Cond.instanceMethod ({ cls := "BlessLoanModel", name := "reckon", desc := "(IJJ)J" } : MethodName)) ∈ gtb := gtb_in (tin7 (List.mem_of_getElem? (i := 39) rfl)) rfl
theorem q1595 : (Cond.code ({ cls := "BlessLoanModel", name := "reckon", desc := "(IJJ)J" } : MethodName) prog_14_method_68_code (6 : Nat) (Option.some FieldType.long)) ∈ gtb := gtb_in (tin7 (List.mem_of_getElem? (i := 40) rfl)) rfl
theorem q1596 : (Cond.constantLong "BlessLoanModel" (399 : Nat) (-1000000000 : Int64)) ∈ gtb := gtb_in (tin7 (List.mem_of_getElem? (i := 41) rfl)) rfl
theorem q1597 : (Cond.constantLong "BlessLoanModel" (401 : Nat) (1000000000 : Int64)) ∈ gtb := gtb_in (tin7 (List.mem_of_getElem? (i := 42) rfl)) rfl
theorem q1598 : (Cond.methodLink "BlessLoanModel" (422 : Nat) ({ cls := "BlessLoanModel", name := "within", desc := "(JII)I" } : MethodName)) ∈ gtb := gtb_in (tin7 (List.mem_of_getElem? (i := 43) rfl)) rfl
theorem q1599 : (Cond.static ({ cls := "BlessLoanModel", name := "within", desc := "(JII)I" } : MethodName)) ∈ gtb := gtb_in (tin7 (List.mem_of_getElem? (i := 44) rfl)) rfl
theorem q1600 : (Cond.code ({ cls := "BlessLoanModel", name := "within", desc := "(JII)I" } : MethodName) prog_14_method_6_code (4 : Nat) (Option.some FieldType.int)) ∈ gtb := gtb_in (tin7 (List.mem_of_getElem? (i := 45) rfl)) rfl
theorem q1601 : (Cond.methodLink "BlessLoanModel" (211 : Nat) ({ cls := "BlessLoanModel", name := "hearsOf", desc := "(I)I" } : MethodName)) ∈ gtb := gtb_in (tin7 (List.mem_of_getElem? (i := 46) rfl)) rfl
theorem q1603 : (Cond.instanceMethod ({ cls := "BlessLoanModel", name := "hearsOf", desc := "(I)I" } : MethodName)) ∈ gtb := gtb_in (tin7 (List.mem_of_getElem? (i := 48) rfl)) rfl
theorem q1604 : (Cond.code ({ cls := "BlessLoanModel", name := "hearsOf", desc := "(I)I" } : MethodName) prog_14_method_73_code (2 : Nat) (Option.some FieldType.int)) ∈ gtb := gtb_in (tin7 (List.mem_of_getElem? (i := 49) rfl)) rfl
theorem q1605 : (Cond.methodLink "BlessLoanModel" (214 : Nat) ({ cls := "BlessLoanModel", name := "blesserOf", desc := "(I)I" } : MethodName)) ∈ gtb := gtb_in (tin7 (List.mem_of_getElem? (i := 50) rfl)) rfl
theorem q1607 : (Cond.instanceMethod ({ cls := "BlessLoanModel", name := "blesserOf", desc := "(I)I" } : MethodName)) ∈ gtb := gtb_in (tin7 (List.mem_of_getElem? (i := 52) rfl)) rfl
theorem q1608 : (Cond.code ({ cls := "BlessLoanModel", name := "blesserOf", desc := "(I)I" } : MethodName) prog_14_method_78_code (5 : Nat) (Option.some FieldType.int)) ∈ gtb := gtb_in (tin7 (List.mem_of_getElem? (i := 53) rfl)) rfl
theorem q1609 : (Cond.methodLink "BlessLoanModel" (435 : Nat) ({ cls := "BlessLoanModel", name := "mayBless", desc := "(II)Z" } : MethodName)) ∈ gtb := gtb_in (tin7 (List.mem_of_getElem? (i := 54) rfl)) rfl
theorem q1611 : (Cond.instanceMethod ({ cls := "BlessLoanModel", name := "mayBless", desc := "(II)Z" } : MethodName)) ∈ gtb := gtb_in (tin7 (List.mem_of_getElem? (i := 56) rfl)) rfl
theorem q1612 : (Cond.code ({ cls := "BlessLoanModel", name := "mayBless", desc := "(II)Z" } : MethodName) prog_14_method_77_code (3 : Nat) (Option.some FieldType.boolean)) ∈ gtb := gtb_in (tin7 (List.mem_of_getElem? (i := 57) rfl)) rfl
theorem q1613 : (Cond.methodLink "BlessLoanModel" (431 : Nat) ({ cls := "BlessLoanModel", name := "isBarred", desc := "(II)Z" } : MethodName)) ∈ gtb := gtb_in (tin7 (List.mem_of_getElem? (i := 58) rfl)) rfl
theorem q1615 : (Cond.instanceMethod ({ cls := "BlessLoanModel", name := "isBarred", desc := "(II)Z" } : MethodName)) ∈ gtb := gtb_in (tin7 (List.mem_of_getElem? (i := 60) rfl)) rfl
theorem q1616 : (Cond.code ({ cls := "BlessLoanModel", name := "isBarred", desc := "(II)Z" } : MethodName) prog_14_method_75_code (3 : Nat) (Option.some FieldType.boolean)) ∈ gtb := gtb_in (tin7 (List.mem_of_getElem? (i := 61) rfl)) rfl
theorem q1617 : (Cond.methodLink "BlessLoanLaw" (34 : Nat) ({ cls := "BlessLoanModel", name := "mask", desc := "(II)I" } : MethodName)) ∈ gtb := gtb_in (tin7 (List.mem_of_getElem? (i := 62) rfl)) rfl
theorem q1618 : (Cond.instanceMethod ({ cls := "BlessLoanModel", name := "mask", desc := "(II)I" } : MethodName)) ∈ gtb := gtb_in (tin7 (List.mem_of_getElem? (i := 63) rfl)) rfl
theorem q1619 : (Cond.selects "BlessLoanModel" ({ cls := "BlessLoanModel", name := "mask", desc := "(II)I" } : MethodName) ({ cls := "BlessLoanModel", name := "mask", desc := "(II)I" } : MethodName)) ∈ gtb := gtb_in (tin7 (List.mem_of_getElem? (i := 64) rfl)) rfl
theorem q1620 : (Cond.code ({ cls := "BlessLoanModel", name := "mask", desc := "(II)I" } : MethodName) prog_14_method_28_code (3 : Nat) (Option.some FieldType.int)) ∈ gtb := gtb_in (tin7 (List.mem_of_getElem? (i := 65) rfl)) rfl
theorem q1621 : (Cond.methodLink "BlessLoanLaw" (38 : Nat) ({ cls := "BlessLoanModel", name := "owed", desc := "(II)I" } : MethodName)) ∈ gtb := gtb_in (tin7 (List.mem_of_getElem? (i := 66) rfl)) rfl
theorem q1622 : (Cond.instanceMethod ({ cls := "BlessLoanModel", name := "owed", desc := "(II)I" } : MethodName)) ∈ gtb := gtb_in (tin7 (List.mem_of_getElem? (i := 67) rfl)) rfl
theorem q1623 : (Cond.selects "BlessLoanModel" ({ cls := "BlessLoanModel", name := "owed", desc := "(II)I" } : MethodName) ({ cls := "BlessLoanModel", name := "owed", desc := "(II)I" } : MethodName)) ∈ gtb := gtb_in (tin7 (List.mem_of_getElem? (i := 68) rfl)) rfl
theorem q1624 : (Cond.code ({ cls := "BlessLoanModel", name := "owed", desc := "(II)I" } : MethodName) prog_14_method_29_code (3 : Nat) (Option.some FieldType.int)) ∈ gtb := gtb_in (tin7 (List.mem_of_getElem? (i := 69) rfl)) rfl
theorem q1625 : (Cond.methodLink "BlessLoanLaw" (43 : Nat) ({ cls := "BlessLoanModel", name := "lend", desc := "(III)I" } : MethodName)) ∈ gtb := gtb_in (tin7 (List.mem_of_getElem? (i := 70) rfl)) rfl
theorem q1626 : (Cond.instanceMethod ({ cls := "BlessLoanModel", name := "lend", desc := "(III)I" } : MethodName)) ∈ gtb := gtb_in (tin7 (List.mem_of_getElem? (i := 71) rfl)) rfl
theorem q1627 : (Cond.selects "BlessLoanModel" ({ cls := "BlessLoanModel", name := "lend", desc := "(III)I" } : MethodName) ({ cls := "BlessLoanModel", name := "lend", desc := "(III)I" } : MethodName)) ∈ gtb := gtb_in (tin7 (List.mem_of_getElem? (i := 72) rfl)) rfl
theorem q1628 : (Cond.code ({ cls := "BlessLoanModel", name := "lend", desc := "(III)I" } : MethodName) prog_14_method_30_code (4 : Nat) (Option.some FieldType.int)) ∈ gtb := gtb_in (tin7 (List.mem_of_getElem? (i := 73) rfl)) rfl
theorem q1629 : (Cond.methodLink "BlessLoanLaw" (48 : Nat) ({ cls := "BlessLoanModel", name := "net", desc := "(I)I" } : MethodName)) ∈ gtb := gtb_in (tin7 (List.mem_of_getElem? (i := 74) rfl)) rfl
theorem q1630 : (Cond.instanceMethod ({ cls := "BlessLoanModel", name := "net", desc := "(I)I" } : MethodName)) ∈ gtb := gtb_in (tin7 (List.mem_of_getElem? (i := 75) rfl)) rfl
theorem q1631 : (Cond.selects "BlessLoanModel" ({ cls := "BlessLoanModel", name := "net", desc := "(I)I" } : MethodName) ({ cls := "BlessLoanModel", name := "net", desc := "(I)I" } : MethodName)) ∈ gtb := gtb_in (tin7 (List.mem_of_getElem? (i := 76) rfl)) rfl
theorem q1632 : (Cond.code ({ cls := "BlessLoanModel", name := "net", desc := "(I)I" } : MethodName) prog_14_method_31_code (2 : Nat) (Option.some FieldType.int)) ∈ gtb := gtb_in (tin7 (List.mem_of_getElem? (i := 77) rfl)) rfl
theorem q1633 : (Cond.constant "BlessLoanModel" (223 : Nat) (-100000 : Int32)) ∈ gtb := gtb_in (tin7 (List.mem_of_getElem? (i := 78) rfl)) rfl
theorem q1634 : (Cond.methodLink "BlessLoanLaw" (52 : Nat) ({ cls := "BlessLoanModel", name := "terms", desc := "(II)I" } : MethodName)) ∈ gtb := gtb_in (tin7 (List.mem_of_getElem? (i := 79) rfl)) rfl
theorem q1635 : (Cond.instanceMethod ({ cls := "BlessLoanModel", name := "terms", desc := "(II)I" } : MethodName)) ∈ gtb := gtb_in (tin7 (List.mem_of_getElem? (i := 80) rfl)) rfl
theorem q1636 : (Cond.selects "BlessLoanModel" ({ cls := "BlessLoanModel", name := "terms", desc := "(II)I" } : MethodName) ({ cls := "BlessLoanModel", name := "terms", desc := "(II)I" } : MethodName)) ∈ gtb := gtb_in (tin7 (List.mem_of_getElem? (i := 81) rfl)) rfl
theorem q1637 : (Cond.code ({ cls := "BlessLoanModel", name := "terms", desc := "(II)I" } : MethodName) prog_14_method_32_code (4 : Nat) (Option.some FieldType.int)) ∈ gtb := gtb_in (tin7 (List.mem_of_getElem? (i := 82) rfl)) rfl
theorem q1638 : (Cond.constantLong "BlessLoanModel" (224 : Nat) (9999 : Int64)) ∈ gtb := gtb_in (tin7 (List.mem_of_getElem? (i := 83) rfl)) rfl
theorem q1639 : (Cond.methodLink "BlessLoanLaw" (66 : Nat) ({ cls := "BlessLoanModel", name := "row", desc := "()I" } : MethodName)) ∈ gtb := gtb_in (tin7 (List.mem_of_getElem? (i := 84) rfl)) rfl
theorem q1640 : (Cond.instanceMethod ({ cls := "BlessLoanModel", name := "row", desc := "()I" } : MethodName)) ∈ gtb := gtb_in (tin7 (List.mem_of_getElem? (i := 85) rfl)) rfl
theorem q1641 : (Cond.selects "BlessLoanModel" ({ cls := "BlessLoanModel", name := "row", desc := "()I" } : MethodName) ({ cls := "BlessLoanModel", name := "row", desc := "()I" } : MethodName)) ∈ gtb := gtb_in (tin7 (List.mem_of_getElem? (i := 86) rfl)) rfl
theorem q1642 : (Cond.code ({ cls := "BlessLoanModel", name := "row", desc := "()I" } : MethodName) prog_14_method_33_code (4 : Nat) (Option.some FieldType.int)) ∈ gtb := gtb_in (tin7 (List.mem_of_getElem? (i := 87) rfl)) rfl
theorem q1643 : (Cond.methodLink "BlessLoanLaw" (70 : Nat) ({ cls := "BlessLoanModel", name := "hiccups", desc := "()I" } : MethodName)) ∈ gtb := gtb_in (tin7 (List.mem_of_getElem? (i := 88) rfl)) rfl
theorem q1644 : (Cond.instanceMethod ({ cls := "BlessLoanModel", name := "hiccups", desc := "()I" } : MethodName)) ∈ gtb := gtb_in (tin7 (List.mem_of_getElem? (i := 89) rfl)) rfl
theorem q1645 : (Cond.selects "BlessLoanModel" ({ cls := "BlessLoanModel", name := "hiccups", desc := "()I" } : MethodName) ({ cls := "BlessLoanModel", name := "hiccups", desc := "()I" } : MethodName)) ∈ gtb := gtb_in (tin7 (List.mem_of_getElem? (i := 90) rfl)) rfl
theorem q1646 : (Cond.code ({ cls := "BlessLoanModel", name := "hiccups", desc := "()I" } : MethodName) prog_14_method_34_code (1 : Nat) (Option.some FieldType.int)) ∈ gtb := gtb_in (tin7 (List.mem_of_getElem? (i := 91) rfl)) rfl
theorem q1647 : (Cond.methodLink "BlessLoanLaw" (57 : Nat) ({ cls := "BlessLoanModel", name := "feed", desc := "(IIIII)I" } : MethodName)) ∈ gtb := gtb_in (tin7 (List.mem_of_getElem? (i := 92) rfl)) rfl
theorem q1648 : (Cond.instanceMethod ({ cls := "BlessLoanModel", name := "feed", desc := "(IIIII)I" } : MethodName)) ∈ gtb := gtb_in (tin7 (List.mem_of_getElem? (i := 93) rfl)) rfl
theorem q1649 : (Cond.selects "BlessLoanModel" ({ cls := "BlessLoanModel", name := "feed", desc := "(IIIII)I" } : MethodName) ({ cls := "BlessLoanModel", name := "feed", desc := "(IIIII)I" } : MethodName)) ∈ gtb := gtb_in (tin7 (List.mem_of_getElem? (i := 94) rfl)) rfl
theorem q1650 : (Cond.code ({ cls := "BlessLoanModel", name := "feed", desc := "(IIIII)I" } : MethodName) prog_14_method_36_code (6 : Nat) (Option.some FieldType.int)) ∈ gtb := gtb_in (tin7 (List.mem_of_getElem? (i := 95) rfl)) rfl
theorem q1651 : (Cond.methodLink "BlessLoanModel" (232 : Nat) ({ cls := "BlessLoanModel", name := "four", desc := "(I)V" } : MethodName)) ∈ gtb := gtb_in (tin7 (List.mem_of_getElem? (i := 96) rfl)) rfl
theorem q1653 : (Cond.instanceMethod ({ cls := "BlessLoanModel", name := "four", desc := "(I)V" } : MethodName)) ∈ gtb := gtb_in (tin7 (List.mem_of_getElem? (i := 98) rfl)) rfl
theorem q1654 : (Cond.code ({ cls := "BlessLoanModel", name := "four", desc := "(I)V" } : MethodName) prog_14_method_35_code (3 : Nat) (Option.none : Option FieldType)) ∈ gtb := gtb_in (tin7 (List.mem_of_getElem? (i := 99) rfl)) rfl
theorem q1655 : (Cond.methodLink "BlessLoanLaw" (61 : Nat) ({ cls := "BlessLoanModel", name := "end", desc := "(I)I" } : MethodName)) ∈ gtb := gtb_in (tin7 (List.mem_of_getElem? (i := 100) rfl)) rfl
theorem q1656 : (Cond.instanceMethod ({ cls := "BlessLoanModel", name := "end", desc := "(I)I" } : MethodName)) ∈ gtb := gtb_in (tin7 (List.mem_of_getElem? (i := 101) rfl)) rfl
theorem q1657 : (Cond.selects "BlessLoanModel" ({ cls := "BlessLoanModel", name := "end", desc := "(I)I" } : MethodName) ({ cls := "BlessLoanModel", name := "end", desc := "(I)I" } : MethodName)) ∈ gtb := gtb_in (tin7 (List.mem_of_getElem? (i := 102) rfl)) rfl
theorem q1658 : (Cond.code ({ cls := "BlessLoanModel", name := "end", desc := "(I)I" } : MethodName) prog_14_method_37_code (2 : Nat) (Option.some FieldType.int)) ∈ gtb := gtb_in (tin7 (List.mem_of_getElem? (i := 103) rfl)) rfl
theorem q1659 : (Cond.methodLink "BlessLoanLaw" (82 : Nat) ({ cls := "BlessLoanModel", name := "fault", desc := "()I" } : MethodName)) ∈ gtb := gtb_in (tin7 (List.mem_of_getElem? (i := 104) rfl)) rfl
theorem q1660 : (Cond.instanceMethod ({ cls := "BlessLoanModel", name := "fault", desc := "()I" } : MethodName)) ∈ gtb := gtb_in (tin7 (List.mem_of_getElem? (i := 105) rfl)) rfl
theorem q1661 : (Cond.selects "BlessLoanModel" ({ cls := "BlessLoanModel", name := "fault", desc := "()I" } : MethodName) ({ cls := "BlessLoanModel", name := "fault", desc := "()I" } : MethodName)) ∈ gtb := gtb_in (tin7 (List.mem_of_getElem? (i := 106) rfl)) rfl
theorem q1662 : (Cond.code ({ cls := "BlessLoanModel", name := "fault", desc := "()I" } : MethodName) prog_14_method_46_code (1 : Nat) (Option.some FieldType.int)) ∈ gtb := gtb_in (tin7 (List.mem_of_getElem? (i := 107) rfl)) rfl
theorem q1663 : (Cond.methodLink "BlessLoanLaw" (74 : Nat) ({ cls := "BlessLoanModel", name := "law", desc := "()I" } : MethodName)) ∈ gtb := gtb_in (tin7 (List.mem_of_getElem? (i := 108) rfl)) rfl
theorem q1664 : (Cond.instanceMethod ({ cls := "BlessLoanModel", name := "law", desc := "()I" } : MethodName)) ∈ gtb := gtb_in (tin7 (List.mem_of_getElem? (i := 109) rfl)) rfl
theorem q1665 : (Cond.selects "BlessLoanModel" ({ cls := "BlessLoanModel", name := "law", desc := "()I" } : MethodName) ({ cls := "BlessLoanModel", name := "law", desc := "()I" } : MethodName)) ∈ gtb := gtb_in (tin7 (List.mem_of_getElem? (i := 110) rfl)) rfl
theorem q1666 : (Cond.code ({ cls := "BlessLoanModel", name := "law", desc := "()I" } : MethodName) prog_14_method_65_code (3 : Nat) (Option.some FieldType.int)) ∈ gtb := gtb_in (tin7 (List.mem_of_getElem? (i := 111) rfl)) rfl
theorem q1667 : (Cond.methodLink "BlessLoanModel" (377 : Nat) ({ cls := "BlessLoanModel", name := "beginText", desc := "(Z)V" } : MethodName)) ∈ gtb := gtb_in (tin7 (List.mem_of_getElem? (i := 112) rfl)) rfl
theorem q1669 : (Cond.instanceMethod ({ cls := "BlessLoanModel", name := "beginText", desc := "(Z)V" } : MethodName)) ∈ gtb := gtb_in (tin7 (List.mem_of_getElem? (i := 114) rfl)) rfl
theorem q1670 : (Cond.code ({ cls := "BlessLoanModel", name := "beginText", desc := "(Z)V" } : MethodName) prog_14_method_62_code (2 : Nat) (Option.none : Option FieldType)) ∈ gtb := gtb_in (tin7 (List.mem_of_getElem? (i := 115) rfl)) rfl
theorem q1671 : (Cond.methodLink "BlessLoanModel" (366 : Nat) ({ cls := "BlessLoanModel", name := "begin", desc := "()V" } : MethodName)) ∈ gtb := gtb_in (tin7 (List.mem_of_getElem? (i := 116) rfl)) rfl
theorem q1673 : (Cond.instanceMethod ({ cls := "BlessLoanModel", name := "begin", desc := "()V" } : MethodName)) ∈ gtb := gtb_in (tin7 (List.mem_of_getElem? (i := 118) rfl)) rfl
theorem q1674 : (Cond.code ({ cls := "BlessLoanModel", name := "begin", desc := "()V" } : MethodName) prog_14_method_40_code (1 : Nat) (Option.none : Option FieldType)) ∈ gtb := gtb_in (tin7 (List.mem_of_getElem? (i := 119) rfl)) rfl
theorem q1675 : (Cond.methodLink "BlessLoanModel" (242 : Nat) ({ cls := "BlessLoanModel", name := "next", desc := "()V" } : MethodName)) ∈ gtb := gtb_in (tin7 (List.mem_of_getElem? (i := 120) rfl)) rfl
theorem q1677 : (Cond.instanceMethod ({ cls := "BlessLoanModel", name := "next", desc := "()V" } : MethodName)) ∈ gtb := gtb_in (tin7 (List.mem_of_getElem? (i := 122) rfl)) rfl
theorem q1678 : (Cond.code ({ cls := "BlessLoanModel", name := "next", desc := "()V" } : MethodName) prog_14_method_41_code (1 : Nat) (Option.none : Option FieldType)) ∈ gtb := gtb_in (tin7 (List.mem_of_getElem? (i := 123) rfl)) rfl
theorem q1679 : (Cond.methodLink "BlessLoanModel" (252 : Nat) ({ cls := "BlessLoanModel", name := "isSmall", desc := "(I)Z" } : MethodName)) ∈ gtb := gtb_in (tin7 (List.mem_of_getElem? (i := 124) rfl)) rfl
theorem q1680 : (Cond.static ({ cls := "BlessLoanModel", name := "isSmall", desc := "(I)Z" } : MethodName)) ∈ gtb := gtb_in (tin7 (List.mem_of_getElem? (i := 125) rfl)) rfl
theorem q1681 : (Cond.code ({ cls := "BlessLoanModel", name := "isSmall", desc := "(I)Z" } : MethodName) prog_14_method_38_code (1 : Nat) (Option.some FieldType.boolean)) ∈ gtb := gtb_in (tin7 (List.mem_of_getElem? (i := 126) rfl)) rfl
theorem q1682 : (Cond.methodLink "BlessLoanModel" (255 : Nat) ({ cls := "BlessLoanModel", name := "isDigit", desc := "(I)Z" } : MethodName)) ∈ gtb := gtb_in (tin7 (List.mem_of_getElem? (i := 127) rfl)) rfl
theorem q1683 : (Cond.static ({ cls := "BlessLoanModel", name := "isDigit", desc := "(I)Z" } : MethodName)) ∈ gtb := gtb_in (tin7 (List.mem_of_getElem? (i := 128) rfl)) rfl
theorem q1684 : (Cond.code ({ cls := "BlessLoanModel", name := "isDigit", desc := "(I)Z" } : MethodName) prog_14_method_39_code (1 : Nat) (Option.some FieldType.boolean)) ∈ gtb := gtb_in (tin7 (List.mem_of_getElem? (i := 129) rfl)) rfl
theorem q1685 : (Cond.constantLong "BlessLoanModel" (261 : Nat) (32 : Int64)) ∈ gtb := gtb_in (tin7 (List.mem_of_getElem? (i := 130) rfl)) rfl
theorem q1686 : (Cond.constantLong "BlessLoanModel" (263 : Nat) (96 : Int64)) ∈ gtb := gtb_in (tin7 (List.mem_of_getElem? (i := 131) rfl)) rfl
theorem q1687 : (Cond.constantLong "BlessLoanModel" (267 : Nat) (1000000 : Int64)) ∈ gtb := gtb_in (tin7 (List.mem_of_getElem? (i := 132) rfl)) rfl
theorem q1688 : (Cond.constantLong "BlessLoanModel" (269 : Nat) (10 : Int64)) ∈ gtb := gtb_in (tin7 (List.mem_of_getElem? (i := 133) rfl)) rfl
theorem q1689 : (Cond.constantLong "BlessLoanModel" (271 : Nat) (48 : Int64)) ∈ gtb := gtb_in (tin7 (List.mem_of_getElem? (i := 134) rfl)) rfl
theorem q1690 : (Cond.methodLink "BlessLoanModel" (380 : Nat) ({ cls := "BlessLoanModel", name := "readLaw", desc := "()V" } : MethodName)) ∈ gtb := gtb_in (tin7 (List.mem_of_getElem? (i := 135) rfl)) rfl
theorem q1692 : (Cond.instanceMethod ({ cls := "BlessLoanModel", name := "readLaw", desc := "()V" } : MethodName)) ∈ gtb := gtb_in (tin7 (List.mem_of_getElem? (i := 137) rfl)) rfl
theorem q1693 : (Cond.code ({ cls := "BlessLoanModel", name := "readLaw", desc := "()V" } : MethodName) prog_14_method_64_code (4 : Nat) (Option.none : Option FieldType)) ∈ gtb := gtb_in (tin7 (List.mem_of_getElem? (i := 138) rfl)) rfl
theorem q1694 : (Cond.methodLink "BlessLoanModel" (296 : Nat) ({ cls := "BlessLoanModel", name := "isWord", desc := "(J)Z" } : MethodName)) ∈ gtb := gtb_in (tin7 (List.mem_of_getElem? (i := 139) rfl)) rfl
theorem q1696 : (Cond.instanceMethod ({ cls := "BlessLoanModel", name := "isWord", desc := "(J)Z" } : MethodName)) ∈ gtb := gtb_in (tin7 (List.mem_of_getElem? (i := 141) rfl)) rfl
theorem q1697 : (Cond.code ({ cls := "BlessLoanModel", name := "isWord", desc := "(J)Z" } : MethodName) prog_14_method_42_code (3 : Nat) (Option.some FieldType.boolean)) ∈ gtb := gtb_in (tin7 (List.mem_of_getElem? (i := 142) rfl)) rfl
theorem q1698 : (Cond.methodLink "BlessLoanModel" (273 : Nat) ({ cls := "BlessLoanModel", name := "must", desc := "(Z)V" } : MethodName)) ∈ gtb := gtb_in (tin7 (List.mem_of_getElem? (i := 143) rfl)) rfl
theorem q1700 : (Cond.instanceMethod ({ cls := "BlessLoanModel", name := "must", desc := "(Z)V" } : MethodName)) ∈ gtb := gtb_in (tin7 (List.mem_of_getElem? (i := 145) rfl)) rfl
theorem q1701 : (Cond.code ({ cls := "BlessLoanModel", name := "must", desc := "(Z)V" } : MethodName) prog_14_method_44_code (2 : Nat) (Option.none : Option FieldType)) ∈ gtb := gtb_in (tin7 (List.mem_of_getElem? (i := 146) rfl)) rfl
theorem q1702 : (Cond.methodLink "BlessLoanModel" (372 : Nat) ({ cls := "BlessLoanModel", name := "readExpression", desc := "(Z)V" } : MethodName)) ∈ gtb := gtb_in (tin7 (List.mem_of_getElem? (i := 147) rfl)) rfl
theorem q1704 : (Cond.instanceMethod ({ cls := "BlessLoanModel", name := "readExpression", desc := "(Z)V" } : MethodName)) ∈ gtb := gtb_in (tin7 (List.mem_of_getElem? (i := 149) rfl)) rfl
theorem q1705 : (Cond.code ({ cls := "BlessLoanModel", name := "readExpression", desc := "(Z)V" } : MethodName) prog_14_method_61_code (3 : Nat) (Option.none : Option FieldType)) ∈ gtb := gtb_in (tin7 (List.mem_of_getElem? (i := 150) rfl)) rfl
theorem q1706 : (Cond.methodLink "BlessLoanModel" (356 : Nat) ({ cls := "BlessLoanModel", name := "readPlain", desc := "()I" } : MethodName)) ∈ gtb := gtb_in (tin7 (List.mem_of_getElem? (i := 151) rfl)) rfl
theorem q1708 : (Cond.instanceMethod ({ cls := "BlessLoanModel", name := "readPlain", desc := "()I" } : MethodName)) ∈ gtb := gtb_in (tin7 (List.mem_of_getElem? (i := 153) rfl)) rfl
theorem q1709 : (Cond.code ({ cls := "BlessLoanModel", name := "readPlain", desc := "()I" } : MethodName) prog_14_method_58_code (1 : Nat) (Option.some FieldType.int)) ∈ gtb := gtb_in (tin7 (List.mem_of_getElem? (i := 154) rfl)) rfl
theorem q1710 : (Cond.constantLong "BlessLoanModel" (337 : Nat) (14836 : Int64)) ∈ gtb := gtb_in (tin7 (List.mem_of_getElem? (i := 155) rfl)) rfl
theorem q1711 : (Cond.methodLink "BlessLoanModel" (303 : Nat) ({ cls := "BlessLoanModel", name := "push", desc := "(II)V" } : MethodName)) ∈ gtb := gtb_in (tin7 (List.mem_of_getElem? (i := 156) rfl)) rfl
theorem q1713 : (Cond.instanceMethod ({ cls := "BlessLoanModel", name := "push", desc := "(II)V" } : MethodName)) ∈ gtb := gtb_in (tin7 (List.mem_of_getElem? (i := 158) rfl)) rfl
theorem q1714 : (Cond.code ({ cls := "BlessLoanModel", name := "push", desc := "(II)V" } : MethodName) prog_14_method_48_code (3 : Nat) (Option.none : Option FieldType)) ∈ gtb := gtb_in (tin7 (List.mem_of_getElem? (i := 159) rfl)) rfl
theorem q1715 : (Cond.methodLink "BlessLoanModel" (309 : Nat) ({ cls := "BlessLoanModel", name := "isSign", desc := "(I)Z" } : MethodName)) ∈ gtb := gtb_in (tin7 (List.mem_of_getElem? (i := 160) rfl)) rfl
theorem q1717 : (Cond.instanceMethod ({ cls := "BlessLoanModel", name := "isSign", desc := "(I)Z" } : MethodName)) ∈ gtb := gtb_in (tin7 (List.mem_of_getElem? (i := 162) rfl)) rfl
theorem q1718 : (Cond.code ({ cls := "BlessLoanModel", name := "isSign", desc := "(I)Z" } : MethodName) prog_14_method_43_code (2 : Nat) (Option.some FieldType.boolean)) ∈ gtb := gtb_in (tin7 (List.mem_of_getElem? (i := 163) rfl)) rfl
theorem q1719 : (Cond.methodLink "BlessLoanModel" (312 : Nat) ({ cls := "BlessLoanModel", name := "openBracket", desc := "(I)V" } : MethodName)) ∈ gtb := gtb_in (tin7 (List.mem_of_getElem? (i := 164) rfl)) rfl
theorem q1721 : (Cond.instanceMethod ({ cls := "BlessLoanModel", name := "openBracket", desc := "(I)V" } : MethodName)) ∈ gtb := gtb_in (tin7 (List.mem_of_getElem? (i := 166) rfl)) rfl
theorem q1722 : (Cond.code ({ cls := "BlessLoanModel", name := "openBracket", desc := "(I)V" } : MethodName) prog_14_method_55_code (2 : Nat) (Option.none : Option FieldType)) ∈ gtb := gtb_in (tin7 (List.mem_of_getElem? (i := 167) rfl)) rfl
theorem q1723 : (Cond.methodLink "BlessLoanModel" (339 : Nat) ({ cls := "BlessLoanModel", name := "readPart", desc := "()I" } : MethodName)) ∈ gtb := gtb_in (tin7 (List.mem_of_getElem? (i := 168) rfl)) rfl
theorem q1725 : (Cond.instanceMethod ({ cls := "BlessLoanModel", name := "readPart", desc := "()I" } : MethodName)) ∈ gtb := gtb_in (tin7 (List.mem_of_getElem? (i := 170) rfl)) rfl
theorem q1726 : (Cond.code ({ cls := "BlessLoanModel", name := "readPart", desc := "()I" } : MethodName) prog_14_method_57_code (4 : Nat) (Option.some FieldType.int)) ∈ gtb := gtb_in (tin7 (List.mem_of_getElem? (i := 171) rfl)) rfl
theorem q1727 : (Cond.methodLink "BlessLoanModel" (318 : Nat) ({ cls := "BlessLoanModel", name := "orderPartAt", desc := "()I" } : MethodName)) ∈ gtb := gtb_in (tin7 (List.mem_of_getElem? (i := 172) rfl)) rfl
theorem q1729 : (Cond.instanceMethod ({ cls := "BlessLoanModel", name := "orderPartAt", desc := "()I" } : MethodName)) ∈ gtb := gtb_in (tin7 (List.mem_of_getElem? (i := 174) rfl)) rfl
theorem q1730 : (Cond.code ({ cls := "BlessLoanModel", name := "orderPartAt", desc := "()I" } : MethodName) prog_14_method_54_code (3 : Nat) (Option.some FieldType.int)) ∈ gtb := gtb_in (tin7 (List.mem_of_getElem? (i := 175) rfl)) rfl
theorem q1731 : (Cond.methodLink "BlessLoanModel" (322 : Nat) ({ cls := "BlessLoanModel", name := "partAt", desc := "()I" } : MethodName)) ∈ gtb := gtb_in (tin7 (List.mem_of_getElem? (i := 176) rfl)) rfl
theorem q1733 : (Cond.instanceMethod ({ cls := "BlessLoanModel", name := "partAt", desc := "()I" } : MethodName)) ∈ gtb := gtb_in (tin7 (List.mem_of_getElem? (i := 178) rfl)) rfl
theorem q1734 : (Cond.code ({ cls := "BlessLoanModel", name := "partAt", desc := "()I" } : MethodName) prog_14_method_53_code (3 : Nat) (Option.some FieldType.int)) ∈ gtb := gtb_in (tin7 (List.mem_of_getElem? (i := 179) rfl)) rfl
theorem q1735 : (Cond.constantLong "BlessLoanModel" (325 : Nat) (1000 : Int64)) ∈ gtb := gtb_in (tin7 (List.mem_of_getElem? (i := 180) rfl)) rfl
theorem q1736 : (Cond.methodLink "BlessLoanModel" (327 : Nat) ({ cls := "BlessLoanModel", name := "leaf", desc := "(ZII)V" } : MethodName)) ∈ gtb := gtb_in (tin7 (List.mem_of_getElem? (i := 181) rfl)) rfl
theorem q1738 : (Cond.instanceMethod ({ cls := "BlessLoanModel", name := "leaf", desc := "(ZII)V" } : MethodName)) ∈ gtb := gtb_in (tin7 (List.mem_of_getElem? (i := 183) rfl)) rfl
theorem q1739 : (Cond.code ({ cls := "BlessLoanModel", name := "leaf", desc := "(ZII)V" } : MethodName) prog_14_method_56_code (4 : Nat) (Option.none : Option FieldType)) ∈ gtb := gtb_in (tin7 (List.mem_of_getElem? (i := 184) rfl)) rfl
theorem q1740 : (Cond.methodLink "BlessLoanModel" (286 : Nat) ({ cls := "BlessLoanModel", name := "emit", desc := "(II)V" } : MethodName)) ∈ gtb := gtb_in (tin7 (List.mem_of_getElem? (i := 185) rfl)) rfl
theorem q1742 : (Cond.instanceMethod ({ cls := "BlessLoanModel", name := "emit", desc := "(II)V" } : MethodName)) ∈ gtb := gtb_in (tin7 (List.mem_of_getElem? (i := 187) rfl)) rfl
theorem q1743 : (Cond.code ({ cls := "BlessLoanModel", name := "emit", desc := "(II)V" } : MethodName) prog_14_method_47_code (3 : Nat) (Option.none : Option FieldType)) ∈ gtb := gtb_in (tin7 (List.mem_of_getElem? (i := 188) rfl)) rfl
theorem q1744 : (Cond.constantLong "BlessLoanModel" (331 : Nat) (7 : Int64)) ∈ gtb := gtb_in (tin7 (List.mem_of_getElem? (i := 189) rfl)) rfl
theorem q1745 : (Cond.methodLink "BlessLoanModel" (333 : Nat) ({ cls := "BlessLoanModel", name := "number", desc := "(JJ)I" } : MethodName)) ∈ gtb := gtb_in (tin7 (List.mem_of_getElem? (i := 190) rfl)) rfl
theorem q1747 : (Cond.instanceMethod ({ cls := "BlessLoanModel", name := "number", desc := "(JJ)I" } : MethodName)) ∈ gtb := gtb_in (tin7 (List.mem_of_getElem? (i := 192) rfl)) rfl
theorem q1748 : (Cond.code ({ cls := "BlessLoanModel", name := "number", desc := "(JJ)I" } : MethodName) prog_14_method_45_code (6 : Nat) (Option.some FieldType.int)) ∈ gtb := gtb_in (tin7 (List.mem_of_getElem? (i := 193) rfl)) rfl
theorem q1749 : (Cond.methodLink "BlessLoanModel" (359 : Nat) ({ cls := "BlessLoanModel", name := "behindSum", desc := "(Z)I" } : MethodName)) ∈ gtb := gtb_in (tin7 (List.mem_of_getElem? (i := 194) rfl)) rfl
theorem q1751 : (Cond.instanceMethod ({ cls := "BlessLoanModel", name := "behindSum", desc := "(Z)I" } : MethodName)) ∈ gtb := gtb_in (tin7 (List.mem_of_getElem? (i := 196) rfl)) rfl
theorem q1752 : (Cond.code ({ cls := "BlessLoanModel", name := "behindSum", desc := "(Z)I" } : MethodName) prog_14_method_59_code (4 : Nat) (Option.some FieldType.int)) ∈ gtb := gtb_in (tin7 (List.mem_of_getElem? (i := 197) rfl)) rfl
theorem q1753 : (Cond.methodLink "BlessLoanModel" (283 : Nat) ({ cls := "BlessLoanModel", name := "binds", desc := "(I)I" } : MethodName)) ∈ gtb := gtb_in (tin7 (List.mem_of_getElem? (i := 198) rfl)) rfl
theorem q1754 : (Cond.static ({ cls := "BlessLoanModel", name := "binds", desc := "(I)I" } : MethodName)) ∈ gtb := gtb_in (tin7 (List.mem_of_getElem? (i := 199) rfl)) rfl
theorem q1755 : (Cond.code ({ cls := "BlessLoanModel", name := "binds", desc := "(I)I" } : MethodName) prog_14_method_49_code (1 : Nat) (Option.some FieldType.int)) ∈ gtb := gtb_in (tin7 (List.mem_of_getElem? (i := 200) rfl)) rfl
theorem q1756 : (Cond.methodLink "BlessLoanModel" (342 : Nat) ({ cls := "BlessLoanModel", name := "settle", desc := "(I)V" } : MethodName)) ∈ gtb := gtb_in (tin7 (List.mem_of_getElem? (i := 201) rfl)) rfl
theorem q1758 : (Cond.instanceMethod ({ cls := "BlessLoanModel", name := "settle", desc := "(I)V" } : MethodName)) ∈ gtb := gtb_in (tin7 (List.mem_of_getElem? (i := 203) rfl)) rfl
theorem q1759 : (Cond.code ({ cls := "BlessLoanModel", name := "settle", desc := "(I)V" } : MethodName) prog_14_method_50_code (2 : Nat) (Option.none : Option FieldType)) ∈ gtb := gtb_in (tin7 (List.mem_of_getElem? (i := 204) rfl)) rfl
theorem q1760 : (Cond.methodLink "BlessLoanModel" (345 : Nat) ({ cls := "BlessLoanModel", name := "inner", desc := "()I" } : MethodName)) ∈ gtb := gtb_in (tin7 (List.mem_of_getElem? (i := 205) rfl)) rfl
theorem q1762 : (Cond.instanceMethod ({ cls := "BlessLoanModel", name := "inner", desc := "()I" } : MethodName)) ∈ gtb := gtb_in (tin7 (List.mem_of_getElem? (i := 207) rfl)) rfl
theorem q1763 : (Cond.code ({ cls := "BlessLoanModel", name := "inner", desc := "()I" } : MethodName) prog_14_method_51_code (3 : Nat) (Option.some FieldType.int)) ∈ gtb := gtb_in (tin7 (List.mem_of_getElem? (i := 208) rfl)) rfl
theorem q1764 : (Cond.methodLink "BlessLoanModel" (348 : Nat) ({ cls := "BlessLoanModel", name := "isCompared", desc := "()Z" } : MethodName)) ∈ gtb := gtb_in (tin7 (List.mem_of_getElem? (i := 209) rfl)) rfl
theorem q1766 : (Cond.instanceMethod ({ cls := "BlessLoanModel", name := "isCompared", desc := "()Z" } : MethodName)) ∈ gtb := gtb_in (tin7 (List.mem_of_getElem? (i := 211) rfl)) rfl
theorem q1767 : (Cond.code ({ cls := "BlessLoanModel", name := "isCompared", desc := "()Z" } : MethodName) prog_14_method_52_code (2 : Nat) (Option.some FieldType.boolean)) ∈ gtb := gtb_in (tin7 (List.mem_of_getElem? (i := 212) rfl)) rfl
theorem q1768 : (Cond.constantLong "BlessLoanModel" (290 : Nat) (20 : Int64)) ∈ gtb := gtb_in (tin7 (List.mem_of_getElem? (i := 213) rfl)) rfl
theorem q1769 : (Cond.constantLong "BlessLoanModel" (292 : Nat) (25 : Int64)) ∈ gtb := gtb_in (tin7 (List.mem_of_getElem? (i := 214) rfl)) rfl
theorem q1770 : (Cond.constantLong "BlessLoanModel" (294 : Nat) (27 : Int64)) ∈ gtb := gtb_in (tin7 (List.mem_of_getElem? (i := 215) rfl)) rfl
theorem q1771 : (Cond.methodLink "BlessLoanModel" (363 : Nat) ({ cls := "BlessLoanModel", name := "behindTest", desc := "()I" } : MethodName)) ∈ gtb := gtb_in (tin7 (List.mem_of_getElem? (i := 216) rfl)) rfl
theorem q1773 : (Cond.instanceMethod ({ cls := "BlessLoanModel", name := "behindTest", desc := "()I" } : MethodName)) ∈ gtb := gtb_in (tin7 (List.mem_of_getElem? (i := 218) rfl)) rfl
theorem q1774 : (Cond.code ({ cls := "BlessLoanModel", name := "behindTest", desc := "()I" } : MethodName) prog_14_method_60_code (2 : Nat) (Option.some FieldType.int)) ∈ gtb := gtb_in (tin7 (List.mem_of_getElem? (i := 219) rfl)) rfl
theorem q1775 : (Cond.constantLong "BlessLoanModel" (352 : Nat) (1476 : Int64)) ∈ gtb := gtb_in (tin7 (List.mem_of_getElem? (i := 220) rfl)) rfl
theorem q1776 : (Cond.constantLong "BlessLoanModel" (354 : Nat) (498 : Int64)) ∈ gtb := gtb_in (tin7 (List.mem_of_getElem? (i := 221) rfl)) rfl
theorem q1777 : (Cond.constantLong "BlessLoanModel" (375 : Nat) (294 : Int64)) ∈ gtb := gtb_in (tin7 (List.mem_of_getElem? (i := 222) rfl)) rfl
theorem q1778 : (Cond.methodLink "BlessLoanModel" (383 : Nat) ({ cls := "BlessLoanModel", name := "endText", desc := "()V" } : MethodName)) ∈ gtb := gtb_in (tin7 (List.mem_of_getElem? (i := 223) rfl)) rfl
theorem q1780 : (Cond.instanceMethod ({ cls := "BlessLoanModel", name := "endText", desc := "()V" } : MethodName)) ∈ gtb := gtb_in (tin7 (List.mem_of_getElem? (i := 225) rfl)) rfl
theorem q1781 : (Cond.code ({ cls := "BlessLoanModel", name := "endText", desc := "()V" } : MethodName) prog_14_method_63_code (1 : Nat) (Option.none : Option FieldType)) ∈ gtb := gtb_in (tin7 (List.mem_of_getElem? (i := 226) rfl)) rfl
theorem q1782 : (Cond.methodLink "BlessLoanLaw" (90 : Nat) ({ cls := "BlessLoanModel", name := "force", desc := "(I)I" } : MethodName)) ∈ gtb := gtb_in (tin7 (List.mem_of_getElem? (i := 227) rfl)) rfl
theorem q1783 : (Cond.instanceMethod ({ cls := "BlessLoanModel", name := "force", desc := "(I)I" } : MethodName)) ∈ gtb := gtb_in (tin7 (List.mem_of_getElem? (i := 228) rfl)) rfl
theorem q1784 : (Cond.selects "BlessLoanModel" ({ cls := "BlessLoanModel", name := "force", desc := "(I)I" } : MethodName) ({ cls := "BlessLoanModel", name := "force", desc := "(I)I" } : MethodName)) ∈ gtb := gtb_in (tin7 (List.mem_of_getElem? (i := 229) rfl)) rfl
theorem q1785 : (Cond.code ({ cls := "BlessLoanModel", name := "force", desc := "(I)I" } : MethodName) prog_14_method_67_code (2 : Nat) (Option.some FieldType.int)) ∈ gtb := gtb_in (tin7 (List.mem_of_getElem? (i := 230) rfl)) rfl
theorem q1786 : (Cond.methodLink "BlessLoanModel" (386 : Nat) ({ cls := "BlessLoanModel", name := "isLaw", desc := "(I)Z" } : MethodName)) ∈ gtb := gtb_in (tin7 (List.mem_of_getElem? (i := 231) rfl)) rfl
theorem q1788 : (Cond.instanceMethod ({ cls := "BlessLoanModel", name := "isLaw", desc := "(I)Z" } : MethodName)) ∈ gtb := gtb_in (tin7 (List.mem_of_getElem? (i := 233) rfl)) rfl
theorem q1789 : (Cond.code ({ cls := "BlessLoanModel", name := "isLaw", desc := "(I)Z" } : MethodName) prog_14_method_66_code (2 : Nat) (Option.some FieldType.boolean)) ∈ gtb := gtb_in (tin7 (List.mem_of_getElem? (i := 234) rfl)) rfl
theorem q1790 : (Cond.methodLink "BlessLoanLaw" (94 : Nat) ({ cls := "BlessLoanModel", name := "asks", desc := "(III)I" } : MethodName)) ∈ gtb := gtb_in (tin7 (List.mem_of_getElem? (i := 235) rfl)) rfl
theorem q1791 : (Cond.instanceMethod ({ cls := "BlessLoanModel", name := "asks", desc := "(III)I" } : MethodName)) ∈ gtb := gtb_in (tin7 (List.mem_of_getElem? (i := 236) rfl)) rfl
theorem q1792 : (Cond.selects "BlessLoanModel" ({ cls := "BlessLoanModel", name := "asks", desc := "(III)I" } : MethodName) ({ cls := "BlessLoanModel", name := "asks", desc := "(III)I" } : MethodName)) ∈ gtb := gtb_in (tin7 (List.mem_of_getElem? (i := 237) rfl)) rfl
theorem q1793 : (Cond.code ({ cls := "BlessLoanModel", name := "asks", desc := "(III)I" } : MethodName) prog_14_method_76_code (4 : Nat) (Option.some FieldType.int)) ∈ gtb := gtb_in (tin7 (List.mem_of_getElem? (i := 238) rfl)) rfl
theorem q1794 : (Cond.methodLink "BlessLoanModel" (428 : Nat) ({ cls := "BlessLoanModel", name := "loanOf", desc := "(II)I" } : MethodName)) ∈ gtb := gtb_in (tin7 (List.mem_of_getElem? (i := 239) rfl)) rfl
theorem q1796 : (Cond.instanceMethod ({ cls := "BlessLoanModel", name := "loanOf", desc := "(II)I" } : MethodName)) ∈ gtb := gtb_in (tin8 (List.mem_of_getElem? (i := 1) rfl)) rfl
theorem q1797 : (Cond.code ({ cls := "BlessLoanModel", name := "loanOf", desc := "(II)I" } : MethodName) prog_14_method_74_code (3 : Nat) (Option.some FieldType.int)) ∈ gtb := gtb_in (tin8 (List.mem_of_getElem? (i := 2) rfl)) rfl
theorem q1798 : (Cond.constantLong "BlessLoanModel" (426 : Nat) (2 : Int64)) ∈ gtb := gtb_in (tin8 (List.mem_of_getElem? (i := 3) rfl)) rfl
theorem q1799 : (Cond.methodLink "BlessLoanLaw" (98 : Nat) ({ cls := "BlessLoanModel", name := "step", desc := "(II)I" } : MethodName)) ∈ gtb := gtb_in (tin8 (List.mem_of_getElem? (i := 4) rfl)) rfl
theorem q1800 : (Cond.instanceMethod ({ cls := "BlessLoanModel", name := "step", desc := "(II)I" } : MethodName)) ∈ gtb := gtb_in (tin8 (List.mem_of_getElem? (i := 5) rfl)) rfl
theorem q1801 : (Cond.selects "BlessLoanModel" ({ cls := "BlessLoanModel", name := "step", desc := "(II)I" } : MethodName) ({ cls := "BlessLoanModel", name := "step", desc := "(II)I" } : MethodName)) ∈ gtb := gtb_in (tin8 (List.mem_of_getElem? (i := 6) rfl)) rfl
theorem q1802 : (Cond.code ({ cls := "BlessLoanModel", name := "step", desc := "(II)I" } : MethodName) prog_14_method_80_code (3 : Nat) (Option.some FieldType.int)) ∈ gtb := gtb_in (tin8 (List.mem_of_getElem? (i := 7) rfl)) rfl
theorem q1803 : (Cond.methodLink "BlessLoanModel" (441 : Nat) ({ cls := "BlessLoanModel", name := "stepNow", desc := "(II)I" } : MethodName)) ∈ gtb := gtb_in (tin8 (List.mem_of_getElem? (i := 8) rfl)) rfl
theorem q1805 : (Cond.instanceMethod ({ cls := "BlessLoanModel", name := "stepNow", desc := "(II)I" } : MethodName)) ∈ gtb := gtb_in (tin8 (List.mem_of_getElem? (i := 10) rfl)) rfl
theorem q1806 : (Cond.code ({ cls := "BlessLoanModel", name := "stepNow", desc := "(II)I" } : MethodName) prog_14_method_79_code (4 : Nat) (Option.some FieldType.int)) ∈ gtb := gtb_in (tin8 (List.mem_of_getElem? (i := 11) rfl)) rfl
theorem q1807 : (Cond.methodLink "BlessLoanModel" (438 : Nat) ({ cls := "BlessLoanModel", name := "remember", desc := "(I)V" } : MethodName)) ∈ gtb := gtb_in (tin8 (List.mem_of_getElem? (i := 12) rfl)) rfl
theorem q1809 : (Cond.instanceMethod ({ cls := "BlessLoanModel", name := "remember", desc := "(I)V" } : MethodName)) ∈ gtb := gtb_in (tin8 (List.mem_of_getElem? (i := 14) rfl)) rfl
theorem q1810 : (Cond.code ({ cls := "BlessLoanModel", name := "remember", desc := "(I)V" } : MethodName) prog_14_method_11_code (3 : Nat) (Option.none : Option FieldType)) ∈ gtb := gtb_in (tin8 (List.mem_of_getElem? (i := 15) rfl)) rfl
theorem q1811 : (Cond.methodLink "BlessLoanModel" (162 : Nat) ({ cls := "BlessLoanModel", name := "keepAll", desc := "(I)V" } : MethodName)) ∈ gtb := gtb_in (tin8 (List.mem_of_getElem? (i := 16) rfl)) rfl
theorem q1813 : (Cond.instanceMethod ({ cls := "BlessLoanModel", name := "keepAll", desc := "(I)V" } : MethodName)) ∈ gtb := gtb_in (tin8 (List.mem_of_getElem? (i := 18) rfl)) rfl
theorem q1814 : (Cond.code ({ cls := "BlessLoanModel", name := "keepAll", desc := "(I)V" } : MethodName) prog_14_method_9_code (3 : Nat) (Option.none : Option FieldType)) ∈ gtb := gtb_in (tin8 (List.mem_of_getElem? (i := 19) rfl)) rfl
theorem q1815 : (Cond.methodLink "BlessLoanLaw" (102 : Nat) ({ cls := "BlessLoanModel", name := "sneeze", desc := "(I)I" } : MethodName)) ∈ gtb := gtb_in (tin8 (List.mem_of_getElem? (i := 20) rfl)) rfl
theorem q1816 : (Cond.instanceMethod ({ cls := "BlessLoanModel", name := "sneeze", desc := "(I)I" } : MethodName)) ∈ gtb := gtb_in (tin8 (List.mem_of_getElem? (i := 21) rfl)) rfl
theorem q1817 : (Cond.selects "BlessLoanModel" ({ cls := "BlessLoanModel", name := "sneeze", desc := "(I)I" } : MethodName) ({ cls := "BlessLoanModel", name := "sneeze", desc := "(I)I" } : MethodName)) ∈ gtb := gtb_in (tin8 (List.mem_of_getElem? (i := 22) rfl)) rfl
theorem q1818 : (Cond.code ({ cls := "BlessLoanModel", name := "sneeze", desc := "(I)I" } : MethodName) prog_14_method_83_code (2 : Nat) (Option.some FieldType.int)) ∈ gtb := gtb_in (tin8 (List.mem_of_getElem? (i := 23) rfl)) rfl
theorem q1819 : (Cond.methodLink "BlessLoanModel" (447 : Nat) ({ cls := "BlessLoanModel", name := "sneezeNow", desc := "(I)I" } : MethodName)) ∈ gtb := gtb_in (tin8 (List.mem_of_getElem? (i := 24) rfl)) rfl
theorem q1821 : (Cond.instanceMethod ({ cls := "BlessLoanModel", name := "sneezeNow", desc := "(I)I" } : MethodName)) ∈ gtb := gtb_in (tin8 (List.mem_of_getElem? (i := 26) rfl)) rfl
theorem q1822 : (Cond.code ({ cls := "BlessLoanModel", name := "sneezeNow", desc := "(I)I" } : MethodName) prog_14_method_82_code (2 : Nat) (Option.some FieldType.int)) ∈ gtb := gtb_in (tin8 (List.mem_of_getElem? (i := 27) rfl)) rfl
theorem q1823 : (Cond.methodLink "BlessLoanModel" (444 : Nat) ({ cls := "BlessLoanModel", name := "sneezeIt", desc := "(I)I" } : MethodName)) ∈ gtb := gtb_in (tin8 (List.mem_of_getElem? (i := 28) rfl)) rfl
theorem q1825 : (Cond.instanceMethod ({ cls := "BlessLoanModel", name := "sneezeIt", desc := "(I)I" } : MethodName)) ∈ gtb := gtb_in (tin8 (List.mem_of_getElem? (i := 30) rfl)) rfl
theorem q1826 : (Cond.code ({ cls := "BlessLoanModel", name := "sneezeIt", desc := "(I)I" } : MethodName) prog_14_method_81_code (3 : Nat) (Option.some FieldType.int)) ∈ gtb := gtb_in (tin8 (List.mem_of_getElem? (i := 31) rfl)) rfl
theorem q1827 : (Cond.methodLink "BlessLoanLaw" (106 : Nat) ({ cls := "BlessLoanModel", name := "forgive", desc := "(II)I" } : MethodName)) ∈ gtb := gtb_in (tin8 (List.mem_of_getElem? (i := 32) rfl)) rfl
theorem q1828 : (Cond.instanceMethod ({ cls := "BlessLoanModel", name := "forgive", desc := "(II)I" } : MethodName)) ∈ gtb := gtb_in (tin8 (List.mem_of_getElem? (i := 33) rfl)) rfl
theorem q1829 : (Cond.selects "BlessLoanModel" ({ cls := "BlessLoanModel", name := "forgive", desc := "(II)I" } : MethodName) ({ cls := "BlessLoanModel", name := "forgive", desc := "(II)I" } : MethodName)) ∈ gtb := gtb_in (tin8 (List.mem_of_getElem? (i := 34) rfl)) rfl
theorem q1830 : (Cond.code ({ cls := "BlessLoanModel", name := "forgive", desc := "(II)I" } : MethodName) prog_14_method_85_code (3 : Nat) (Option.some FieldType.int)) ∈ gtb := gtb_in (tin8 (List.mem_of_getElem? (i := 35) rfl)) rfl
theorem q1831 : (Cond.methodLink "BlessLoanModel" (450 : Nat) ({ cls := "BlessLoanModel", name := "forgiveNow", desc := "(II)I" } : MethodName)) ∈ gtb := gtb_in (tin8 (List.mem_of_getElem? (i := 36) rfl)) rfl
theorem q1833 : (Cond.instanceMethod ({ cls := "BlessLoanModel", name := "forgiveNow", desc := "(II)I" } : MethodName)) ∈ gtb := gtb_in (tin8 (List.mem_of_getElem? (i := 38) rfl)) rfl
theorem q1834 : (Cond.code ({ cls := "BlessLoanModel", name := "forgiveNow", desc := "(II)I" } : MethodName) prog_14_method_84_code (4 : Nat) (Option.some FieldType.int)) ∈ gtb := gtb_in (tin8 (List.mem_of_getElem? (i := 39) rfl)) rfl
theorem q1835 : (Cond.methodLink "BlessLoanLaw" (122 : Nat) ({ cls := "BlessLoanModel", name := "ring", desc := "(I)I" } : MethodName)) ∈ gtb := gtb_in (tin8 (List.mem_of_getElem? (i := 40) rfl)) rfl
theorem q1836 : (Cond.instanceMethod ({ cls := "BlessLoanModel", name := "ring", desc := "(I)I" } : MethodName)) ∈ gtb := gtb_in (tin8 (List.mem_of_getElem? (i := 41) rfl)) rfl
theorem q1837 : (Cond.selects "BlessLoanModel" ({ cls := "BlessLoanModel", name := "ring", desc := "(I)I" } : MethodName) ({ cls := "BlessLoanModel", name := "ring", desc := "(I)I" } : MethodName)) ∈ gtb := gtb_in (tin8 (List.mem_of_getElem? (i := 42) rfl)) rfl
theorem q1838 : (Cond.code ({ cls := "BlessLoanModel", name := "ring", desc := "(I)I" } : MethodName) prog_14_method_89_code (2 : Nat) (Option.some FieldType.int)) ∈ gtb := gtb_in (tin8 (List.mem_of_getElem? (i := 43) rfl)) rfl
theorem q1839 : (Cond.methodLink "BlessLoanModel" (462 : Nat) ({ cls := "BlessLoanModel", name := "layRing", desc := "()Z" } : MethodName)) ∈ gtb := gtb_in (tin8 (List.mem_of_getElem? (i := 44) rfl)) rfl
theorem q1841 : (Cond.instanceMethod ({ cls := "BlessLoanModel", name := "layRing", desc := "()Z" } : MethodName)) ∈ gtb := gtb_in (tin8 (List.mem_of_getElem? (i := 46) rfl)) rfl
theorem q1842 : (Cond.code ({ cls := "BlessLoanModel", name := "layRing", desc := "()Z" } : MethodName) prog_14_method_88_code (2 : Nat) (Option.some FieldType.boolean)) ∈ gtb := gtb_in (tin8 (List.mem_of_getElem? (i := 47) rfl)) rfl
theorem q1843 : (Cond.methodLink "BlessLoanModel" (459 : Nat) ({ cls := "BlessLoanModel", name := "findRing", desc := "(II)Z" } : MethodName)) ∈ gtb := gtb_in (tin8 (List.mem_of_getElem? (i := 48) rfl)) rfl
theorem q1845 : (Cond.instanceMethod ({ cls := "BlessLoanModel", name := "findRing", desc := "(II)Z" } : MethodName)) ∈ gtb := gtb_in (tin8 (List.mem_of_getElem? (i := 50) rfl)) rfl
theorem q1846 : (Cond.code ({ cls := "BlessLoanModel", name := "findRing", desc := "(II)Z" } : MethodName) prog_14_method_87_code (4 : Nat) (Option.some FieldType.boolean)) ∈ gtb := gtb_in (tin8 (List.mem_of_getElem? (i := 51) rfl)) rfl
theorem q1847 : (Cond.methodLink "BlessLoanModel" (453 : Nat) ({ cls := "BlessLoanModel", name := "isFresh", desc := "(I)Z" } : MethodName)) ∈ gtb := gtb_in (tin8 (List.mem_of_getElem? (i := 52) rfl)) rfl
theorem q1849 : (Cond.instanceMethod ({ cls := "BlessLoanModel", name := "isFresh", desc := "(I)Z" } : MethodName)) ∈ gtb := gtb_in (tin8 (List.mem_of_getElem? (i := 54) rfl)) rfl
theorem q1850 : (Cond.code ({ cls := "BlessLoanModel", name := "isFresh", desc := "(I)Z" } : MethodName) prog_14_method_86_code (4 : Nat) (Option.some FieldType.boolean)) ∈ gtb := gtb_in (tin8 (List.mem_of_getElem? (i := 55) rfl)) rfl
theorem q1851 : (Cond.methodLink "BlessLoanLaw" (110 : Nat) ({ cls := "BlessLoanModel", name := "clear", desc := "()I" } : MethodName)) ∈ gtb := gtb_in (tin8 (List.mem_of_getElem? (i := 56) rfl)) rfl
theorem q1852 : (Cond.instanceMethod ({ cls := "BlessLoanModel", name := "clear", desc := "()I" } : MethodName)) ∈ gtb := gtb_in (tin8 (List.mem_of_getElem? (i := 57) rfl)) rfl
theorem q1853 : (Cond.selects "BlessLoanModel" ({ cls := "BlessLoanModel", name := "clear", desc := "()I" } : MethodName) ({ cls := "BlessLoanModel", name := "clear", desc := "()I" } : MethodName)) ∈ gtb := gtb_in (tin8 (List.mem_of_getElem? (i := 58) rfl)) rfl
theorem q1854 : (Cond.code ({ cls := "BlessLoanModel", name := "clear", desc := "()I" } : MethodName) prog_14_method_91_code (1 : Nat) (Option.some FieldType.int)) ∈ gtb := gtb_in (tin8 (List.mem_of_getElem? (i := 59) rfl)) rfl
theorem q1855 : (Cond.methodLink "BlessLoanModel" (466 : Nat) ({ cls := "BlessLoanModel", name := "clearNow", desc := "()I" } : MethodName)) ∈ gtb := gtb_in (tin8 (List.mem_of_getElem? (i := 60) rfl)) rfl
theorem q1857 : (Cond.instanceMethod ({ cls := "BlessLoanModel", name := "clearNow", desc := "()I" } : MethodName)) ∈ gtb := gtb_in (tin8 (List.mem_of_getElem? (i := 62) rfl)) rfl
theorem q1858 : (Cond.code ({ cls := "BlessLoanModel", name := "clearNow", desc := "()I" } : MethodName) prog_14_method_90_code (4 : Nat) (Option.some FieldType.int)) ∈ gtb := gtb_in (tin8 (List.mem_of_getElem? (i := 63) rfl)) rfl
theorem q1859 : (Cond.constant "BlessLoanModel" (465 : Nat) (100000000 : Int32)) ∈ gtb := gtb_in (tin8 (List.mem_of_getElem? (i := 64) rfl)) rfl
theorem q1860 : (Cond.methodLink "BlessLoanLaw" (114 : Nat) ({ cls := "BlessLoanModel", name := "pass", desc := "()I" } : MethodName)) ∈ gtb := gtb_in (tin8 (List.mem_of_getElem? (i := 65) rfl)) rfl
theorem q1861 : (Cond.instanceMethod ({ cls := "BlessLoanModel", name := "pass", desc := "()I" } : MethodName)) ∈ gtb := gtb_in (tin8 (List.mem_of_getElem? (i := 66) rfl)) rfl
theorem q1862 : (Cond.selects "BlessLoanModel" ({ cls := "BlessLoanModel", name := "pass", desc := "()I" } : MethodName) ({ cls := "BlessLoanModel", name := "pass", desc := "()I" } : MethodName)) ∈ gtb := gtb_in (tin8 (List.mem_of_getElem? (i := 67) rfl)) rfl
theorem q1863 : (Cond.code ({ cls := "BlessLoanModel", name := "pass", desc := "()I" } : MethodName) prog_14_method_93_code (1 : Nat) (Option.some FieldType.int)) ∈ gtb := gtb_in (tin8 (List.mem_of_getElem? (i := 68) rfl)) rfl
theorem q1864 : (Cond.methodLink "BlessLoanModel" (469 : Nat) ({ cls := "BlessLoanModel", name := "passNow", desc := "()I" } : MethodName)) ∈ gtb := gtb_in (tin8 (List.mem_of_getElem? (i := 69) rfl)) rfl
theorem q1866 : (Cond.instanceMethod ({ cls := "BlessLoanModel", name := "passNow", desc := "()I" } : MethodName)) ∈ gtb := gtb_in (tin8 (List.mem_of_getElem? (i := 71) rfl)) rfl
theorem q1867 : (Cond.code ({ cls := "BlessLoanModel", name := "passNow", desc := "()I" } : MethodName) prog_14_method_92_code (1 : Nat) (Option.some FieldType.int)) ∈ gtb := gtb_in (tin8 (List.mem_of_getElem? (i := 72) rfl)) rfl
theorem q1868 : (Cond.methodLink "BlessLoanLaw" (126 : Nat) ({ cls := "BlessLoanModel", name := "gain", desc := "(II)I" } : MethodName)) ∈ gtb := gtb_in (tin8 (List.mem_of_getElem? (i := 73) rfl)) rfl
theorem q1869 : (Cond.instanceMethod ({ cls := "BlessLoanModel", name := "gain", desc := "(II)I" } : MethodName)) ∈ gtb := gtb_in (tin8 (List.mem_of_getElem? (i := 74) rfl)) rfl
theorem q1870 : (Cond.selects "BlessLoanModel" ({ cls := "BlessLoanModel", name := "gain", desc := "(II)I" } : MethodName) ({ cls := "BlessLoanModel", name := "gain", desc := "(II)I" } : MethodName)) ∈ gtb := gtb_in (tin8 (List.mem_of_getElem? (i := 75) rfl)) rfl
theorem q1871 : (Cond.code ({ cls := "BlessLoanModel", name := "gain", desc := "(II)I" } : MethodName) prog_14_method_96_code (3 : Nat) (Option.some FieldType.int)) ∈ gtb := gtb_in (tin8 (List.mem_of_getElem? (i := 76) rfl)) rfl
theorem q1872 : (Cond.methodLink "BlessLoanModel" (475 : Nat) ({ cls := "BlessLoanModel", name := "gainAt", desc := "(II)I" } : MethodName)) ∈ gtb := gtb_in (tin8 (List.mem_of_getElem? (i := 77) rfl)) rfl
theorem q1874 : (Cond.instanceMethod ({ cls := "BlessLoanModel", name := "gainAt", desc := "(II)I" } : MethodName)) ∈ gtb := gtb_in (tin8 (List.mem_of_getElem? (i := 79) rfl)) rfl
theorem q1875 : (Cond.code ({ cls := "BlessLoanModel", name := "gainAt", desc := "(II)I" } : MethodName) prog_14_method_95_code (5 : Nat) (Option.some FieldType.int)) ∈ gtb := gtb_in (tin8 (List.mem_of_getElem? (i := 80) rfl)) rfl
theorem q1876 : (Cond.methodLink "BlessLoanModel" (472 : Nat) ({ cls := "BlessLoanModel", name := "gainOf", desc := "(I)I" } : MethodName)) ∈ gtb := gtb_in (tin8 (List.mem_of_getElem? (i := 81) rfl)) rfl
theorem q1878 : (Cond.instanceMethod ({ cls := "BlessLoanModel", name := "gainOf", desc := "(I)I" } : MethodName)) ∈ gtb := gtb_in (tin8 (List.mem_of_getElem? (i := 83) rfl)) rfl
theorem q1879 : (Cond.code ({ cls := "BlessLoanModel", name := "gainOf", desc := "(I)I" } : MethodName) prog_14_method_94_code (4 : Nat) (Option.some FieldType.int)) ∈ gtb := gtb_in (tin8 (List.mem_of_getElem? (i := 84) rfl)) rfl
theorem q1880 : (Cond.methodLink "BlessLoanLaw" (130 : Nat) ({ cls := "BlessLoanModel", name := "stand", desc := "(II)I" } : MethodName)) ∈ gtb := gtb_in (tin8 (List.mem_of_getElem? (i := 85) rfl)) rfl
theorem q1881 : (Cond.instanceMethod ({ cls := "BlessLoanModel", name := "stand", desc := "(II)I" } : MethodName)) ∈ gtb := gtb_in (tin8 (List.mem_of_getElem? (i := 86) rfl)) rfl
theorem q1882 : (Cond.selects "BlessLoanModel" ({ cls := "BlessLoanModel", name := "stand", desc := "(II)I" } : MethodName) ({ cls := "BlessLoanModel", name := "stand", desc := "(II)I" } : MethodName)) ∈ gtb := gtb_in (tin8 (List.mem_of_getElem? (i := 87) rfl)) rfl
theorem q1883 : (Cond.code ({ cls := "BlessLoanModel", name := "stand", desc := "(II)I" } : MethodName) prog_14_method_98_code (4 : Nat) (Option.some FieldType.int)) ∈ gtb := gtb_in (tin8 (List.mem_of_getElem? (i := 88) rfl)) rfl
theorem q1884 : (Cond.methodLink "BlessLoanModel" (481 : Nat) ({ cls := "BlessLoanModel", name := "standOf", desc := "(I)I" } : MethodName)) ∈ gtb := gtb_in (tin8 (List.mem_of_getElem? (i := 89) rfl)) rfl
theorem q1886 : (Cond.instanceMethod ({ cls := "BlessLoanModel", name := "standOf", desc := "(I)I" } : MethodName)) ∈ gtb := gtb_in (tin8 (List.mem_of_getElem? (i := 91) rfl)) rfl
theorem q1887 : (Cond.code ({ cls := "BlessLoanModel", name := "standOf", desc := "(I)I" } : MethodName) prog_14_method_97_code (5 : Nat) (Option.some FieldType.int)) ∈ gtb := gtb_in (tin8 (List.mem_of_getElem? (i := 92) rfl)) rfl
theorem q1888 : (Cond.methodLink "BlessLoanLaw" (134 : Nat) ({ cls := "BlessLoanModel", name := "rests", desc := "(I)I" } : MethodName)) ∈ gtb := gtb_in (tin8 (List.mem_of_getElem? (i := 93) rfl)) rfl
theorem q1889 : (Cond.instanceMethod ({ cls := "BlessLoanModel", name := "rests", desc := "(I)I" } : MethodName)) ∈ gtb := gtb_in (tin8 (List.mem_of_getElem? (i := 94) rfl)) rfl
theorem q1890 : (Cond.selects "BlessLoanModel" ({ cls := "BlessLoanModel", name := "rests", desc := "(I)I" } : MethodName) ({ cls := "BlessLoanModel", name := "rests", desc := "(I)I" } : MethodName)) ∈ gtb := gtb_in (tin8 (List.mem_of_getElem? (i := 95) rfl)) rfl
theorem q1891 : (Cond.code ({ cls := "BlessLoanModel", name := "rests", desc := "(I)I" } : MethodName) prog_14_method_99_code (7 : Nat) (Option.some FieldType.int)) ∈ gtb := gtb_in (tin8 (List.mem_of_getElem? (i := 96) rfl)) rfl
theorem q1892 : (Cond.methodLink "BlessLoanLaw" (142 : Nat) ({ cls := "BlessLoanModel", name := "masks", desc := "(I)I" } : MethodName)) ∈ gtb := gtb_in (tin8 (List.mem_of_getElem? (i := 97) rfl)) rfl
theorem q1893 : (Cond.instanceMethod ({ cls := "BlessLoanModel", name := "masks", desc := "(I)I" } : MethodName)) ∈ gtb := gtb_in (tin8 (List.mem_of_getElem? (i := 98) rfl)) rfl
theorem q1894 : (Cond.selects "BlessLoanModel" ({ cls := "BlessLoanModel", name := "masks", desc := "(I)I" } : MethodName) ({ cls := "BlessLoanModel", name := "masks", desc := "(I)I" } : MethodName)) ∈ gtb := gtb_in (tin8 (List.mem_of_getElem? (i := 99) rfl)) rfl
theorem q1895 : (Cond.code ({ cls := "BlessLoanModel", name := "masks", desc := "(I)I" } : MethodName) prog_14_method_101_code (8 : Nat) (Option.some FieldType.int)) ∈ gtb := gtb_in (tin8 (List.mem_of_getElem? (i := 100) rfl)) rfl
theorem q1896 : (Cond.methodLink "BlessLoanModel" (484 : Nat) ({ cls := "BlessLoanModel", name := "ones", desc := "(I)I" } : MethodName)) ∈ gtb := gtb_in (tin8 (List.mem_of_getElem? (i := 101) rfl)) rfl
theorem q1897 : (Cond.static ({ cls := "BlessLoanModel", name := "ones", desc := "(I)I" } : MethodName)) ∈ gtb := gtb_in (tin8 (List.mem_of_getElem? (i := 102) rfl)) rfl
theorem q1898 : (Cond.code ({ cls := "BlessLoanModel", name := "ones", desc := "(I)I" } : MethodName) prog_14_method_5_code (3 : Nat) (Option.some FieldType.int)) ∈ gtb := gtb_in (tin8 (List.mem_of_getElem? (i := 103) rfl)) rfl
theorem q1899 : (Cond.methodLink "BlessLoanModel" (487 : Nat) ({ cls := "BlessLoanModel", name := "is", desc := "(II)Z" } : MethodName)) ∈ gtb := gtb_in (tin8 (List.mem_of_getElem? (i := 104) rfl)) rfl
theorem q1900 : (Cond.static ({ cls := "BlessLoanModel", name := "is", desc := "(II)Z" } : MethodName)) ∈ gtb := gtb_in (tin8 (List.mem_of_getElem? (i := 105) rfl)) rfl
theorem q1901 : (Cond.code ({ cls := "BlessLoanModel", name := "is", desc := "(II)Z" } : MethodName) prog_14_method_4_code (2 : Nat) (Option.some FieldType.boolean)) ∈ gtb := gtb_in (tin8 (List.mem_of_getElem? (i := 106) rfl)) rfl
theorem q1902 : (Cond.methodLink "BlessLoanModel" (490 : Nat) ({ cls := "BlessLoanModel", name := "gainsOfAll", desc := "()I" } : MethodName)) ∈ gtb := gtb_in (tin8 (List.mem_of_getElem? (i := 107) rfl)) rfl
theorem q1904 : (Cond.instanceMethod ({ cls := "BlessLoanModel", name := "gainsOfAll", desc := "()I" } : MethodName)) ∈ gtb := gtb_in (tin8 (List.mem_of_getElem? (i := 109) rfl)) rfl
theorem q1905 : (Cond.code ({ cls := "BlessLoanModel", name := "gainsOfAll", desc := "()I" } : MethodName) prog_14_method_100_code (3 : Nat) (Option.some FieldType.int)) ∈ gtb := gtb_in (tin8 (List.mem_of_getElem? (i := 110) rfl)) rfl
theorem q1906 : (Cond.methodLink "BlessLoanLaw" (167 : Nat) ({ cls := "BlessLoanModel", name := "compare", desc := "(I)I" } : MethodName)) ∈ gtb := gtb_in (tin8 (List.mem_of_getElem? (i := 111) rfl)) rfl
theorem q1907 : (Cond.instanceMethod ({ cls := "BlessLoanModel", name := "compare", desc := "(I)I" } : MethodName)) ∈ gtb := gtb_in (tin8 (List.mem_of_getElem? (i := 112) rfl)) rfl
theorem q1908 : (Cond.selects "BlessLoanModel" ({ cls := "BlessLoanModel", name := "compare", desc := "(I)I" } : MethodName) ({ cls := "BlessLoanModel", name := "compare", desc := "(I)I" } : MethodName)) ∈ gtb := gtb_in (tin8 (List.mem_of_getElem? (i := 113) rfl)) rfl
theorem q1909 : (Cond.code ({ cls := "BlessLoanModel", name := "compare", desc := "(I)I" } : MethodName) prog_14_method_102_code (4 : Nat) (Option.some FieldType.int)) ∈ gtb := gtb_in (tin8 (List.mem_of_getElem? (i := 114) rfl)) rfl
theorem q1910 : (Cond.methodLink "BlessLoanLaw" (138 : Nat) ({ cls := "BlessLoanModel", name := "round", desc := "(II)I" } : MethodName)) ∈ gtb := gtb_in (tin8 (List.mem_of_getElem? (i := 115) rfl)) rfl
theorem q1911 : (Cond.instanceMethod ({ cls := "BlessLoanModel", name := "round", desc := "(II)I" } : MethodName)) ∈ gtb := gtb_in (tin8 (List.mem_of_getElem? (i := 116) rfl)) rfl
theorem q1912 : (Cond.selects "BlessLoanModel" ({ cls := "BlessLoanModel", name := "round", desc := "(II)I" } : MethodName) ({ cls := "BlessLoanModel", name := "round", desc := "(II)I" } : MethodName)) ∈ gtb := gtb_in (tin8 (List.mem_of_getElem? (i := 117) rfl)) rfl
theorem q1913 : (Cond.code ({ cls := "BlessLoanModel", name := "round", desc := "(II)I" } : MethodName) prog_14_method_106_code (5 : Nat) (Option.some FieldType.int)) ∈ gtb := gtb_in (tin8 (List.mem_of_getElem? (i := 118) rfl)) rfl
theorem q1914 : (Cond.methodLink "BlessLoanModel" (499 : Nat) ({ cls := "BlessLoanModel", name := "findRound", desc := "(II)I" } : MethodName)) ∈ gtb := gtb_in (tin8 (List.mem_of_getElem? (i := 119) rfl)) rfl
theorem q1916 : (Cond.instanceMethod ({ cls := "BlessLoanModel", name := "findRound", desc := "(II)I" } : MethodName)) ∈ gtb := gtb_in (tin8 (List.mem_of_getElem? (i := 121) rfl)) rfl
theorem q1917 : (Cond.code ({ cls := "BlessLoanModel", name := "findRound", desc := "(II)I" } : MethodName) prog_14_method_105_code (7 : Nat) (Option.some FieldType.int)) ∈ gtb := gtb_in (tin8 (List.mem_of_getElem? (i := 122) rfl)) rfl
theorem q1918 : (Cond.methodLink "BlessLoanModel" (493 : Nat) ({ cls := "BlessLoanModel", name := "isNew", desc := "(I)Z" } : MethodName)) ∈ gtb := gtb_in (tin8 (List.mem_of_getElem? (i := 123) rfl)) rfl
theorem q1920 : (Cond.instanceMethod ({ cls := "BlessLoanModel", name := "isNew", desc := "(I)Z" } : MethodName)) ∈ gtb := gtb_in (tin8 (List.mem_of_getElem? (i := 125) rfl)) rfl
theorem q1921 : (Cond.code ({ cls := "BlessLoanModel", name := "isNew", desc := "(I)Z" } : MethodName) prog_14_method_104_code (4 : Nat) (Option.some FieldType.boolean)) ∈ gtb := gtb_in (tin8 (List.mem_of_getElem? (i := 126) rfl)) rfl
theorem q1922 : (Cond.methodLink "BlessLoanModel" (496 : Nat) ({ cls := "BlessLoanModel", name := "stepsOf", desc := "(II)I" } : MethodName)) ∈ gtb := gtb_in (tin8 (List.mem_of_getElem? (i := 127) rfl)) rfl
theorem q1924 : (Cond.instanceMethod ({ cls := "BlessLoanModel", name := "stepsOf", desc := "(II)I" } : MethodName)) ∈ gtb := gtb_in (tin8 (List.mem_of_getElem? (i := 129) rfl)) rfl
theorem q1925 : (Cond.code ({ cls := "BlessLoanModel", name := "stepsOf", desc := "(II)I" } : MethodName) prog_14_method_103_code (7 : Nat) (Option.some FieldType.int)) ∈ gtb := gtb_in (tin8 (List.mem_of_getElem? (i := 130) rfl)) rfl
theorem q1926 : (Cond.methodLink "BlessLoanLaw" (146 : Nat) ({ cls := "BlessLoanModel", name := "seen", desc := "(II)I" } : MethodName)) ∈ gtb := gtb_in (tin8 (List.mem_of_getElem? (i := 131) rfl)) rfl
theorem q1927 : (Cond.instanceMethod ({ cls := "BlessLoanModel", name := "seen", desc := "(II)I" } : MethodName)) ∈ gtb := gtb_in (tin8 (List.mem_of_getElem? (i := 132) rfl)) rfl
theorem q1928 : (Cond.selects "BlessLoanModel" ({ cls := "BlessLoanModel", name := "seen", desc := "(II)I" } : MethodName) ({ cls := "BlessLoanModel", name := "seen", desc := "(II)I" } : MethodName)) ∈ gtb := gtb_in (tin8 (List.mem_of_getElem? (i := 133) rfl)) rfl
theorem q1929 : (Cond.code ({ cls := "BlessLoanModel", name := "seen", desc := "(II)I" } : MethodName) prog_14_method_107_code (4 : Nat) (Option.some FieldType.int)) ∈ gtb := gtb_in (tin8 (List.mem_of_getElem? (i := 134) rfl)) rfl
theorem q1930 : (Cond.methodLink "BlessLoanLaw" (150 : Nat) ({ cls := "BlessLoanModel", name := "forget", desc := "()I" } : MethodName)) ∈ gtb := gtb_in (tin8 (List.mem_of_getElem? (i := 135) rfl)) rfl
theorem q1931 : (Cond.instanceMethod ({ cls := "BlessLoanModel", name := "forget", desc := "()I" } : MethodName)) ∈ gtb := gtb_in (tin8 (List.mem_of_getElem? (i := 136) rfl)) rfl
theorem q1932 : (Cond.selects "BlessLoanModel" ({ cls := "BlessLoanModel", name := "forget", desc := "()I" } : MethodName) ({ cls := "BlessLoanModel", name := "forget", desc := "()I" } : MethodName)) ∈ gtb := gtb_in (tin8 (List.mem_of_getElem? (i := 137) rfl)) rfl
theorem q1933 : (Cond.code ({ cls := "BlessLoanModel", name := "forget", desc := "()I" } : MethodName) prog_14_method_108_code (2 : Nat) (Option.some FieldType.int)) ∈ gtb := gtb_in (tin8 (List.mem_of_getElem? (i := 138) rfl)) rfl
theorem q1934 : (Cond.methodLink "BlessLoanLaw" (154 : Nat) ({ cls := "BlessLoanModel", name := "can", desc := "(I)I" } : MethodName)) ∈ gtb := gtb_in (tin8 (List.mem_of_getElem? (i := 139) rfl)) rfl
theorem q1935 : (Cond.instanceMethod ({ cls := "BlessLoanModel", name := "can", desc := "(I)I" } : MethodName)) ∈ gtb := gtb_in (tin8 (List.mem_of_getElem? (i := 140) rfl)) rfl
theorem q1936 : (Cond.selects "BlessLoanModel" ({ cls := "BlessLoanModel", name := "can", desc := "(I)I" } : MethodName) ({ cls := "BlessLoanModel", name := "can", desc := "(I)I" } : MethodName)) ∈ gtb := gtb_in (tin8 (List.mem_of_getElem? (i := 141) rfl)) rfl
theorem q1937 : (Cond.code ({ cls := "BlessLoanModel", name := "can", desc := "(I)I" } : MethodName) prog_14_method_111_code (2 : Nat) (Option.some FieldType.int)) ∈ gtb := gtb_in (tin8 (List.mem_of_getElem? (i := 142) rfl)) rfl
theorem q1938 : (Cond.methodLink "BlessLoanModel" (505 : Nat) ({ cls := "BlessLoanModel", name := "layCan", desc := "(I)I" } : MethodName)) ∈ gtb := gtb_in (tin8 (List.mem_of_getElem? (i := 143) rfl)) rfl
theorem q1940 : (Cond.instanceMethod ({ cls := "BlessLoanModel", name := "layCan", desc := "(I)I" } : MethodName)) ∈ gtb := gtb_in (tin8 (List.mem_of_getElem? (i := 145) rfl)) rfl
theorem q1941 : (Cond.code ({ cls := "BlessLoanModel", name := "layCan", desc := "(I)I" } : MethodName) prog_14_method_110_code (7 : Nat) (Option.some FieldType.int)) ∈ gtb := gtb_in (tin8 (List.mem_of_getElem? (i := 146) rfl)) rfl
theorem q1942 : (Cond.methodLink "BlessLoanModel" (502 : Nat) ({ cls := "BlessLoanModel", name := "isAsSeen", desc := "()Z" } : MethodName)) ∈ gtb := gtb_in (tin8 (List.mem_of_getElem? (i := 147) rfl)) rfl
theorem q1944 : (Cond.instanceMethod ({ cls := "BlessLoanModel", name := "isAsSeen", desc := "()Z" } : MethodName)) ∈ gtb := gtb_in (tin8 (List.mem_of_getElem? (i := 149) rfl)) rfl
theorem q1945 : (Cond.code ({ cls := "BlessLoanModel", name := "isAsSeen", desc := "()Z" } : MethodName) prog_14_method_109_code (3 : Nat) (Option.some FieldType.boolean)) ∈ gtb := gtb_in (tin8 (List.mem_of_getElem? (i := 150) rfl)) rfl
theorem q1946 : (Cond.methodLink "BlessLoanLaw" (158 : Nat) ({ cls := "BlessLoanModel", name := "listen", desc := "(II)I" } : MethodName)) ∈ gtb := gtb_in (tin8 (List.mem_of_getElem? (i := 151) rfl)) rfl
theorem q1947 : (Cond.instanceMethod ({ cls := "BlessLoanModel", name := "listen", desc := "(II)I" } : MethodName)) ∈ gtb := gtb_in (tin8 (List.mem_of_getElem? (i := 152) rfl)) rfl
theorem q1948 : (Cond.selects "BlessLoanModel" ({ cls := "BlessLoanModel", name := "listen", desc := "(II)I" } : MethodName) ({ cls := "BlessLoanModel", name := "listen", desc := "(II)I" } : MethodName)) ∈ gtb := gtb_in (tin8 (List.mem_of_getElem? (i := 153) rfl)) rfl
theorem q1949 : (Cond.code ({ cls := "BlessLoanModel", name := "listen", desc := "(II)I" } : MethodName) prog_14_method_112_code (9 : Nat) (Option.some FieldType.int)) ∈ gtb := gtb_in (tin8 (List.mem_of_getElem? (i := 154) rfl)) rfl
theorem q1950 : (Cond.methodLink "BlessLoanLaw" (163 : Nat) ({ cls := "BlessLoanModel", name := "often", desc := "(III)J" } : MethodName)) ∈ gtb := gtb_in (tin8 (List.mem_of_getElem? (i := 155) rfl)) rfl
theorem q1951 : (Cond.instanceMethod ({ cls := "BlessLoanModel", name := "often", desc := "(III)J" } : MethodName)) ∈ gtb := gtb_in (tin8 (List.mem_of_getElem? (i := 156) rfl)) rfl
theorem q1952 : (Cond.selects "BlessLoanModel" ({ cls := "BlessLoanModel", name := "often", desc := "(III)J" } : MethodName) ({ cls := "BlessLoanModel", name := "often", desc := "(III)J" } : MethodName)) ∈ gtb := gtb_in (tin8 (List.mem_of_getElem? (i := 157) rfl)) rfl
theorem q1953 : (Cond.code ({ cls := "BlessLoanModel", name := "often", desc := "(III)J" } : MethodName) prog_14_method_113_code (9 : Nat) (Option.some FieldType.long)) ∈ gtb := gtb_in (tin8 (List.mem_of_getElem? (i := 158) rfl)) rfl
theorem q1954 : (Cond.constantLong "BlessLoanModel" (508 : Nat) (60 : Int64)) ∈ gtb := gtb_in (tin8 (List.mem_of_getElem? (i := 159) rfl)) rfl
theorem q1955 : (Cond.constantLong "BlessLoanModel" (510 : Nat) (1000000000000 : Int64)) ∈ gtb := gtb_in (tin8 (List.mem_of_getElem? (i := 160) rfl)) rfl
theorem q1956 : (Cond.methodLink "BlessLoanLaw" (78 : Nat) ({ cls := "BlessLoanModel", name := "orders", desc := "()I" } : MethodName)) ∈ gtb := gtb_in (tin8 (List.mem_of_getElem? (i := 161) rfl)) rfl
theorem q1957 : (Cond.instanceMethod ({ cls := "BlessLoanModel", name := "orders", desc := "()I" } : MethodName)) ∈ gtb := gtb_in (tin8 (List.mem_of_getElem? (i := 162) rfl)) rfl
theorem q1958 : (Cond.selects "BlessLoanModel" ({ cls := "BlessLoanModel", name := "orders", desc := "()I" } : MethodName) ({ cls := "BlessLoanModel", name := "orders", desc := "()I" } : MethodName)) ∈ gtb := gtb_in (tin8 (List.mem_of_getElem? (i := 163) rfl)) rfl
theorem q1959 : (Cond.code ({ cls := "BlessLoanModel", name := "orders", desc := "()I" } : MethodName) prog_14_method_119_code (4 : Nat) (Option.some FieldType.int)) ∈ gtb := gtb_in (tin8 (List.mem_of_getElem? (i := 164) rfl)) rfl
theorem q1960 : (Cond.methodLink "BlessLoanModel" (537 : Nat) ({ cls := "BlessLoanModel", name := "readOrder", desc := "()V" } : MethodName)) ∈ gtb := gtb_in (tin8 (List.mem_of_getElem? (i := 165) rfl)) rfl
theorem q1962 : (Cond.instanceMethod ({ cls := "BlessLoanModel", name := "readOrder", desc := "()V" } : MethodName)) ∈ gtb := gtb_in (tin8 (List.mem_of_getElem? (i := 167) rfl)) rfl
theorem q1963 : (Cond.code ({ cls := "BlessLoanModel", name := "readOrder", desc := "()V" } : MethodName) prog_14_method_115_code (4 : Nat) (Option.none : Option FieldType)) ∈ gtb := gtb_in (tin8 (List.mem_of_getElem? (i := 168) rfl)) rfl
theorem q1964 : (Cond.methodLink "BlessLoanModel" (512 : Nat) ({ cls := "BlessLoanModel", name := "readSum", desc := "(I)V" } : MethodName)) ∈ gtb := gtb_in (tin8 (List.mem_of_getElem? (i := 169) rfl)) rfl
theorem q1966 : (Cond.instanceMethod ({ cls := "BlessLoanModel", name := "readSum", desc := "(I)V" } : MethodName)) ∈ gtb := gtb_in (tin8 (List.mem_of_getElem? (i := 171) rfl)) rfl
theorem q1967 : (Cond.code ({ cls := "BlessLoanModel", name := "readSum", desc := "(I)V" } : MethodName) prog_14_method_114_code (2 : Nat) (Option.none : Option FieldType)) ∈ gtb := gtb_in (tin8 (List.mem_of_getElem? (i := 172) rfl)) rfl
theorem q1968 : (Cond.constantLong "BlessLoanModel" (515 : Nat) (655 : Int64)) ∈ gtb := gtb_in (tin8 (List.mem_of_getElem? (i := 173) rfl)) rfl
theorem q1969 : (Cond.constantLong "BlessLoanModel" (517 : Nat) (89 : Int64)) ∈ gtb := gtb_in (tin8 (List.mem_of_getElem? (i := 174) rfl)) rfl
theorem q1970 : (Cond.constantLong "BlessLoanModel" (519 : Nat) (21279923 : Int64)) ∈ gtb := gtb_in (tin8 (List.mem_of_getElem? (i := 175) rfl)) rfl
theorem q1971 : (Cond.methodLink "BlessLoanModel" (540 : Nat) ({ cls := "BlessLoanModel", name := "run", desc := "(I)I" } : MethodName)) ∈ gtb := gtb_in (tin8 (List.mem_of_getElem? (i := 176) rfl)) rfl
theorem q1973 : (Cond.instanceMethod ({ cls := "BlessLoanModel", name := "run", desc := "(I)I" } : MethodName)) ∈ gtb := gtb_in (tin8 (List.mem_of_getElem? (i := 178) rfl)) rfl
theorem q1974 : (Cond.code ({ cls := "BlessLoanModel", name := "run", desc := "(I)I" } : MethodName) prog_14_method_118_code (5 : Nat) (Option.some FieldType.int)) ∈ gtb := gtb_in (tin8 (List.mem_of_getElem? (i := 179) rfl)) rfl
theorem q1975 : (Cond.methodLink "BlessLoanModel" (530 : Nat) ({ cls := "BlessLoanModel", name := "sumOf", desc := "(I)I" } : MethodName)) ∈ gtb := gtb_in (tin8 (List.mem_of_getElem? (i := 180) rfl)) rfl
theorem q1977 : (Cond.instanceMethod ({ cls := "BlessLoanModel", name := "sumOf", desc := "(I)I" } : MethodName)) ∈ gtb := gtb_in (tin8 (List.mem_of_getElem? (i := 182) rfl)) rfl
theorem q1978 : (Cond.code ({ cls := "BlessLoanModel", name := "sumOf", desc := "(I)I" } : MethodName) prog_14_method_116_code (2 : Nat) (Option.some FieldType.int)) ∈ gtb := gtb_in (tin8 (List.mem_of_getElem? (i := 183) rfl)) rfl
theorem q1979 : (Cond.methodLink "BlessLoanModel" (533 : Nat) ({ cls := "BlessLoanModel", name := "act", desc := "(III)I" } : MethodName)) ∈ gtb := gtb_in (tin8 (List.mem_of_getElem? (i := 184) rfl)) rfl
theorem q1981 : (Cond.instanceMethod ({ cls := "BlessLoanModel", name := "act", desc := "(III)I" } : MethodName)) ∈ gtb := gtb_in (tin8 (List.mem_of_getElem? (i := 186) rfl)) rfl
theorem q1982 : (Cond.code ({ cls := "BlessLoanModel", name := "act", desc := "(III)I" } : MethodName) prog_14_method_117_code (4 : Nat) (Option.some FieldType.int)) ∈ gtb := gtb_in (tin8 (List.mem_of_getElem? (i := 187) rfl)) rfl
theorem q1983 : (Cond.methodLink "BlessLoanModel" (543 : Nat) ({ cls := "BlessLoanModel", name := "giveBack", desc := "(I)V" } : MethodName)) ∈ gtb := gtb_in (tin8 (List.mem_of_getElem? (i := 188) rfl)) rfl
theorem q1985 : (Cond.instanceMethod ({ cls := "BlessLoanModel", name := "giveBack", desc := "(I)V" } : MethodName)) ∈ gtb := gtb_in (tin8 (List.mem_of_getElem? (i := 190) rfl)) rfl
theorem q1986 : (Cond.code ({ cls := "BlessLoanModel", name := "giveBack", desc := "(I)V" } : MethodName) prog_14_method_120_code (3 : Nat) (Option.none : Option FieldType)) ∈ gtb := gtb_in (tin8 (List.mem_of_getElem? (i := 191) rfl)) rfl
theorem q1987 : (Cond.methodLink "BlessLoanLaw" (86 : Nat) ({ cls := "BlessLoanModel", name := "stopped", desc := "()I" } : MethodName)) ∈ gtb := gtb_in (tin8 (List.mem_of_getElem? (i := 192) rfl)) rfl
theorem q1988 : (Cond.instanceMethod ({ cls := "BlessLoanModel", name := "stopped", desc := "()I" } : MethodName)) ∈ gtb := gtb_in (tin8 (List.mem_of_getElem? (i := 193) rfl)) rfl
theorem q1989 : (Cond.selects "BlessLoanModel" ({ cls := "BlessLoanModel", name := "stopped", desc := "()I" } : MethodName) ({ cls := "BlessLoanModel", name := "stopped", desc := "()I" } : MethodName)) ∈ gtb := gtb_in (tin8 (List.mem_of_getElem? (i := 194) rfl)) rfl
theorem q1990 : (Cond.code ({ cls := "BlessLoanModel", name := "stopped", desc := "()I" } : MethodName) prog_14_method_121_code (1 : Nat) (Option.some FieldType.int)) ∈ gtb := gtb_in (tin8 (List.mem_of_getElem? (i := 195) rfl)) rfl
theorem q1991 : (Cond.methodLink "BlessLoanLaw" (171 : Nat) ({ cls := "BlessLoanModel", name := "hours", desc := "(II)I" } : MethodName)) ∈ gtb := gtb_in (tin8 (List.mem_of_getElem? (i := 196) rfl)) rfl
theorem q1992 : (Cond.instanceMethod ({ cls := "BlessLoanModel", name := "hours", desc := "(II)I" } : MethodName)) ∈ gtb := gtb_in (tin8 (List.mem_of_getElem? (i := 197) rfl)) rfl
theorem q1993 : (Cond.selects "BlessLoanModel" ({ cls := "BlessLoanModel", name := "hours", desc := "(II)I" } : MethodName) ({ cls := "BlessLoanModel", name := "hours", desc := "(II)I" } : MethodName)) ∈ gtb := gtb_in (tin8 (List.mem_of_getElem? (i := 198) rfl)) rfl
theorem q1994 : (Cond.code ({ cls := "BlessLoanModel", name := "hours", desc := "(II)I" } : MethodName) prog_14_method_124_code (8 : Nat) (Option.some FieldType.int)) ∈ gtb := gtb_in (tin8 (List.mem_of_getElem? (i := 199) rfl)) rfl
theorem q1995 : (Cond.methodLink "BlessLoanModel" (557 : Nat) ({ cls := "BlessLoanModel", name := "draw", desc := "(I)I" } : MethodName)) ∈ gtb := gtb_in (tin8 (List.mem_of_getElem? (i := 200) rfl)) rfl
theorem q1997 : (Cond.instanceMethod ({ cls := "BlessLoanModel", name := "draw", desc := "(I)I" } : MethodName)) ∈ gtb := gtb_in (tin8 (List.mem_of_getElem? (i := 202) rfl)) rfl
theorem q1998 : (Cond.code ({ cls := "BlessLoanModel", name := "draw", desc := "(I)I" } : MethodName) prog_14_method_122_code (2 : Nat) (Option.some FieldType.int)) ∈ gtb := gtb_in (tin8 (List.mem_of_getElem? (i := 203) rfl)) rfl
theorem q1999 : (Cond.constantLong "BlessLoanModel" (549 : Nat) (1103 : Int64)) ∈ gtb := gtb_in (tin8 (List.mem_of_getElem? (i := 204) rfl)) rfl
theorem q2000 : (Cond.constantLong "BlessLoanModel" (551 : Nat) (12345 : Int64)) ∈ gtb := gtb_in (tin8 (List.mem_of_getElem? (i := 205) rfl)) rfl
theorem q2001 : (Cond.constantLong "BlessLoanModel" (553 : Nat) (1000003 : Int64)) ∈ gtb := gtb_in (tin8 (List.mem_of_getElem? (i := 206) rfl)) rfl
theorem q2002 : (Cond.methodLink "BlessLoanModel" (560 : Nat) ({ cls := "BlessLoanModel", name := "placeBy", desc := "(II)I" } : MethodName)) ∈ gtb := gtb_in (tin8 (List.mem_of_getElem? (i := 207) rfl)) rfl
theorem q2003 : (Cond.static ({ cls := "BlessLoanModel", name := "placeBy", desc := "(II)I" } : MethodName)) ∈ gtb := gtb_in (tin8 (List.mem_of_getElem? (i := 208) rfl)) rfl
theorem q2004 : (Cond.code ({ cls := "BlessLoanModel", name := "placeBy", desc := "(II)I" } : MethodName) prog_14_method_123_code (4 : Nat) (Option.some FieldType.int)) ∈ gtb := gtb_in (tin8 (List.mem_of_getElem? (i := 209) rfl)) rfl
theorem q2005 : (Cond.constantLong "BlessLoanModel" (555 : Nat) (4 : Int64)) ∈ gtb := gtb_in (tin8 (List.mem_of_getElem? (i := 210) rfl)) rfl
theorem q2006 : (Cond.methodLink "BlessLoanLaw" (175 : Nat) ({ cls := "BlessLoanModel", name := "drawn", desc := "(II)I" } : MethodName)) ∈ gtb := gtb_in (tin8 (List.mem_of_getElem? (i := 211) rfl)) rfl
theorem q2007 : (Cond.instanceMethod ({ cls := "BlessLoanModel", name := "drawn", desc := "(II)I" } : MethodName)) ∈ gtb := gtb_in (tin8 (List.mem_of_getElem? (i := 212) rfl)) rfl
theorem q2008 : (Cond.selects "BlessLoanModel" ({ cls := "BlessLoanModel", name := "drawn", desc := "(II)I" } : MethodName) ({ cls := "BlessLoanModel", name := "drawn", desc := "(II)I" } : MethodName)) ∈ gtb := gtb_in (tin8 (List.mem_of_getElem? (i := 213) rfl)) rfl
theorem q2009 : (Cond.code ({ cls := "BlessLoanModel", name := "drawn", desc := "(II)I" } : MethodName) prog_14_method_125_code (3 : Nat) (Option.some FieldType.int)) ∈ gtb := gtb_in (tin8 (List.mem_of_getElem? (i := 214) rfl)) rfl
theorem q2010 : (Cond.methodLink "BlessLoanLaw" (187 : Nat) ({ cls := "BlessLoanModel", name := "count", desc := "(I)I" } : MethodName)) ∈ gtb := gtb_in (tin8 (List.mem_of_getElem? (i := 215) rfl)) rfl
theorem q2011 : (Cond.instanceMethod ({ cls := "BlessLoanModel", name := "count", desc := "(I)I" } : MethodName)) ∈ gtb := gtb_in (tin8 (List.mem_of_getElem? (i := 216) rfl)) rfl
theorem q2012 : (Cond.selects "BlessLoanModel" ({ cls := "BlessLoanModel", name := "count", desc := "(I)I" } : MethodName) ({ cls := "BlessLoanModel", name := "count", desc := "(I)I" } : MethodName)) ∈ gtb := gtb_in (tin8 (List.mem_of_getElem? (i := 217) rfl)) rfl
theorem q2013 : (Cond.code ({ cls := "BlessLoanModel", name := "count", desc := "(I)I" } : MethodName) prog_14_method_128_code (2 : Nat) (Option.some FieldType.int)) ∈ gtb := gtb_in (tin8 (List.mem_of_getElem? (i := 218) rfl)) rfl
theorem q2014 : (Cond.methodLink "BlessLoanModel" (563 : Nat) ({ cls := "BlessLoanModel", name := "maskedOnes", desc := "()I" } : MethodName)) ∈ gtb := gtb_in (tin8 (List.mem_of_getElem? (i := 219) rfl)) rfl
theorem q2016 : (Cond.instanceMethod ({ cls := "BlessLoanModel", name := "maskedOnes", desc := "()I" } : MethodName)) ∈ gtb := gtb_in (tin8 (List.mem_of_getElem? (i := 221) rfl)) rfl
theorem q2017 : (Cond.code ({ cls := "BlessLoanModel", name := "maskedOnes", desc := "()I" } : MethodName) prog_14_method_126_code (3 : Nat) (Option.some FieldType.int)) ∈ gtb := gtb_in (tin8 (List.mem_of_getElem? (i := 222) rfl)) rfl
theorem q2018 : (Cond.methodLink "BlessLoanModel" (566 : Nat) ({ cls := "BlessLoanModel", name := "owedByAll", desc := "()I" } : MethodName)) ∈ gtb := gtb_in (tin8 (List.mem_of_getElem? (i := 223) rfl)) rfl
theorem q2020 : (Cond.instanceMethod ({ cls := "BlessLoanModel", name := "owedByAll", desc := "()I" } : MethodName)) ∈ gtb := gtb_in (tin8 (List.mem_of_getElem? (i := 225) rfl)) rfl
theorem q2021 : (Cond.code ({ cls := "BlessLoanModel", name := "owedByAll", desc := "()I" } : MethodName) prog_14_method_127_code (3 : Nat) (Option.some FieldType.int)) ∈ gtb := gtb_in (tin8 (List.mem_of_getElem? (i := 226) rfl)) rfl
theorem q2022 : (Cond.constantLong "BlessLoanModel" (569 : Nat) (13 : Int64)) ∈ gtb := gtb_in (tin8 (List.mem_of_getElem? (i := 227) rfl)) rfl
theorem q2023 : (Cond.constantLong "BlessLoanModel" (571 : Nat) (14 : Int64)) ∈ gtb := gtb_in (tin8 (List.mem_of_getElem? (i := 228) rfl)) rfl
theorem q2024 : (Cond.methodLink "BlessLoanLaw" (191 : Nat) ({ cls := "BlessLoanModel", name := "status", desc := "()I" } : MethodName)) ∈ gtb := gtb_in (tin8 (List.mem_of_getElem? (i := 229) rfl)) rfl
theorem q2025 : (Cond.instanceMethod ({ cls := "BlessLoanModel", name := "status", desc := "()I" } : MethodName)) ∈ gtb := gtb_in (tin8 (List.mem_of_getElem? (i := 230) rfl)) rfl
theorem q2026 : (Cond.selects "BlessLoanModel" ({ cls := "BlessLoanModel", name := "status", desc := "()I" } : MethodName) ({ cls := "BlessLoanModel", name := "status", desc := "()I" } : MethodName)) ∈ gtb := gtb_in (tin8 (List.mem_of_getElem? (i := 231) rfl)) rfl
theorem q2027 : (Cond.code ({ cls := "BlessLoanModel", name := "status", desc := "()I" } : MethodName) prog_14_method_129_code (1 : Nat) (Option.some FieldType.int)) ∈ gtb := gtb_in (tin8 (List.mem_of_getElem? (i := 232) rfl)) rfl
theorem iw_X0 : ∀ w ∈ u_ws RX0 TX0 6, w ∈ gtb := List.forall_mem_cons.mpr ⟨gtb_in (tin2 (List.mem_of_getElem? (i := 90) rfl)) rfl, List.forall_mem_cons.mpr ⟨gtb_in (tin2 (List.mem_of_getElem? (i := 92) rfl)) rfl, List.forall_mem_cons.mpr ⟨gtb_in (tin2 (List.mem_of_getElem? (i := 94) rfl)) rfl, List.forall_mem_cons.mpr ⟨gtb_in (tin2 (List.mem_of_getElem? (i := 96) rfl)) rfl, List.forall_mem_cons.mpr ⟨gtb_in (tin2 (List.mem_of_getElem? (i := 98) rfl)) rfl, List.forall_mem_cons.mpr ⟨gtb_in (tin2 (List.mem_of_getElem? (i := 100) rfl)) rfl, fun _ h => absurd h List.not_mem_nil⟩⟩⟩⟩⟩⟩
theorem ci_X0 : CI 0 RX0 TX0 := ⟨by decide, rfl, iw_X0, tyX0_ok, nmX0⟩
theorem iw_X1 : ∀ w ∈ u_ws RX1 TX1 4, w ∈ gtb := List.forall_mem_cons.mpr ⟨gtb_in (tin2 (List.mem_of_getElem? (i := 66) rfl)) rfl, List.forall_mem_cons.mpr ⟨gtb_in (tin2 (List.mem_of_getElem? (i := 68) rfl)) rfl, List.forall_mem_cons.mpr ⟨gtb_in (tin2 (List.mem_of_getElem? (i := 70) rfl)) rfl, List.forall_mem_cons.mpr ⟨gtb_in (tin2 (List.mem_of_getElem? (i := 72) rfl)) rfl, fun _ h => absurd h List.not_mem_nil⟩⟩⟩⟩
theorem ci_X1 : CI 1 RX1 TX1 := ⟨by decide, rfl, iw_X1, tyX1_ok, nmX1⟩
theorem iw_X2 : ∀ w ∈ u_ws RX2 TX2 1, w ∈ gtb := List.forall_mem_cons.mpr ⟨gtb_in (tin5 (List.mem_of_getElem? (i := 163) rfl)) rfl, fun _ h => absurd h List.not_mem_nil⟩
theorem ci_X2 : CI 2 RX2 TX2 := ⟨by decide, rfl, iw_X2, tyX2_ok, nmX2⟩
theorem iw_X3 : ∀ w ∈ u_ws RX3 TX3 5, w ∈ gtb := List.forall_mem_cons.mpr ⟨gtb_in (tin2 (List.mem_of_getElem? (i := 17) rfl)) rfl, List.forall_mem_cons.mpr ⟨gtb_in (tin2 (List.mem_of_getElem? (i := 19) rfl)) rfl, List.forall_mem_cons.mpr ⟨gtb_in (tin2 (List.mem_of_getElem? (i := 21) rfl)) rfl, List.forall_mem_cons.mpr ⟨gtb_in (tin2 (List.mem_of_getElem? (i := 23) rfl)) rfl, List.forall_mem_cons.mpr ⟨gtb_in (tin2 (List.mem_of_getElem? (i := 25) rfl)) rfl, fun _ h => absurd h List.not_mem_nil⟩⟩⟩⟩⟩
theorem ci_X3 : CI 3 RX3 TX3 := ⟨by decide, rfl, iw_X3, tyX3_ok, nmX3⟩
theorem iw_X4 : ∀ w ∈ u_ws RX4 TX4 2, w ∈ gtb := List.forall_mem_cons.mpr ⟨gtb_in (tin2 (List.mem_of_getElem? (i := 39) rfl)) rfl, List.forall_mem_cons.mpr ⟨gtb_in (tin2 (List.mem_of_getElem? (i := 41) rfl)) rfl, fun _ h => absurd h List.not_mem_nil⟩⟩
theorem ci_X4 : CI 4 RX4 TX4 := ⟨by decide, rfl, iw_X4, tyX4_ok, nmX4⟩
theorem iw_X5 : ∀ w ∈ u_ws RX5 TX5 17, w ∈ gtb := List.forall_mem_cons.mpr ⟨gtb_in (tin2 (List.mem_of_getElem? (i := 135) rfl)) rfl, List.forall_mem_cons.mpr ⟨gtb_in (tin2 (List.mem_of_getElem? (i := 137) rfl)) rfl, List.forall_mem_cons.mpr ⟨gtb_in (tin2 (List.mem_of_getElem? (i := 139) rfl)) rfl, List.forall_mem_cons.mpr ⟨gtb_in (tin2 (List.mem_of_getElem? (i := 141) rfl)) rfl, List.forall_mem_cons.mpr ⟨gtb_in (tin2 (List.mem_of_getElem? (i := 143) rfl)) rfl, List.forall_mem_cons.mpr ⟨gtb_in (tin2 (List.mem_of_getElem? (i := 145) rfl)) rfl, List.forall_mem_cons.mpr ⟨gtb_in (tin2 (List.mem_of_getElem? (i := 147) rfl)) rfl, List.forall_mem_cons.mpr ⟨gtb_in (tin2 (List.mem_of_getElem? (i := 149) rfl)) rfl, List.forall_mem_cons.mpr ⟨gtb_in (tin2 (List.mem_of_getElem? (i := 151) rfl)) rfl, List.forall_mem_cons.mpr ⟨gtb_in (tin2 (List.mem_of_getElem? (i := 153) rfl)) rfl, List.forall_mem_cons.mpr ⟨gtb_in (tin2 (List.mem_of_getElem? (i := 155) rfl)) rfl, List.forall_mem_cons.mpr ⟨gtb_in (tin2 (List.mem_of_getElem? (i := 157) rfl)) rfl, List.forall_mem_cons.mpr ⟨gtb_in (tin2 (List.mem_of_getElem? (i := 159) rfl)) rfl, List.forall_mem_cons.mpr ⟨gtb_in (tin2 (List.mem_of_getElem? (i := 161) rfl)) rfl, List.forall_mem_cons.mpr ⟨gtb_in (tin2 (List.mem_of_getElem? (i := 163) rfl)) rfl, List.forall_mem_cons.mpr ⟨gtb_in (tin2 (List.mem_of_getElem? (i := 165) rfl)) rfl, List.forall_mem_cons.mpr ⟨gtb_in (tin2 (List.mem_of_getElem? (i := 167) rfl)) rfl, fun _ h => absurd h List.not_mem_nil⟩⟩⟩⟩⟩⟩⟩⟩⟩⟩⟩⟩⟩⟩⟩⟩⟩
theorem ci_X5 : CI 5 RX5 TX5 := ⟨by decide, rfl, iw_X5, tyX5_ok, nmX5⟩
theorem iw_X6 : ∀ w ∈ u_ws RX6 TX6 9, w ∈ gtb := List.forall_mem_cons.mpr ⟨gtb_in (tin1 (List.mem_of_getElem? (i := 211) rfl)) rfl, List.forall_mem_cons.mpr ⟨gtb_in (tin1 (List.mem_of_getElem? (i := 213) rfl)) rfl, List.forall_mem_cons.mpr ⟨gtb_in (tin1 (List.mem_of_getElem? (i := 215) rfl)) rfl, List.forall_mem_cons.mpr ⟨gtb_in (tin1 (List.mem_of_getElem? (i := 217) rfl)) rfl, List.forall_mem_cons.mpr ⟨gtb_in (tin1 (List.mem_of_getElem? (i := 219) rfl)) rfl, List.forall_mem_cons.mpr ⟨gtb_in (tin1 (List.mem_of_getElem? (i := 221) rfl)) rfl, List.forall_mem_cons.mpr ⟨gtb_in (tin1 (List.mem_of_getElem? (i := 223) rfl)) rfl, List.forall_mem_cons.mpr ⟨gtb_in (tin1 (List.mem_of_getElem? (i := 225) rfl)) rfl, List.forall_mem_cons.mpr ⟨gtb_in (tin1 (List.mem_of_getElem? (i := 227) rfl)) rfl, fun _ h => absurd h List.not_mem_nil⟩⟩⟩⟩⟩⟩⟩⟩⟩
theorem ci_X6 : CI 6 RX6 TX6 := ⟨by decide, rfl, iw_X6, tyX6_ok, nmX6⟩
theorem iw_X7 : ∀ w ∈ u_ws RX7 TX7 2, w ∈ gtb := List.forall_mem_cons.mpr ⟨gtb_in (tin2 (List.mem_of_getElem? (i := 6) rfl)) rfl, List.forall_mem_cons.mpr ⟨gtb_in (tin2 (List.mem_of_getElem? (i := 8) rfl)) rfl, fun _ h => absurd h List.not_mem_nil⟩⟩
theorem ci_X7 : CI 7 RX7 TX7 := ⟨by decide, rfl, iw_X7, tyX7_ok, nmX7⟩
theorem iw_X8 : ∀ w ∈ u_ws RX8 TX8 1, w ∈ gtb := List.forall_mem_cons.mpr ⟨gtb_in (tin2 (List.mem_of_getElem? (i := 53) rfl)) rfl, fun _ h => absurd h List.not_mem_nil⟩
theorem ci_X8 : CI 8 RX8 TX8 := ⟨by decide, rfl, iw_X8, tyX8_ok, nmX8⟩
theorem iw_X9 : ∀ w ∈ u_ws RX9 TX9 10, w ∈ gtb := List.forall_mem_cons.mpr ⟨gtb_in (tin1 (List.mem_of_getElem? (i := 177) rfl)) rfl, List.forall_mem_cons.mpr ⟨gtb_in (tin1 (List.mem_of_getElem? (i := 179) rfl)) rfl, List.forall_mem_cons.mpr ⟨gtb_in (tin1 (List.mem_of_getElem? (i := 181) rfl)) rfl, List.forall_mem_cons.mpr ⟨gtb_in (tin1 (List.mem_of_getElem? (i := 183) rfl)) rfl, List.forall_mem_cons.mpr ⟨gtb_in (tin1 (List.mem_of_getElem? (i := 185) rfl)) rfl, List.forall_mem_cons.mpr ⟨gtb_in (tin1 (List.mem_of_getElem? (i := 187) rfl)) rfl, List.forall_mem_cons.mpr ⟨gtb_in (tin1 (List.mem_of_getElem? (i := 189) rfl)) rfl, List.forall_mem_cons.mpr ⟨gtb_in (tin1 (List.mem_of_getElem? (i := 191) rfl)) rfl, List.forall_mem_cons.mpr ⟨gtb_in (tin1 (List.mem_of_getElem? (i := 193) rfl)) rfl, List.forall_mem_cons.mpr ⟨gtb_in (tin1 (List.mem_of_getElem? (i := 195) rfl)) rfl, fun _ h => absurd h List.not_mem_nil⟩⟩⟩⟩⟩⟩⟩⟩⟩⟩
theorem ci_X9 : CI 9 RX9 TX9 := ⟨by decide, rfl, iw_X9, tyX9_ok, nmX9⟩
theorem iw_X10 : ∀ w ∈ u_ws RX10 TX10 15, w ∈ gtb := List.forall_mem_cons.mpr ⟨gtb_in (tin1 (List.mem_of_getElem? (i := 96) rfl)) rfl, List.forall_mem_cons.mpr ⟨gtb_in (tin1 (List.mem_of_getElem? (i := 98) rfl)) rfl, List.forall_mem_cons.mpr ⟨gtb_in (tin1 (List.mem_of_getElem? (i := 100) rfl)) rfl, List.forall_mem_cons.mpr ⟨gtb_in (tin1 (List.mem_of_getElem? (i := 102) rfl)) rfl, List.forall_mem_cons.mpr ⟨gtb_in (tin1 (List.mem_of_getElem? (i := 104) rfl)) rfl, List.forall_mem_cons.mpr ⟨gtb_in (tin1 (List.mem_of_getElem? (i := 106) rfl)) rfl, List.forall_mem_cons.mpr ⟨gtb_in (tin1 (List.mem_of_getElem? (i := 108) rfl)) rfl, List.forall_mem_cons.mpr ⟨gtb_in (tin1 (List.mem_of_getElem? (i := 110) rfl)) rfl, List.forall_mem_cons.mpr ⟨gtb_in (tin1 (List.mem_of_getElem? (i := 112) rfl)) rfl, List.forall_mem_cons.mpr ⟨gtb_in (tin1 (List.mem_of_getElem? (i := 114) rfl)) rfl, List.forall_mem_cons.mpr ⟨gtb_in (tin1 (List.mem_of_getElem? (i := 116) rfl)) rfl, List.forall_mem_cons.mpr ⟨gtb_in (tin1 (List.mem_of_getElem? (i := 118) rfl)) rfl, List.forall_mem_cons.mpr ⟨gtb_in (tin1 (List.mem_of_getElem? (i := 120) rfl)) rfl, List.forall_mem_cons.mpr ⟨gtb_in (tin1 (List.mem_of_getElem? (i := 122) rfl)) rfl, List.forall_mem_cons.mpr ⟨gtb_in (tin1 (List.mem_of_getElem? (i := 124) rfl)) rfl, fun _ h => absurd h List.not_mem_nil⟩⟩⟩⟩⟩⟩⟩⟩⟩⟩⟩⟩⟩⟩⟩
theorem ci_X10 : CI 10 RX10 TX10 := ⟨by decide, rfl, iw_X10, tyX10_ok, nmX10⟩
theorem iw_X11 : ∀ w ∈ u_ws RX11 TX11 17, w ∈ gtb := List.forall_mem_cons.mpr ⟨gtb_in (tin2 (List.mem_of_getElem? (i := 187) rfl)) rfl, List.forall_mem_cons.mpr ⟨gtb_in (tin2 (List.mem_of_getElem? (i := 189) rfl)) rfl, List.forall_mem_cons.mpr ⟨gtb_in (tin2 (List.mem_of_getElem? (i := 191) rfl)) rfl, List.forall_mem_cons.mpr ⟨gtb_in (tin2 (List.mem_of_getElem? (i := 193) rfl)) rfl, List.forall_mem_cons.mpr ⟨gtb_in (tin2 (List.mem_of_getElem? (i := 195) rfl)) rfl, List.forall_mem_cons.mpr ⟨gtb_in (tin2 (List.mem_of_getElem? (i := 197) rfl)) rfl, List.forall_mem_cons.mpr ⟨gtb_in (tin2 (List.mem_of_getElem? (i := 199) rfl)) rfl, List.forall_mem_cons.mpr ⟨gtb_in (tin2 (List.mem_of_getElem? (i := 201) rfl)) rfl, List.forall_mem_cons.mpr ⟨gtb_in (tin2 (List.mem_of_getElem? (i := 203) rfl)) rfl, List.forall_mem_cons.mpr ⟨gtb_in (tin2 (List.mem_of_getElem? (i := 205) rfl)) rfl, List.forall_mem_cons.mpr ⟨gtb_in (tin2 (List.mem_of_getElem? (i := 207) rfl)) rfl, List.forall_mem_cons.mpr ⟨gtb_in (tin2 (List.mem_of_getElem? (i := 209) rfl)) rfl, List.forall_mem_cons.mpr ⟨gtb_in (tin2 (List.mem_of_getElem? (i := 211) rfl)) rfl, List.forall_mem_cons.mpr ⟨gtb_in (tin2 (List.mem_of_getElem? (i := 213) rfl)) rfl, List.forall_mem_cons.mpr ⟨gtb_in (tin2 (List.mem_of_getElem? (i := 215) rfl)) rfl, List.forall_mem_cons.mpr ⟨gtb_in (tin2 (List.mem_of_getElem? (i := 217) rfl)) rfl, List.forall_mem_cons.mpr ⟨gtb_in (tin2 (List.mem_of_getElem? (i := 219) rfl)) rfl, fun _ h => absurd h List.not_mem_nil⟩⟩⟩⟩⟩⟩⟩⟩⟩⟩⟩⟩⟩⟩⟩⟩⟩
theorem ci_X11 : CI 11 RX11 TX11 := ⟨by decide, rfl, iw_X11, tyX11_ok, nmX11⟩
theorem iw_X12 : ∀ w ∈ u_ws RX12 TX12 58, w ∈ gtb := List.forall_mem_cons.mpr ⟨gtb_in (tin6 (List.mem_of_getElem? (i := 62) rfl)) rfl, List.forall_mem_cons.mpr ⟨gtb_in (tin6 (List.mem_of_getElem? (i := 64) rfl)) rfl, List.forall_mem_cons.mpr ⟨gtb_in (tin6 (List.mem_of_getElem? (i := 66) rfl)) rfl, List.forall_mem_cons.mpr ⟨gtb_in (tin6 (List.mem_of_getElem? (i := 68) rfl)) rfl, List.forall_mem_cons.mpr ⟨gtb_in (tin6 (List.mem_of_getElem? (i := 70) rfl)) rfl, List.forall_mem_cons.mpr ⟨gtb_in (tin6 (List.mem_of_getElem? (i := 72) rfl)) rfl, List.forall_mem_cons.mpr ⟨gtb_in (tin6 (List.mem_of_getElem? (i := 74) rfl)) rfl, List.forall_mem_cons.mpr ⟨gtb_in (tin6 (List.mem_of_getElem? (i := 76) rfl)) rfl, List.forall_mem_cons.mpr ⟨gtb_in (tin6 (List.mem_of_getElem? (i := 78) rfl)) rfl, List.forall_mem_cons.mpr ⟨gtb_in (tin6 (List.mem_of_getElem? (i := 80) rfl)) rfl, List.forall_mem_cons.mpr ⟨gtb_in (tin6 (List.mem_of_getElem? (i := 82) rfl)) rfl, List.forall_mem_cons.mpr ⟨gtb_in (tin6 (List.mem_of_getElem? (i := 84) rfl)) rfl, List.forall_mem_cons.mpr ⟨gtb_in (tin6 (List.mem_of_getElem? (i := 86) rfl)) rfl, List.forall_mem_cons.mpr ⟨gtb_in (tin6 (List.mem_of_getElem? (i := 88) rfl)) rfl, List.forall_mem_cons.mpr ⟨gtb_in (tin6 (List.mem_of_getElem? (i := 90) rfl)) rfl, List.forall_mem_cons.mpr ⟨gtb_in (tin6 (List.mem_of_getElem? (i := 92) rfl)) rfl, List.forall_mem_cons.mpr ⟨gtb_in (tin6 (List.mem_of_getElem? (i := 94) rfl)) rfl, List.forall_mem_cons.mpr ⟨gtb_in (tin6 (List.mem_of_getElem? (i := 96) rfl)) rfl, List.forall_mem_cons.mpr ⟨gtb_in (tin6 (List.mem_of_getElem? (i := 98) rfl)) rfl, List.forall_mem_cons.mpr ⟨gtb_in (tin6 (List.mem_of_getElem? (i := 100) rfl)) rfl, List.forall_mem_cons.mpr ⟨gtb_in (tin6 (List.mem_of_getElem? (i := 102) rfl)) rfl, List.forall_mem_cons.mpr ⟨gtb_in (tin6 (List.mem_of_getElem? (i := 104) rfl)) rfl, List.forall_mem_cons.mpr ⟨gtb_in (tin6 (List.mem_of_getElem? (i := 106) rfl)) rfl, List.forall_mem_cons.mpr ⟨gtb_in (tin6 (List.mem_of_getElem? (i := 108) rfl)) rfl, List.forall_mem_cons.mpr ⟨gtb_in (tin6 (List.mem_of_getElem? (i := 110) rfl)) rfl, List.forall_mem_cons.mpr ⟨gtb_in (tin6 (List.mem_of_getElem? (i := 112) rfl)) rfl, List.forall_mem_cons.mpr ⟨gtb_in (tin6 (List.mem_of_getElem? (i := 114) rfl)) rfl, List.forall_mem_cons.mpr ⟨gtb_in (tin6 (List.mem_of_getElem? (i := 116) rfl)) rfl, List.forall_mem_cons.mpr ⟨gtb_in (tin6 (List.mem_of_getElem? (i := 118) rfl)) rfl, List.forall_mem_cons.mpr ⟨gtb_in (tin6 (List.mem_of_getElem? (i := 120) rfl)) rfl, List.forall_mem_cons.mpr ⟨gtb_in (tin6 (List.mem_of_getElem? (i := 122) rfl)) rfl, List.forall_mem_cons.mpr ⟨gtb_in (tin6 (List.mem_of_getElem? (i := 124) rfl)) rfl, List.forall_mem_cons.mpr ⟨gtb_in (tin6 (List.mem_of_getElem? (i := 126) rfl)) rfl, List.forall_mem_cons.mpr ⟨gtb_in (tin6 (List.mem_of_getElem? (i := 128) rfl)) rfl, List.forall_mem_cons.mpr ⟨gtb_in (tin6 (List.mem_of_getElem? (i := 130) rfl)) rfl, List.forall_mem_cons.mpr ⟨gtb_in (tin6 (List.mem_of_getElem? (i := 132) rfl)) rfl, List.forall_mem_cons.mpr ⟨gtb_in (tin6 (List.mem_of_getElem? (i := 134) rfl)) rfl, List.forall_mem_cons.mpr ⟨gtb_in (tin6 (List.mem_of_getElem? (i := 136) rfl)) rfl, List.forall_mem_cons.mpr ⟨gtb_in (tin6 (List.mem_of_getElem? (i := 138) rfl)) rfl, List.forall_mem_cons.mpr ⟨gtb_in (tin6 (List.mem_of_getElem? (i := 140) rfl)) rfl, List.forall_mem_cons.mpr ⟨gtb_in (tin6 (List.mem_of_getElem? (i := 142) rfl)) rfl, List.forall_mem_cons.mpr ⟨gtb_in (tin6 (List.mem_of_getElem? (i := 144) rfl)) rfl, List.forall_mem_cons.mpr ⟨gtb_in (tin6 (List.mem_of_getElem? (i := 146) rfl)) rfl, List.forall_mem_cons.mpr ⟨gtb_in (tin6 (List.mem_of_getElem? (i := 148) rfl)) rfl, List.forall_mem_cons.mpr ⟨gtb_in (tin6 (List.mem_of_getElem? (i := 150) rfl)) rfl, List.forall_mem_cons.mpr ⟨gtb_in (tin6 (List.mem_of_getElem? (i := 152) rfl)) rfl, List.forall_mem_cons.mpr ⟨gtb_in (tin6 (List.mem_of_getElem? (i := 154) rfl)) rfl, List.forall_mem_cons.mpr ⟨gtb_in (tin6 (List.mem_of_getElem? (i := 156) rfl)) rfl, List.forall_mem_cons.mpr ⟨gtb_in (tin6 (List.mem_of_getElem? (i := 158) rfl)) rfl, List.forall_mem_cons.mpr ⟨gtb_in (tin6 (List.mem_of_getElem? (i := 160) rfl)) rfl, List.forall_mem_cons.mpr ⟨gtb_in (tin6 (List.mem_of_getElem? (i := 162) rfl)) rfl, List.forall_mem_cons.mpr ⟨gtb_in (tin6 (List.mem_of_getElem? (i := 164) rfl)) rfl, List.forall_mem_cons.mpr ⟨gtb_in (tin6 (List.mem_of_getElem? (i := 166) rfl)) rfl, List.forall_mem_cons.mpr ⟨gtb_in (tin6 (List.mem_of_getElem? (i := 168) rfl)) rfl, List.forall_mem_cons.mpr ⟨gtb_in (tin6 (List.mem_of_getElem? (i := 170) rfl)) rfl, List.forall_mem_cons.mpr ⟨gtb_in (tin6 (List.mem_of_getElem? (i := 172) rfl)) rfl, List.forall_mem_cons.mpr ⟨gtb_in (tin6 (List.mem_of_getElem? (i := 174) rfl)) rfl, List.forall_mem_cons.mpr ⟨gtb_in (tin6 (List.mem_of_getElem? (i := 176) rfl)) rfl, fun _ h => absurd h List.not_mem_nil⟩⟩⟩⟩⟩⟩⟩⟩⟩⟩⟩⟩⟩⟩⟩⟩⟩⟩⟩⟩⟩⟩⟩⟩⟩⟩⟩⟩⟩⟩⟩⟩⟩⟩⟩⟩⟩⟩⟩⟩⟩⟩⟩⟩⟩⟩⟩⟩⟩⟩⟩⟩⟩⟩⟩⟩⟩⟩
theorem ci_X12 : CI 12 RX12 TX12 := ⟨by decide, rfl, iw_X12, tyX12_ok, nmX12⟩
theorem mi_J6_bitCount_0f7a4 : MI M_J6_bitCount_0f7a4 1 := ⟨q1153, q135, by decide +kernel, by decide⟩
theorem mi_J7_fill_53178 : MI M_J7_fill_53178 2 := ⟨q155, q118, by decide +kernel, by decide⟩
theorem mi_J7_fill_d0a16 : MI M_J7_fill_d0a16 2 := ⟨q1215, q118, by decide +kernel, by decide⟩
theorem mi_X0_act : MI M_X0_act 2 := ⟨q931, q127, by decide +kernel, by decide⟩
theorem mi_X0_execute : MI M_X0_execute 1 := ⟨q915, q127, by decide +kernel, by decide⟩
theorem mi_X0_init : MI M_X0_init 2 := ⟨q434, q127, by decide +kernel, by decide⟩
theorem mi_X0_isWanted : MI M_X0_isWanted 2 := ⟨q926, q127, by decide +kernel, by decide⟩
theorem mi_X0_learn : MI M_X0_learn 0 := ⟨q919, q127, by decide +kernel, by decide⟩
theorem mi_X10_apart : MI M_X10_apart 2 := ⟨q677, q117, by decide +kernel, by decide⟩
theorem mi_X10_become : MI M_X10_become 1 := ⟨q905, q117, by decide +kernel, by decide⟩
theorem mi_X10_bless : MI M_X10_bless 3 := ⟨q957, q117, by decide +kernel, by decide⟩
theorem mi_X10_canBe : MI M_X10_canBe 4 := ⟨q606, q117, by decide +kernel, by decide⟩
theorem mi_X10_debtOf : MI M_X10_debtOf 2 := ⟨q949, q117, by decide +kernel, by decide⟩
theorem mi_X10_far : MI M_X10_far 2 := ⟨q674, q117, by decide +kernel, by decide⟩
theorem mi_X10_has : MI M_X10_has 1 := ⟨q619, q117, by decide +kernel, by decide⟩
theorem mi_X10_hasBoth : MI M_X10_hasBoth 2 := ⟨q694, q117, by decide +kernel, by decide⟩
theorem mi_X10_hasLawOrNone : MI M_X10_hasLawOrNone 1 := ⟨q985, q117, by decide +kernel, by decide⟩
theorem mi_X10_init : MI M_X10_init 0 := ⟨q149, q117, by decide +kernel, by decide⟩
theorem mi_X10_isPlace : MI M_X10_isPlace 1 := ⟨q583, q117, by decide +kernel, by decide⟩
theorem mi_X10_lawInForce : MI M_X10_lawInForce 0 := ⟨q627, q117, by decide +kernel, by decide⟩
theorem mi_X10_maskedOnes : MI M_X10_maskedOnes 0 := ⟨q1281, q117, by decide +kernel, by decide⟩
theorem mi_X10_owedBy : MI M_X10_owedBy 1 := ⟨q712, q117, by decide +kernel, by decide⟩
theorem mi_X10_owedInAll : MI M_X10_owedInAll 0 := ⟨q1285, q117, by decide +kernel, by decide⟩
theorem mi_X10_owedTo : MI M_X10_owedTo 1 := ⟨q708, q117, by decide +kernel, by decide⟩
theorem mi_X10_peopleIn : MI M_X10_peopleIn 1 := ⟨q599, q117, by decide +kernel, by decide⟩
theorem mi_X10_settle : MI M_X10_settle 4 := ⟨q611, q117, by decide +kernel, by decide⟩
theorem mi_X11_asks : MI M_X11_asks 3 := ⟨q989, q116, by decide +kernel, by decide⟩
theorem mi_X11_at : MI M_X11_at 2 := ⟨q595, q116, by decide +kernel, by decide⟩
theorem mi_X11_back : MI M_X11_back 1 := ⟨q1273, q116, by decide +kernel, by decide⟩
theorem mi_X11_can : MI M_X11_can 1 := ⟨q1177, q116, by decide +kernel, by decide⟩
theorem mi_X11_clear : MI M_X11_clear 0 := ⟨q1014, q116, by decide +kernel, by decide⟩
theorem mi_X11_compare : MI M_X11_compare 1 := ⟨q1221, q116, by decide +kernel, by decide⟩
theorem mi_X11_count : MI M_X11_count 1 := ⟨q1277, q116, by decide +kernel, by decide⟩
theorem mi_X11_drawn : MI M_X11_drawn 2 := ⟨q1265, q116, by decide +kernel, by decide⟩
theorem mi_X11_dust : MI M_X11_dust 2 := ⟨q580, q116, by decide +kernel, by decide⟩
theorem mi_X11_end : MI M_X11_end 1 := ⟨q728, q116, by decide +kernel, by decide⟩
theorem mi_X11_fault : MI M_X11_fault 0 := ⟨q973, q116, by decide +kernel, by decide⟩
theorem mi_X11_feed : MI M_X11_feed 5 := ⟨q720, q116, by decide +kernel, by decide⟩
theorem mi_X11_fine : MI M_X11_fine 1 := ⟨q591, q116, by decide +kernel, by decide⟩
theorem mi_X11_force : MI M_X11_force 1 := ⟨q981, q116, by decide +kernel, by decide⟩
theorem mi_X11_forget : MI M_X11_forget 0 := ⟨q1173, q116, by decide +kernel, by decide⟩
theorem mi_X11_forgive : MI M_X11_forgive 2 := ⟨q1009, q116, by decide +kernel, by decide⟩
theorem mi_X11_gain : MI M_X11_gain 2 := ⟨q1059, q116, by decide +kernel, by decide⟩
theorem mi_X11_hiccups : MI M_X11_hiccups 0 := ⟨q740, q116, by decide +kernel, by decide⟩
theorem mi_X11_hours : MI M_X11_hours 2 := ⟨q1229, q116, by decide +kernel, by decide⟩
theorem mi_X11_image : MI M_X11_image 1 := ⟨q1269, q116, by decide +kernel, by decide⟩
theorem mi_X11_init : MI M_X11_init 0 := ⟨q141, q116, by decide +kernel, by decide⟩
theorem mi_X11_law : MI M_X11_law 0 := ⟨q744, q116, by decide +kernel, by decide⟩
theorem mi_X11_lend : MI M_X11_lend 3 := ⟨q699, q116, by decide +kernel, by decide⟩
theorem mi_X11_listen : MI M_X11_listen 2 := ⟨q1193, q116, by decide +kernel, by decide⟩
theorem mi_X11_mask : MI M_X11_mask 2 := ⟨q686, q116, by decide +kernel, by decide⟩
theorem mi_X11_masks : MI M_X11_masks 1 := ⟨q1142, q116, by decide +kernel, by decide⟩
theorem mi_X11_net : MI M_X11_net 1 := ⟨q703, q116, by decide +kernel, by decide⟩
theorem mi_X11_of : MI M_X11_of 2 := ⟨q615, q116, by decide +kernel, by decide⟩
theorem mi_X11_often : MI M_X11_often 3 := ⟨q1207, q116, by decide +kernel, by decide⟩
theorem mi_X11_orders : MI M_X11_orders 0 := ⟨q901, q116, by decide +kernel, by decide⟩
theorem mi_X11_owed : MI M_X11_owed 2 := ⟨q690, q116, by decide +kernel, by decide⟩
theorem mi_X11_pass : MI M_X11_pass 0 := ⟨q1037, q116, by decide +kernel, by decide⟩
theorem mi_X11_person : MI M_X11_person 4 := ⟨q603, q116, by decide +kernel, by decide⟩
theorem mi_X11_readTape : MI M_X11_readTape 1 := ⟨q748, q116, by decide +kernel, by decide⟩
theorem mi_X11_refuse : MI M_X11_refuse 1 := ⟨q587, q116, by decide +kernel, by decide⟩
theorem mi_X11_rests : MI M_X11_rests 1 := ⟨q1093, q116, by decide +kernel, by decide⟩
theorem mi_X11_ring : MI M_X11_ring 1 := ⟨q1054, q116, by decide +kernel, by decide⟩
theorem mi_X11_round : MI M_X11_round 2 := ⟨q1116, q116, by decide +kernel, by decide⟩
theorem mi_X11_row : MI M_X11_row 0 := ⟨q732, q116, by decide +kernel, by decide⟩
theorem mi_X11_seen : MI M_X11_seen 2 := ⟨q1169, q116, by decide +kernel, by decide⟩
theorem mi_X11_settleFrom : MI M_X11_settleFrom 1 := ⟨q736, q116, by decide +kernel, by decide⟩
theorem mi_X11_settled : MI M_X11_settled 1 := ⟨q1000, q116, by decide +kernel, by decide⟩
theorem mi_X11_sneeze : MI M_X11_sneeze 1 := ⟨q1004, q116, by decide +kernel, by decide⟩
theorem mi_X11_stand : MI M_X11_stand 2 := ⟨q1084, q116, by decide +kernel, by decide⟩
theorem mi_X11_status : MI M_X11_status 0 := ⟨q1290, q116, by decide +kernel, by decide⟩
theorem mi_X11_step : MI M_X11_step 2 := ⟨q995, q116, by decide +kernel, by decide⟩
theorem mi_X11_stopped : MI M_X11_stopped 0 := ⟨q977, q116, by decide +kernel, by decide⟩
theorem mi_X11_terms : MI M_X11_terms 2 := ⟨q716, q116, by decide +kernel, by decide⟩
theorem mi_X11_undo : MI M_X11_undo 0 := ⟨q1042, q116, by decide +kernel, by decide⟩
theorem mi_X12_act : MI M_X12_act 3 := ⟨q1982, q129, by decide +kernel, by decide⟩
theorem mi_X12_asks : MI M_X12_asks 3 := ⟨q1793, q129, by decide +kernel, by decide⟩
theorem mi_X12_at : MI M_X12_at 2 := ⟨q1534, q129, by decide +kernel, by decide⟩
theorem mi_X12_back : MI M_X12_back 1 := ⟨q1517, q129, by decide +kernel, by decide⟩
theorem mi_X12_begin : MI M_X12_begin 0 := ⟨q1674, q129, by decide +kernel, by decide⟩
theorem mi_X12_beginText : MI M_X12_beginText 1 := ⟨q1670, q129, by decide +kernel, by decide⟩
theorem mi_X12_behindSum : MI M_X12_behindSum 1 := ⟨q1752, q129, by decide +kernel, by decide⟩
theorem mi_X12_behindTest : MI M_X12_behindTest 0 := ⟨q1774, q129, by decide +kernel, by decide⟩
theorem mi_X12_binds : MI M_X12_binds 1 := ⟨q1755, q129, by decide +kernel, by decide⟩
theorem mi_X12_blesserOf : MI M_X12_blesserOf 1 := ⟨q1608, q129, by decide +kernel, by decide⟩
theorem mi_X12_can : MI M_X12_can 1 := ⟨q1937, q129, by decide +kernel, by decide⟩
theorem mi_X12_change : MI M_X12_change 2 := ⟨q1530, q129, by decide +kernel, by decide⟩
theorem mi_X12_clear : MI M_X12_clear 0 := ⟨q1854, q129, by decide +kernel, by decide⟩
theorem mi_X12_clearNow : MI M_X12_clearNow 0 := ⟨q1858, q129, by decide +kernel, by decide⟩
theorem mi_X12_come : MI M_X12_come 4 := ⟨q1542, q129, by decide +kernel, by decide⟩
theorem mi_X12_compare : MI M_X12_compare 1 := ⟨q1909, q129, by decide +kernel, by decide⟩
theorem mi_X12_count : MI M_X12_count 1 := ⟨q2013, q129, by decide +kernel, by decide⟩
theorem mi_X12_draw : MI M_X12_draw 1 := ⟨q1998, q129, by decide +kernel, by decide⟩
theorem mi_X12_drawn : MI M_X12_drawn 2 := ⟨q2009, q129, by decide +kernel, by decide⟩
theorem mi_X12_dust : MI M_X12_dust 2 := ⟨q1521, q129, by decide +kernel, by decide⟩
theorem mi_X12_emit : MI M_X12_emit 2 := ⟨q1743, q129, by decide +kernel, by decide⟩
theorem mi_X12_end : MI M_X12_end 1 := ⟨q1658, q129, by decide +kernel, by decide⟩
theorem mi_X12_endText : MI M_X12_endText 0 := ⟨q1781, q129, by decide +kernel, by decide⟩
theorem mi_X12_farFrom : MI M_X12_farFrom 2 := ⟨q1571, q129, by decide +kernel, by decide⟩
theorem mi_X12_farOf : MI M_X12_farOf 2 := ⟨q1568, q129, by decide +kernel, by decide⟩
theorem mi_X12_fault : MI M_X12_fault 0 := ⟨q1662, q129, by decide +kernel, by decide⟩
theorem mi_X12_feed : MI M_X12_feed 5 := ⟨q1650, q129, by decide +kernel, by decide⟩
theorem mi_X12_findRing : MI M_X12_findRing 2 := ⟨q1846, q129, by decide +kernel, by decide⟩
theorem mi_X12_findRound : MI M_X12_findRound 2 := ⟨q1917, q129, by decide +kernel, by decide⟩
theorem mi_X12_force : MI M_X12_force 1 := ⟨q1785, q129, by decide +kernel, by decide⟩
theorem mi_X12_forget : MI M_X12_forget 0 := ⟨q1933, q129, by decide +kernel, by decide⟩
theorem mi_X12_forgive : MI M_X12_forgive 2 := ⟨q1830, q129, by decide +kernel, by decide⟩
theorem mi_X12_forgiveNow : MI M_X12_forgiveNow 2 := ⟨q1834, q129, by decide +kernel, by decide⟩
theorem mi_X12_four : MI M_X12_four 1 := ⟨q1654, q129, by decide +kernel, by decide⟩
theorem mi_X12_gain : MI M_X12_gain 2 := ⟨q1871, q129, by decide +kernel, by decide⟩
theorem mi_X12_gainAt : MI M_X12_gainAt 2 := ⟨q1875, q129, by decide +kernel, by decide⟩
theorem mi_X12_gainOf : MI M_X12_gainOf 1 := ⟨q1879, q129, by decide +kernel, by decide⟩
theorem mi_X12_gainsOfAll : MI M_X12_gainsOfAll 0 := ⟨q1905, q129, by decide +kernel, by decide⟩
theorem mi_X12_giveBack : MI M_X12_giveBack 1 := ⟨q1986, q129, by decide +kernel, by decide⟩
theorem mi_X12_hearsOf : MI M_X12_hearsOf 1 := ⟨q1604, q129, by decide +kernel, by decide⟩
theorem mi_X12_hiccups : MI M_X12_hiccups 0 := ⟨q1646, q129, by decide +kernel, by decide⟩
theorem mi_X12_hours : MI M_X12_hours 2 := ⟨q1994, q129, by decide +kernel, by decide⟩
theorem mi_X12_image : MI M_X12_image 1 := ⟨q1510, q129, by decide +kernel, by decide⟩
theorem mi_X12_in : MI M_X12_in 3 := ⟨q1513, q129, by decide +kernel, by decide⟩
theorem mi_X12_init : MI M_X12_init 0 := ⟨q1295, q129, by decide +kernel, by decide⟩
theorem mi_X12_inner : MI M_X12_inner 0 := ⟨q1763, q129, by decide +kernel, by decide⟩
theorem mi_X12_is : MI M_X12_is 2 := ⟨q1901, q129, by decide +kernel, by decide⟩
theorem mi_X12_isAsSeen : MI M_X12_isAsSeen 0 := ⟨q1945, q129, by decide +kernel, by decide⟩
theorem mi_X12_isBarred : MI M_X12_isBarred 2 := ⟨q1616, q129, by decide +kernel, by decide⟩
theorem mi_X12_isCompared : MI M_X12_isCompared 0 := ⟨q1767, q129, by decide +kernel, by decide⟩
theorem mi_X12_isDigit : MI M_X12_isDigit 1 := ⟨q1684, q129, by decide +kernel, by decide⟩
theorem mi_X12_isFresh : MI M_X12_isFresh 1 := ⟨q1850, q129, by decide +kernel, by decide⟩
theorem mi_X12_isLaw : MI M_X12_isLaw 1 := ⟨q1789, q129, by decide +kernel, by decide⟩
theorem mi_X12_isNew : MI M_X12_isNew 1 := ⟨q1921, q129, by decide +kernel, by decide⟩
theorem mi_X12_isPerson : MI M_X12_isPerson 1 := ⟨q1555, q129, by decide +kernel, by decide⟩
theorem mi_X12_isPlace : MI M_X12_isPlace 1 := ⟨q1524, q129, by decide +kernel, by decide⟩
theorem mi_X12_isSign : MI M_X12_isSign 1 := ⟨q1718, q129, by decide +kernel, by decide⟩
theorem mi_X12_isSmall : MI M_X12_isSmall 1 := ⟨q1681, q129, by decide +kernel, by decide⟩
theorem mi_X12_isSo : MI M_X12_isSo 1 := ⟨q1575, q129, by decide +kernel, by decide⟩
theorem mi_X12_isWord : MI M_X12_isWord 1 := ⟨q1697, q129, by decide +kernel, by decide⟩
theorem mi_X12_keepAll : MI M_X12_keepAll 1 := ⟨q1814, q129, by decide +kernel, by decide⟩
theorem mi_X12_law : MI M_X12_law 0 := ⟨q1666, q129, by decide +kernel, by decide⟩
theorem mi_X12_layCan : MI M_X12_layCan 1 := ⟨q1941, q129, by decide +kernel, by decide⟩
theorem mi_X12_layRing : MI M_X12_layRing 0 := ⟨q1842, q129, by decide +kernel, by decide⟩
theorem mi_X12_leaf : MI M_X12_leaf 3 := ⟨q1739, q129, by decide +kernel, by decide⟩
theorem mi_X12_lend : MI M_X12_lend 3 := ⟨q1628, q129, by decide +kernel, by decide⟩
theorem mi_X12_listen : MI M_X12_listen 2 := ⟨q1949, q129, by decide +kernel, by decide⟩
theorem mi_X12_loanOf : MI M_X12_loanOf 2 := ⟨q1797, q129, by decide +kernel, by decide⟩
theorem mi_X12_mask : MI M_X12_mask 2 := ⟨q1620, q129, by decide +kernel, by decide⟩
theorem mi_X12_maskedOnes : MI M_X12_maskedOnes 0 := ⟨q2017, q129, by decide +kernel, by decide⟩
theorem mi_X12_masks : MI M_X12_masks 1 := ⟨q1895, q129, by decide +kernel, by decide⟩
theorem mi_X12_mayBless : MI M_X12_mayBless 2 := ⟨q1612, q129, by decide +kernel, by decide⟩
theorem mi_X12_must : MI M_X12_must 1 := ⟨q1701, q129, by decide +kernel, by decide⟩
theorem mi_X12_net : MI M_X12_net 1 := ⟨q1632, q129, by decide +kernel, by decide⟩
theorem mi_X12_next : MI M_X12_next 0 := ⟨q1678, q129, by decide +kernel, by decide⟩
theorem mi_X12_number : MI M_X12_number 2 := ⟨q1748, q129, by decide +kernel, by decide⟩
theorem mi_X12_of : MI M_X12_of 2 := ⟨q1551, q129, by decide +kernel, by decide⟩
theorem mi_X12_often : MI M_X12_often 3 := ⟨q1953, q129, by decide +kernel, by decide⟩
theorem mi_X12_ones : MI M_X12_ones 1 := ⟨q1898, q129, by decide +kernel, by decide⟩
theorem mi_X12_openBracket : MI M_X12_openBracket 1 := ⟨q1722, q129, by decide +kernel, by decide⟩
theorem mi_X12_orderPartAt : MI M_X12_orderPartAt 0 := ⟨q1730, q129, by decide +kernel, by decide⟩
theorem mi_X12_orders : MI M_X12_orders 0 := ⟨q1959, q129, by decide +kernel, by decide⟩
theorem mi_X12_owed : MI M_X12_owed 2 := ⟨q1624, q129, by decide +kernel, by decide⟩
theorem mi_X12_owedBy : MI M_X12_owedBy 1 := ⟨q1591, q129, by decide +kernel, by decide⟩
theorem mi_X12_owedByAll : MI M_X12_owedByAll 0 := ⟨q2021, q129, by decide +kernel, by decide⟩
theorem mi_X12_owedTo : MI M_X12_owedTo 1 := ⟨q1583, q129, by decide +kernel, by decide⟩
theorem mi_X12_owes : MI M_X12_owes 2 := ⟨q1587, q129, by decide +kernel, by decide⟩
theorem mi_X12_partAt : MI M_X12_partAt 0 := ⟨q1734, q129, by decide +kernel, by decide⟩
theorem mi_X12_pass : MI M_X12_pass 0 := ⟨q1863, q129, by decide +kernel, by decide⟩
theorem mi_X12_passNow : MI M_X12_passNow 0 := ⟨q1867, q129, by decide +kernel, by decide⟩
theorem mi_X12_person : MI M_X12_person 4 := ⟨q1538, q129, by decide +kernel, by decide⟩
theorem mi_X12_placeBy : MI M_X12_placeBy 2 := ⟨q2004, q129, by decide +kernel, by decide⟩
theorem mi_X12_push : MI M_X12_push 2 := ⟨q1714, q129, by decide +kernel, by decide⟩
theorem mi_X12_putBack : MI M_X12_putBack 1 := ⟨q1506, q129, by decide +kernel, by decide⟩
theorem mi_X12_readExpression : MI M_X12_readExpression 1 := ⟨q1705, q129, by decide +kernel, by decide⟩
theorem mi_X12_readLaw : MI M_X12_readLaw 0 := ⟨q1693, q129, by decide +kernel, by decide⟩
theorem mi_X12_readOrder : MI M_X12_readOrder 0 := ⟨q1963, q129, by decide +kernel, by decide⟩
theorem mi_X12_readPart : MI M_X12_readPart 0 := ⟨q1726, q129, by decide +kernel, by decide⟩
theorem mi_X12_readPlain : MI M_X12_readPlain 0 := ⟨q1709, q129, by decide +kernel, by decide⟩
theorem mi_X12_readSum : MI M_X12_readSum 1 := ⟨q1967, q129, by decide +kernel, by decide⟩
theorem mi_X12_reckon : MI M_X12_reckon 3 := ⟨q1595, q129, by decide +kernel, by decide⟩
theorem mi_X12_reckonAll : MI M_X12_reckonAll 2 := ⟨q1579, q129, by decide +kernel, by decide⟩
theorem mi_X12_remember : MI M_X12_remember 1 := ⟨q1810, q129, by decide +kernel, by decide⟩
theorem mi_X12_rests : MI M_X12_rests 1 := ⟨q1891, q129, by decide +kernel, by decide⟩
theorem mi_X12_ring : MI M_X12_ring 1 := ⟨q1838, q129, by decide +kernel, by decide⟩
theorem mi_X12_round : MI M_X12_round 2 := ⟨q1913, q129, by decide +kernel, by decide⟩
theorem mi_X12_row : MI M_X12_row 0 := ⟨q1642, q129, by decide +kernel, by decide⟩
theorem mi_X12_run : MI M_X12_run 1 := ⟨q1974, q129, by decide +kernel, by decide⟩
theorem mi_X12_seen : MI M_X12_seen 2 := ⟨q1929, q129, by decide +kernel, by decide⟩
theorem mi_X12_setOwed : MI M_X12_setOwed 3 := ⟨q1547, q129, by decide +kernel, by decide⟩
theorem mi_X12_settle : MI M_X12_settle 1 := ⟨q1759, q129, by decide +kernel, by decide⟩
theorem mi_X12_sneeze : MI M_X12_sneeze 1 := ⟨q1818, q129, by decide +kernel, by decide⟩
theorem mi_X12_sneezeIt : MI M_X12_sneezeIt 1 := ⟨q1826, q129, by decide +kernel, by decide⟩
theorem mi_X12_sneezeNow : MI M_X12_sneezeNow 1 := ⟨q1822, q129, by decide +kernel, by decide⟩
theorem mi_X12_sneezesOf : MI M_X12_sneezesOf 1 := ⟨q1559, q129, by decide +kernel, by decide⟩
theorem mi_X12_stand : MI M_X12_stand 2 := ⟨q1883, q129, by decide +kernel, by decide⟩
theorem mi_X12_standOf : MI M_X12_standOf 1 := ⟨q1887, q129, by decide +kernel, by decide⟩
theorem mi_X12_status : MI M_X12_status 0 := ⟨q2027, q129, by decide +kernel, by decide⟩
theorem mi_X12_step : MI M_X12_step 2 := ⟨q1802, q129, by decide +kernel, by decide⟩
theorem mi_X12_stepNow : MI M_X12_stepNow 2 := ⟨q1806, q129, by decide +kernel, by decide⟩
theorem mi_X12_stepsOf : MI M_X12_stepsOf 2 := ⟨q1925, q129, by decide +kernel, by decide⟩
theorem mi_X12_stopped : MI M_X12_stopped 0 := ⟨q1990, q129, by decide +kernel, by decide⟩
theorem mi_X12_sumOf : MI M_X12_sumOf 1 := ⟨q1978, q129, by decide +kernel, by decide⟩
theorem mi_X12_tell : MI M_X12_tell 1 := ⟨q1502, q129, by decide +kernel, by decide⟩
theorem mi_X12_tells : MI M_X12_tells 4 := ⟨q1563, q129, by decide +kernel, by decide⟩
theorem mi_X12_terms : MI M_X12_terms 2 := ⟨q1637, q129, by decide +kernel, by decide⟩
theorem mi_X12_undo : MI M_X12_undo 0 := ⟨q1498, q129, by decide +kernel, by decide⟩
theorem mi_X12_within : MI M_X12_within 3 := ⟨q1600, q129, by decide +kernel, by decide⟩
theorem mi_X1_clearRing : MI M_X1_clearRing 0 := ⟨q1018, q126, by decide +kernel, by decide⟩
theorem mi_X1_init : MI M_X1_init 4 := ⟨q415, q126, by decide +kernel, by decide⟩
theorem mi_X1_letPass : MI M_X1_letPass 0 := ⟨q935, q126, by decide +kernel, by decide⟩
theorem mi_X1_letSneeze : MI M_X1_letSneeze 1 := ⟨q943, q126, by decide +kernel, by decide⟩
theorem mi_X1_release : MI M_X1_release 2 := ⟨q969, q126, by decide +kernel, by decide⟩
theorem mi_X1_takeBack : MI M_X1_takeBack 0 := ⟨q1046, q126, by decide +kernel, by decide⟩
theorem mi_X1_tieAgain : MI M_X1_tieAgain 3 := ⟨q1050, q126, by decide +kernel, by decide⟩
theorem mi_X1_walk : MI M_X1_walk 2 := ⟨q963, q126, by decide +kernel, by decide⟩
theorem mi_X2_beside : MI M_X2_beside 2 := ⟨q1261, q136, by decide +kernel, by decide⟩
theorem mi_X2_draw : MI M_X2_draw 1 := ⟨q1248, q136, by decide +kernel, by decide⟩
theorem mi_X2_init : MI M_X2_init 1 := ⟨q1235, q136, by decide +kernel, by decide⟩
theorem mi_X2_letSneeze : MI M_X2_letSneeze 3 := ⟨q1255, q136, by decide +kernel, by decide⟩
theorem mi_X2_sneezesIn : MI M_X2_sneezesIn 3 := ⟨q1244, q136, by decide +kernel, by decide⟩
theorem mi_X3_ahead : MI M_X3_ahead 3 := ⟨q670, q122, by decide +kernel, by decide⟩
theorem mi_X3_bars : MI M_X3_bars 2 := ⟨q682, q122, by decide +kernel, by decide⟩
theorem mi_X3_blesser : MI M_X3_blesser 2 := ⟨q666, q122, by decide +kernel, by decide⟩
theorem mi_X3_chance : MI M_X3_chance 1 := ⟨q631, q122, by decide +kernel, by decide⟩
theorem mi_X3_dues : MI M_X3_dues 2 := ⟨q953, q122, by decide +kernel, by decide⟩
theorem mi_X3_init : MI M_X3_init 1 := ⟨q349, q122, by decide +kernel, by decide⟩
theorem mi_X3_learn : MI M_X3_learn 3 := ⟨q639, q122, by decide +kernel, by decide⟩
theorem mi_X3_look : MI M_X3_look 1 := ⟨q623, q122, by decide +kernel, by decide⟩
theorem mi_X3_reach : MI M_X3_reach 1 := ⟨q662, q122, by decide +kernel, by decide⟩
theorem mi_X3_tells : MI M_X3_tells 4 := ⟨q635, q122, by decide +kernel, by decide⟩
theorem mi_X3_within : MI M_X3_within 1 := ⟨q649, q122, by decide +kernel, by decide⟩
theorem mi_X4_become : MI M_X4_become 1 := ⟨q910, q124, by decide +kernel, by decide⟩
theorem mi_X4_init : MI M_X4_init 0 := ⟨q387, q124, by decide +kernel, by decide⟩
theorem mi_X4_note : MI M_X4_note 3 := ⟨q939, q124, by decide +kernel, by decide⟩
theorem mi_X5_allGains : MI M_X5_allGains 0 := ⟨q1225, q128, by decide +kernel, by decide⟩
theorem mi_X5_anybodyGoes : MI M_X5_anybodyGoes 0 := ⟨q1106, q128, by decide +kernel, by decide⟩
theorem mi_X5_blesserWith : MI M_X5_blesserWith 3 := ⟨q1189, q128, by decide +kernel, by decide⟩
theorem mi_X5_chanceOf : MI M_X5_chanceOf 3 := ⟨q1212, q128, by decide +kernel, by decide⟩
theorem mi_X5_fewestMasks : MI M_X5_fewestMasks 0 := ⟨q1146, q128, by decide +kernel, by decide⟩
theorem mi_X5_fewestSteps : MI M_X5_fewestSteps 2 := ⟨q1124, q128, by decide +kernel, by decide⟩
theorem mi_X5_findAllRivals : MI M_X5_findAllRivals 1 := ⟨q1181, q128, by decide +kernel, by decide⟩
theorem mi_X5_findBest : MI M_X5_findBest 1 := ⟨q1088, q128, by decide +kernel, by decide⟩
theorem mi_X5_findRivals : MI M_X5_findRivals 1 := ⟨q1069, q128, by decide +kernel, by decide⟩
theorem mi_X5_findSneezeToHear : MI M_X5_findSneezeToHear 2 := ⟨q1197, q128, by decide +kernel, by decide⟩
theorem mi_X5_gainIn : MI M_X5_gainIn 2 := ⟨q1075, q128, by decide +kernel, by decide⟩
theorem mi_X5_init : MI M_X5_init 1 := ⟨q462, q128, by decide +kernel, by decide⟩
theorem mi_X5_isNext : MI M_X5_isNext 3 := ⟨q1138, q128, by decide +kernel, by decide⟩
theorem mi_X5_isPaid : MI M_X5_isPaid 2 := ⟨q1164, q128, by decide +kernel, by decide⟩
theorem mi_X5_lineUp : MI M_X5_lineUp 1 := ⟨q1150, q128, by decide +kernel, by decide⟩
theorem mi_X5_mostAlike : MI M_X5_mostAlike 3 := ⟨q1201, q128, by decide +kernel, by decide⟩
theorem mi_X5_nobodyGains : MI M_X5_nobodyGains 1 := ⟨q1160, q128, by decide +kernel, by decide⟩
theorem mi_X5_open : MI M_X5_open 1 := ⟨q1063, q128, by decide +kernel, by decide⟩
theorem mi_X5_placesBySeen : MI M_X5_placesBySeen 1 := ⟨q1185, q128, by decide +kernel, by decide⟩
theorem mi_X5_roundsToRest : MI M_X5_roundsToRest 0 := ⟨q1097, q128, by decide +kernel, by decide⟩
theorem mi_X5_shortestRound : MI M_X5_shortestRound 1 := ⟨q1120, q128, by decide +kernel, by decide⟩
theorem mi_X5_stepsBy : MI M_X5_stepsBy 3 := ⟨q1129, q128, by decide +kernel, by decide⟩
theorem mi_X5_traceRound : MI M_X5_traceRound 1 := ⟨q1134, q128, by decide +kernel, by decide⟩
theorem mi_X5_wereThere : MI M_X5_wereThere 1 := ⟨q1112, q128, by decide +kernel, by decide⟩
theorem mi_X5_whereAllAre : MI M_X5_whereAllAre 0 := ⟨q1101, q128, by decide +kernel, by decide⟩
theorem mi_X6_advance : MI M_X6_advance 0 := ⟨q756, q119, by decide +kernel, by decide⟩
theorem mi_X6_among : MI M_X6_among 1 := ⟨q769, q119, by decide +kernel, by decide⟩
theorem mi_X6_init : MI M_X6_init 0 := ⟨q248, q119, by decide +kernel, by decide⟩
theorem mi_X6_isSign : MI M_X6_isSign 1 := ⟨q837, q119, by decide +kernel, by decide⟩
theorem mi_X6_isWord : MI M_X6_isWord 1 := ⟨q858, q119, by decide +kernel, by decide⟩
theorem mi_X6_numberTo : MI M_X6_numberTo 1 := ⟨q876, q119, by decide +kernel, by decide⟩
theorem mi_X6_put : MI M_X6_put 1 := ⟨q724, q119, by decide +kernel, by decide⟩
theorem mi_X6_readBoth : MI M_X6_readBoth 0 := ⟨q849, q119, by decide +kernel, by decide⟩
theorem mi_X6_readClause : MI M_X6_readClause 1 := ⟨q763, q119, by decide +kernel, by decide⟩
theorem mi_X6_readComparison : MI M_X6_readComparison 0 := ⟨q862, q119, by decide +kernel, by decide⟩
theorem mi_X6_readInBrackets : MI M_X6_readInBrackets 1 := ⟨q841, q119, by decide +kernel, by decide⟩
theorem mi_X6_readOrder : MI M_X6_readOrder 2 := ⟨q821, q119, by decide +kernel, by decide⟩
theorem mi_X6_readPart : MI M_X6_readPart 0 := ⟨q833, q119, by decide +kernel, by decide⟩
theorem mi_X6_readPlain : MI M_X6_readPlain 0 := ⟨q853, q119, by decide +kernel, by decide⟩
theorem mi_X6_readSum : MI M_X6_readSum 0 := ⟨q825, q119, by decide +kernel, by decide⟩
theorem mi_X6_readTerm : MI M_X6_readTerm 0 := ⟨q829, q119, by decide +kernel, by decide⟩
theorem mi_X6_readTest : MI M_X6_readTest 0 := ⟨q845, q119, by decide +kernel, by decide⟩
theorem mi_X6_readText : MI M_X6_readText 1 := ⟨q752, q119, by decide +kernel, by decide⟩
theorem mi_X6_readTimes : MI M_X6_readTimes 1 := ⟨q886, q119, by decide +kernel, by decide⟩
theorem mi_X6_sortOf : MI M_X6_sortOf 1 := ⟨q759, q119, by decide +kernel, by decide⟩
theorem mi_X7_init : MI M_X7_init 0 := ⟨q355, q123, by decide +kernel, by decide⟩
theorem mi_X7_value : MI M_X7_value 4 := ⟨q643, q123, by decide +kernel, by decide⟩
theorem mi_X8_closes : MI M_X8_closes 4 := ⟨q1025, q125, by decide +kernel, by decide⟩
theorem mi_X8_init : MI M_X8_init 0 := ⟨q403, q125, by decide +kernel, by decide⟩
theorem mi_X8_isAmong : MI M_X8_isAmong 3 := ⟨q1028, q125, by decide +kernel, by decide⟩
theorem mi_X8_least : MI M_X8_least 2 := ⟨q1032, q125, by decide +kernel, by decide⟩
theorem mi_X8_shortest : MI M_X8_shortest 1 := ⟨q1022, q125, by decide +kernel, by decide⟩
theorem mi_X9_emit : MI M_X9_emit 2 := ⟨q866, q120, by decide +kernel, by decide⟩
theorem mi_X9_init : MI M_X9_init 2 := ⟨q254, q120, by decide +kernel, by decide⟩
theorem mi_X9_kept : MI M_X9_kept 0 := ⟨q891, q120, by decide +kernel, by decide⟩
theorem mi_X9_landHere : MI M_X9_landHere 1 := ⟨q871, q120, by decide +kernel, by decide⟩
