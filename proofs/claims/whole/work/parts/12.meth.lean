/-! ===== the methods, their links ===== -/
abbrev zm_X0_init : zF := (yX0_init, cX0_init, 3, none, 1, 20)
abbrev zm_J7_fill_53178 : zF := (yJ7_fill_53178, cJ7_fill_53178, 4, none, 0, 0)
abbrev zm_X0_asGiven : zF := (yX0_asGiven, cX0_asGiven, 1, (some ((.array .int))), 1, 23)
abbrev zm_X0_begin : zF := (yX0_begin, cX0_begin, 2, none, 0, 0)
abbrev zm_X1_isThere : zF := (yX1_isThere, cX1_isThere, 1, (some (.boolean)), 0, 0)
abbrev zm_X1_isPositive : zF := (yX1_isPositive, cX1_isPositive, 1, (some (.boolean)), 0, 0)
abbrev zm_X5_has : zF := (yX5_has, cX5_has, 2, (some (.boolean)), 0, 0)
abbrev zm_X5_isEqual : zF := (yX5_isEqual, cX5_isEqual, 2, (some (.boolean)), 1, 21)
abbrev zm_X8_after : zF := (yX8_after, cX8_after, 6, (some (.int)), 0, 0)
abbrev zm_X5_length : zF := (yX5_length, cX5_length, 2, (some (.int)), 0, 0)
abbrev zm_X0_findPlace : zF := (yX0_findPlace, cX0_findPlace, 6, (some (.boolean)), 1, 25)
abbrev zm_X0_advanceTurn : zF := (yX0_advanceTurn, cX0_advanceTurn, 3, (some (.boolean)), 2, 50)
abbrev zm_X0_advanceFactor : zF := (yX0_advanceFactor, cX0_advanceFactor, 1, (some (.boolean)), 0, 0)
abbrev zm_X0_advance : zF := (yX0_advance, cX0_advance, 1, (some (.boolean)), 3, 72)
abbrev zm_X0_tell : zF := (yX0_tell, cX0_tell, 1, none, 1, 23)
abbrev zm_X7_at : zF := (yX7_at, cX7_at, 2, (some ((.object "ClaimHall$Claim"))), 0, 0)
abbrev zm_X0_nextPhase : zF := (yX0_nextPhase, cX0_nextPhase, 3, none, 1, 21)
abbrev zm_X0_next : zF := (yX0_next, cX0_next, 2, (some (.boolean)), 4, 92)
abbrev zm_X5_init : zF := (yX5_init, cX5_init, 1, none, 1, 20)
abbrev zm_X1_init : zF := (yX1_init, cX1_init, 1, none, 2, 40)
abbrev zm_X1_kind : zF := (yX1_kind, cX1_kind, 2, (some (.int)), 0, 0)
abbrev zm_X1_hasRewritingNumber : zF := (yX1_hasRewritingNumber, cX1_hasRewritingNumber, 2, (some (.boolean)), 0, 0)
abbrev zm_X5_copy : zF := (yX5_copy, cX5_copy, 3, none, 1, 26)
abbrev zm_X8_weightOf : zF := (yX8_weightOf, cX8_weightOf, 2, (some (.int)), 0, 0)
abbrev zm_X6_weigh : zF := (yX6_weigh, cX6_weigh, 6, (some (.int)), 1, 21)
abbrev zm_X1_fill : zF := (yX1_fill, cX1_fill, 7, none, 2, 48)
abbrev zm_X11_alike : zF := (yX11_alike, cX11_alike, 6, (some (.boolean)), 0, 0)
abbrev zm_X6_tally : zF := (yX6_tally, cX6_tally, 7, none, 1, 21)
abbrev zm_X6_settleSurplus : zF := (yX6_settleSurplus, cX6_settleSurplus, 6, none, 0, 0)
abbrev zm_X6_settled : zF := (yX6_settled, cX6_settled, 2, (some (.int)), 0, 0)
abbrev zm_X8_partsOf : zF := (yX8_partsOf, cX8_partsOf, 2, (some (.int)), 0, 0)
abbrev zm_X6_likeParts : zF := (yX6_likeParts, cX6_likeParts, 11, (some (.int)), 1, 25)
abbrev zm_X6_compare : zF := (yX6_compare, cX6_compare, 11, (some (.int)), 2, 55)
abbrev zm_X1_tellRule : zF := (yX1_tellRule, cX1_tellRule, 3, none, 3, 85)
abbrev zm_X1_tellStep : zF := (yX1_tellStep, cX1_tellStep, 4, none, 2, 48)
abbrev zm_X2_init : zF := (yX2_init, cX2_init, 3, none, 1, 20)
abbrev zm_X2_sortSides : zF := (yX2_sortSides, cX2_sortSides, 7, none, 3, 85)
abbrev zm_X5_hasLikeSides : zF := (yX5_hasLikeSides, cX5_hasLikeSides, 6, (some (.boolean)), 1, 25)
abbrev zm_X5_saysAlike : zF := (yX5_saysAlike, cX5_saysAlike, 4, (some (.boolean)), 1, 25)
abbrev zm_X2_goes : zF := (yX2_goes, cX2_goes, 4, (some (.boolean)), 2, 50)
abbrev zm_X5_remove : zF := (yX5_remove, cX5_remove, 4, none, 1, 26)
abbrev zm_X2_numberLetters : zF := (yX2_numberLetters, cX2_numberLetters, 5, none, 1, 23)
abbrev zm_X2_clean : zF := (yX2_clean, cX2_clean, 4, (some (.boolean)), 4, 111)
abbrev zm_X3_init : zF := (yX3_init, cX3_init, 5, none, 1, 20)
abbrev zm_X5_empty : zF := (yX5_empty, cX5_empty, 1, none, 0, 0)
abbrev zm_X9_layFirst : zF := (yX9_layFirst, cX9_layFirst, 2, none, 1, 26)
abbrev zm_X9_laySecond : zF := (yX9_laySecond, cX9_laySecond, 5, none, 0, 0)
abbrev zm_X9_forget : zF := (yX9_forget, cX9_forget, 2, none, 0, 0)
abbrev zm_X9_resting : zF := (yX9_resting, cX9_resting, 5, (some (.int)), 0, 0)
abbrev zm_X9_beginWay : zF := (yX9_beginWay, cX9_beginWay, 3, none, 0, 0)
abbrev zm_X9_nextOnWay : zF := (yX9_nextOnWay, cX9_nextOnWay, 3, (some (.int)), 1, 25)
abbrev zm_X9_isIn : zF := (yX9_isIn, cX9_isIn, 5, (some (.boolean)), 2, 47)
abbrev zm_X9_tell : zF := (yX9_tell, cX9_tell, 3, none, 0, 0)
abbrev zm_X9_meet : zF := (yX9_meet, cX9_meet, 6, (some (.boolean)), 3, 71)
abbrev zm_X9_widen : zF := (yX9_widen, cX9_widen, 11, (some (.boolean)), 4, 96)
abbrev zm_X9_write : zF := (yX9_write, cX9_write, 6, (some (.boolean)), 2, 47)
abbrev zm_X5_take : zF := (yX5_take, cX5_take, 5, (some (.boolean)), 1, 26)
abbrev zm_X3_writeAllBut : zF := (yX3_writeAllBut, cX3_writeAllBut, 6, (some (.boolean)), 3, 72)
abbrev zm_X3_makeClash : zF := (yX3_makeClash, cX3_makeClash, 7, (some (.int)), 5, 126)
abbrev zm_X3_makeFactor : zF := (yX3_makeFactor, cX3_makeFactor, 5, (some (.int)), 5, 126)
abbrev zm_X3_makeDrop : zF := (yX3_makeDrop, cX3_makeDrop, 4, (some (.int)), 5, 126)
abbrev zm_X3_sidesUnderIt : zF := (yX3_sidesUnderIt, cX3_sidesUnderIt, 6, (some (.int)), 3, 85)
abbrev zm_X3_writeTurned : zF := (yX3_writeTurned, cX3_writeTurned, 13, (some (.boolean)), 3, 72)
abbrev zm_X3_makeTurn : zF := (yX3_makeTurn, cX3_makeTurn, 16, (some (.int)), 5, 126)
abbrev zm_X3_make : zF := (yX3_make, cX3_make, 9, (some (.int)), 6, 161)
abbrev zm_X4_init : zF := (yX4_init, cX4_init, 5, none, 1, 20)
abbrev zm_X4_list : zF := (yX4_list, cX4_list, 3, none, 0, 0)
abbrev zm_X4_prepare : zF := (yX4_prepare, cX4_prepare, 3, none, 1, 22)
abbrev zm_X9_matches : zF := (yX9_matches, cX9_matches, 12, (some (.boolean)), 1, 25)
abbrev zm_X9_isTold : zF := (yX9_isTold, cX9_isTold, 5, (some (.boolean)), 0, 0)
abbrev zm_X4_fits : zF := (yX4_fits, cX4_fits, 10, (some (.boolean)), 3, 85)
abbrev zm_X4_note : zF := (yX4_note, cX4_note, 6, none, 0, 0)
abbrev zm_X4_findFirst : zF := (yX4_findFirst, cX4_findFirst, 6, (some (.boolean)), 4, 114)
abbrev zm_X5_replace : zF := (yX5_replace, cX5_replace, 8, (some (.boolean)), 1, 26)
abbrev zm_X4_replace : zF := (yX4_replace, cX4_replace, 4, (some (.boolean)), 2, 53)
abbrev zm_X4_rewrite : zF := (yX4_rewrite, cX4_rewrite, 4, (some (.boolean)), 5, 139)
abbrev zm_X4_again : zF := (yX4_again, cX4_again, 11, (some (.boolean)), 4, 114)
abbrev zm_X5_isTrivial : zF := (yX5_isTrivial, cX5_isTrivial, 4, (some (.boolean)), 2, 50)
abbrev zm_X5_mark : zF := (yX5_mark, cX5_mark, 3, none, 0, 0)
abbrev zm_X5_same : zF := (yX5_same, cX5_same, 3, (some (.boolean)), 1, 25)
abbrev zm_X6_init : zF := (yX6_init, cX6_init, 2, none, 1, 20)
abbrev zm_X7_init : zF := (yX7_init, cX7_init, 1, none, 1, 20)
abbrev zm_X7_add : zF := (yX7_add, cX7_add, 2, (some ((.object "ClaimHall$Claim"))), 3, 60)
abbrev zm_X7_inState : zF := (yX7_inState, cX7_inState, 5, (some (.int)), 1, 21)
abbrev zm_X7_find : zF := (yX7_find, cX7_find, 2, none, 0, 0)
abbrev zm_X7_findNamed : zF := (yX7_findNamed, cX7_findNamed, 4, none, 1, 21)
abbrev zm_X7_markProof : zF := (yX7_markProof, cX7_markProof, 3, none, 2, 44)
abbrev zm_X8_init : zF := (yX8_init, cX8_init, 1, none, 1, 20)
abbrev zm_X8_add : zF := (yX8_add, cX8_add, 4, (some (.int)), 0, 0)
abbrev zm_X8_isSaying : zF := (yX8_isSaying, cX8_isSaying, 2, (some (.boolean)), 0, 0)
abbrev zm_X8_isFunction : zF := (yX8_isFunction, cX8_isFunction, 2, (some (.boolean)), 0, 0)
abbrev zm_X9_init : zF := (yX9_init, cX9_init, 2, none, 1, 23)
abbrev zm_X10_init : zF := (yX10_init, cX10_init, 3, none, 1, 20)
abbrev zm_X10_takes : zF := (yX10_takes, cX10_takes, 6, (some (.boolean)), 2, 56)
abbrev zm_X10_isTakenIn : zF := (yX10_isTakenIn, cX10_isTakenIn, 4, (some (.boolean)), 3, 81)
abbrev zm_X10_putAway : zF := (yX10_putAway, cX10_putAway, 4, none, 3, 81)
abbrev zm_X11_init : zF := (yX11_init, cX11_init, 1, none, 2, 44)
abbrev zm_X11_sign : zF := (yX11_sign, cX11_sign, 4, (some (.int)), 1, 23)
abbrev zm_X11_draft : zF := (yX11_draft, cX11_draft, 2, (some (.int)), 0, 0)
abbrev zm_J9_min_7cf53 : zF := (yJ9_min_7cf53, cJ9_min_7cf53, 2, (some (.int)), 0, 0)
abbrev zm_X11_endOfParts : zF := (yX11_endOfParts, cX11_endOfParts, 7, (some (.int)), 1, 21)
abbrev zm_X11_readDraft : zF := (yX11_readDraft, cX11_readDraft, 7, (some (.int)), 2, 50)
abbrev zm_X11_keep : zF := (yX11_keep, cX11_keep, 4, (some (.int)), 4, 107)
abbrev zm_X11_settle : zF := (yX11_settle, cX11_settle, 4, (some (.int)), 6, 162)
abbrev zm_X11_given : zF := (yX11_given, cX11_given, 2, (some (.int)), 7, 185)
abbrev zm_X11_wipe : zF := (yX11_wipe, cX11_wipe, 2, (some (.int)), 0, 0)
abbrev zm_X11_turns : zF := (yX11_turns, cX11_turns, 3, (some (.int)), 0, 0)
abbrev zm_X11_fuel : zF := (yX11_fuel, cX11_fuel, 3, (some (.int)), 0, 0)
abbrev zm_X11_pick : zF := (yX11_pick, cX11_pick, 5, (some ((.object "ClaimHall$Claim"))), 1, 21)
abbrev zm_X11_hasFuel : zF := (yX11_hasFuel, cX11_hasFuel, 1, (some (.boolean)), 0, 0)
abbrev zm_X11_run : zF := (yX11_run, cX11_run, 5, (some (.int)), 7, 189)
abbrev zm_X11_clear : zF := (yX11_clear, cX11_clear, 2, (some (.int)), 0, 0)
abbrev zm_X11_claim : zF := (yX11_claim, cX11_claim, 4, (some (.int)), 1, 21)
abbrev zm_X11_literal : zF := (yX11_literal, cX11_literal, 6, (some (.int)), 1, 21)
abbrev zm_X11_step : zF := (yX11_step, cX11_step, 4, (some (.int)), 1, 21)
abbrev zm_X11_forge : zF := (yX11_forge, cX11_forge, 5, (some (.int)), 1, 21)
abbrev zm_X11_judge : zF := (yX11_judge, cX11_judge, 4, (some (.int)), 7, 189)
abbrev zm_X11_proof : zF := (yX11_proof, cX11_proof, 4, (some (.int)), 3, 66)
abbrev zm_X11_order : zF := (yX11_order, cX11_order, 9, (some (.int)), 3, 85)
abbrev zm_X11_takesIn : zF := (yX11_takesIn, cX11_takesIn, 5, (some (.int)), 3, 81)
abbrev zm_X11_count : zF := (yX11_count, cX11_count, 2, (some (.int)), 2, 45)
abbrev zm_X11_digestLiterals : zF := (yX11_digestLiterals, cX11_digestLiterals, 10, (some (.long)), 2, 46)
abbrev zm_X11_digestStep : zF := (yX11_digestStep, cX11_digestStep, 8, (some (.long)), 2, 44)
abbrev zm_X11_digest : zF := (yX11_digest, cX11_digest, 5, (some (.long)), 3, 75)
abbrev zm_X12_init : zF := (yX12_init, cX12_init, 1, none, 1, 20)
abbrev zm_X12_in : zF := (yX12_in, cX12_in, 3, (some (.boolean)), 0, 0)
abbrev zm_X12_sign : zF := (yX12_sign, cX12_sign, 4, (some (.int)), 1, 22)
abbrev zm_X12_draft : zF := (yX12_draft, cX12_draft, 2, (some (.int)), 1, 22)
abbrev zm_X12_wipe : zF := (yX12_wipe, cX12_wipe, 2, (some (.int)), 0, 0)
abbrev zm_X12_endOf : zF := (yX12_endOf, cX12_endOf, 5, (some (.int)), 0, 0)
abbrev zm_X12_weightOf : zF := (yX12_weightOf, cX12_weightOf, 6, (some (.int)), 0, 0)
abbrev zm_X12_isLike : zF := (yX12_isLike, cX12_isLike, 6, (some (.boolean)), 0, 0)
abbrev zm_X12_areLike : zF := (yX12_areLike, cX12_areLike, 6, (some (.boolean)), 1, 25)
abbrev zm_X12_hasLetters : zF := (yX12_hasLetters, cX12_hasLetters, 6, (some (.boolean)), 1, 24)
abbrev zm_X12_isGreater : zF := (yX12_isGreater, cX12_isGreater, 10, (some (.boolean)), 2, 50)
abbrev zm_X12_exchange : zF := (yX12_exchange, cX12_exchange, 7, none, 1, 24)
abbrev zm_X12_hasLikeSides : zF := (yX12_hasLikeSides, cX12_hasLikeSides, 3, (some (.boolean)), 2, 50)
abbrev zm_X12_areAlike : zF := (yX12_areAlike, cX12_areAlike, 3, (some (.boolean)), 1, 25)
abbrev zm_X12_clean : zF := (yX12_clean, cX12_clean, 5, none, 3, 79)
abbrev zm_X12_isTrivial : zF := (yX12_isTrivial, cX12_isTrivial, 3, (some (.boolean)), 3, 72)
abbrev zm_X12_unbind : zF := (yX12_unbind, cX12_unbind, 2, none, 0, 0)
abbrev zm_X12_goesOnMatching : zF := (yX12_goesOnMatching, cX12_goesOnMatching, 10, (some (.boolean)), 1, 25)
abbrev zm_X12_save : zF := (yX12_save, cX12_save, 3, none, 0, 0)
abbrev zm_X12_restore : zF := (yX12_restore, cX12_restore, 3, none, 0, 0)
abbrev zm_X12_takes : zF := (yX12_takes, cX12_takes, 15, (some (.boolean)), 2, 54)
abbrev zm_X12_claimTakes : zF := (yX12_claimTakes, cX12_claimTakes, 3, (some (.boolean)), 3, 88)
abbrev zm_X12_claimTakesWork : zF := (yX12_claimTakesWork, cX12_claimTakesWork, 2, (some (.boolean)), 3, 88)
abbrev zm_X12_makeOther : zF := (yX12_makeOther, cX12_makeOther, 7, (some (.int)), 0, 0)
abbrev zm_X12_isEquation : zF := (yX12_isEquation, cX12_isEquation, 2, (some (.boolean)), 0, 0)
abbrev zm_X12_matchesTerm : zF := (yX12_matchesTerm, cX12_matchesTerm, 9, (some (.boolean)), 1, 25)
abbrev zm_X12_rewrites : zF := (yX12_rewrites, cX12_rewrites, 11, (some (.boolean)), 3, 79)
abbrev zm_X12_lays : zF := (yX12_lays, cX12_lays, 8, (some (.boolean)), 1, 24)
abbrev zm_X12_findRewriting : zF := (yX12_findRewriting, cX12_findRewriting, 1, (some (.boolean)), 4, 109)
abbrev zm_X12_finishes : zF := (yX12_finishes, cX12_finishes, 1, (some (.boolean)), 5, 129)
abbrev zm_X12_take : zF := (yX12_take, cX12_take, 5, none, 0, 0)
abbrev zm_X12_standsAt : zF := (yX12_standsAt, cX12_standsAt, 3, (some (.int)), 0, 0)
abbrev zm_X12_occurs : zF := (yX12_occurs, cX12_occurs, 6, (some (.boolean)), 1, 24)
abbrev zm_X12_binds : zF := (yX12_binds, cX12_binds, 5, (some (.boolean)), 2, 49)
abbrev zm_X12_unites : zF := (yX12_unites, cX12_unites, 7, (some (.boolean)), 3, 73)
abbrev zm_X12_put : zF := (yX12_put, cX12_put, 2, none, 0, 0)
abbrev zm_X12_write : zF := (yX12_write, cX12_write, 5, none, 1, 24)
abbrev zm_X12_comes : zF := (yX12_comes, cX12_comes, 3, (some (.boolean)), 0, 0)
abbrev zm_X12_writesAll : zF := (yX12_writesAll, cX12_writesAll, 5, (some (.boolean)), 2, 48)
abbrev zm_X12_chosenOf : zF := (yX12_chosenOf, cX12_chosenOf, 7, (some (.int)), 1, 25)
abbrev zm_X12_isPositive : zF := (yX12_isPositive, cX12_isPositive, 2, (some (.boolean)), 2, 51)
abbrev zm_X12_isLiteral : zF := (yX12_isLiteral, cX12_isLiteral, 3, (some (.boolean)), 1, 22)
abbrev zm_X12_clash : zF := (yX12_clash, cX12_clash, 5, (some (.int)), 4, 99)
abbrev zm_X12_factor : zF := (yX12_factor, cX12_factor, 4, (some (.int)), 4, 99)
abbrev zm_X12_drop : zF := (yX12_drop, cX12_drop, 4, (some (.int)), 4, 99)
abbrev zm_X12_writeTurned : zF := (yX12_writeTurned, cX12_writeTurned, 6, none, 2, 48)
abbrev zm_X12_turnWrites : zF := (yX12_turnWrites, cX12_turnWrites, 8, (some (.boolean)), 3, 73)
abbrev zm_X12_turn : zF := (yX12_turn, cX12_turn, 15, (some (.int)), 4, 100)
abbrev zm_X12_makes : zF := (yX12_makes, cX12_makes, 8, (some (.int)), 5, 134)
abbrev zm_X12_isTakenIn : zF := (yX12_isTakenIn, cX12_isTakenIn, 2, (some (.boolean)), 4, 109)
abbrev zm_X12_layWork : zF := (yX12_layWork, cX12_layWork, 4, none, 0, 0)
abbrev zm_X12_ends : zF := (yX12_ends, cX12_ends, 10, (some (.int)), 6, 149)
abbrev zm_X12_reads : zF := (yX12_reads, cX12_reads, 6, (some (.boolean)), 1, 22)
abbrev zm_X12_given : zF := (yX12_given, cX12_given, 4, (some (.int)), 7, 178)
abbrev zm_X12_turns : zF := (yX12_turns, cX12_turns, 3, (some (.int)), 1, 22)
abbrev zm_X12_fuel : zF := (yX12_fuel, cX12_fuel, 3, (some (.int)), 1, 22)
abbrev zm_X12_tries : zF := (yX12_tries, cX12_tries, 10, none, 7, 178)
abbrev zm_X12_goesOn : zF := (yX12_goesOn, cX12_goesOn, 3, (some (.boolean)), 0, 0)
abbrev zm_X12_clashes : zF := (yX12_clashes, cX12_clashes, 6, none, 8, 207)
abbrev zm_X12_allTurns : zF := (yX12_allTurns, cX12_allTurns, 9, none, 8, 207)
abbrev zm_X12_works : zF := (yX12_works, cX12_works, 4, none, 9, 235)
abbrev zm_X12_weightOfClaim : zF := (yX12_weightOfClaim, cX12_weightOfClaim, 5, (some (.int)), 1, 25)
abbrev zm_X12_pick : zF := (yX12_pick, cX12_pick, 6, (some (.int)), 2, 49)
abbrev zm_X12_run : zF := (yX12_run, cX12_run, 4, (some (.int)), 10, 258)
abbrev zm_X12_clear : zF := (yX12_clear, cX12_clear, 2, (some (.int)), 0, 0)
abbrev zm_X12_hasNumber : zF := (yX12_hasNumber, cX12_hasNumber, 2, (some (.boolean)), 1, 22)
abbrev zm_X12_isClaim : zF := (yX12_isClaim, cX12_isClaim, 2, (some (.boolean)), 1, 22)
abbrev zm_X12_step : zF := (yX12_step, cX12_step, 3, (some (.int)), 2, 43)
abbrev zm_X12_forge : zF := (yX12_forge, cX12_forge, 4, (some (.int)), 2, 43)
abbrev zm_X12_namesEarlier : zF := (yX12_namesEarlier, cX12_namesEarlier, 3, (some (.boolean)), 1, 22)
abbrev zm_X12_makesAgain : zF := (yX12_makesAgain, cX12_makesAgain, 5, (some (.boolean)), 6, 161)
abbrev zm_X12_rewritesAgain : zF := (yX12_rewritesAgain, cX12_rewritesAgain, 9, (some (.boolean)), 4, 109)
abbrev zm_X12_isWork : zF := (yX12_isWork, cX12_isWork, 5, (some (.boolean)), 1, 25)
abbrev zm_X12_judge : zF := (yX12_judge, cX12_judge, 2, (some (.int)), 7, 185)
abbrev zm_X12_names : zF := (yX12_names, cX12_names, 2, none, 2, 43)
abbrev zm_X12_proof : zF := (yX12_proof, cX12_proof, 5, (some (.int)), 3, 64)
abbrev zm_X12_lettersOf : zF := (yX12_lettersOf, cX12_lettersOf, 6, (some (.int)), 0, 0)
abbrev zm_X12_claim : zF := (yX12_claim, cX12_claim, 3, (some (.int)), 2, 51)
abbrev zm_X12_literal : zF := (yX12_literal, cX12_literal, 5, (some (.int)), 2, 44)
abbrev zm_X12_order : zF := (yX12_order, cX12_order, 7, (some (.int)), 3, 79)
abbrev zm_X12_takesIn : zF := (yX12_takesIn, cX12_takesIn, 3, (some (.int)), 4, 110)
abbrev zm_X12_inStatus : zF := (yX12_inStatus, cX12_inStatus, 4, (some (.int)), 0, 0)
abbrev zm_X12_count : zF := (yX12_count, cX12_count, 2, (some (.int)), 1, 23)
abbrev zm_X12_digest : zF := (yX12_digest, cX12_digest, 6, (some (.long)), 3, 73)
theorem zl_X11_12 : zfl RX11 12 11 0 := ⟨(RX11, TX11, 21), rfl, by decide, zTm 466 (by decide +kernel) rfl, rfl⟩
theorem zl_X11_19 : zfl RX11 19 11 1 := ⟨(RX11, TX11, 21), rfl, by decide, zTm 467 (by decide +kernel) rfl, rfl⟩
theorem zl_X11_23 : zfl RX11 23 11 2 := ⟨(RX11, TX11, 21), rfl, by decide, zTm 468 (by decide +kernel) rfl, rfl⟩
theorem zl_X11_30 : zfl RX11 30 11 3 := ⟨(RX11, TX11, 21), rfl, by decide, zTm 469 (by decide +kernel) rfl, rfl⟩
theorem zl_X11_34 : zfl RX11 34 11 4 := ⟨(RX11, TX11, 21), rfl, by decide, zTm 470 (by decide +kernel) rfl, rfl⟩
theorem zl_X11_42 : zfl RX11 42 11 5 := ⟨(RX11, TX11, 21), rfl, by decide, zTm 471 (by decide +kernel) rfl, rfl⟩
theorem zl_X11_49 : zfl RX11 49 11 6 := ⟨(RX11, TX11, 21), rfl, by decide, zTm 472 (by decide +kernel) rfl, rfl⟩
theorem zl_X11_58 : zfl RX11 58 11 7 := ⟨(RX11, TX11, 21), rfl, by decide, zTm 473 (by decide +kernel) rfl, rfl⟩
theorem zl_X11_67 : zfl RX11 67 11 8 := ⟨(RX11, TX11, 21), rfl, by decide, zTm 474 (by decide +kernel) rfl, rfl⟩
theorem zl_X11_76 : zfl RX11 76 11 9 := ⟨(RX11, TX11, 21), rfl, by decide, zTm 475 (by decide +kernel) rfl, rfl⟩
theorem zl_X11_83 : zfl RX11 83 11 10 := ⟨(RX11, TX11, 21), rfl, by decide, zTm 476 (by decide +kernel) rfl, rfl⟩
theorem zl_X11_92 : zfl RX11 92 11 11 := ⟨(RX11, TX11, 21), rfl, by decide, zTm 477 (by decide +kernel) rfl, rfl⟩
theorem zl_X11_96 : zfl RX11 96 11 12 := ⟨(RX11, TX11, 21), rfl, by decide, zTm 478 (by decide +kernel) rfl, rfl⟩
theorem zl_X11_100 : zfl RX11 100 11 13 := ⟨(RX11, TX11, 21), rfl, by decide, zTm 479 (by decide +kernel) rfl, rfl⟩
theorem zl_X11_103 : zfl RX11 103 11 14 := ⟨(RX11, TX11, 21), rfl, by decide, zTm 480 (by decide +kernel) rfl, rfl⟩
theorem zl_X11_106 : zfl RX11 106 11 15 := ⟨(RX11, TX11, 21), rfl, by decide, zTm 481 (by decide +kernel) rfl, rfl⟩
theorem zl_X11_109 : zfl RX11 109 11 16 := ⟨(RX11, TX11, 21), rfl, by decide, zTm 482 (by decide +kernel) rfl, rfl⟩
theorem zl_X11_112 : zfl RX11 112 11 17 := ⟨(RX11, TX11, 21), rfl, by decide, zTm 483 (by decide +kernel) rfl, rfl⟩
theorem zl_X11_115 : zfl RX11 115 11 18 := ⟨(RX11, TX11, 21), rfl, by decide, zTm 484 (by decide +kernel) rfl, rfl⟩
theorem zl_X11_118 : zfl RX11 118 11 19 := ⟨(RX11, TX11, 21), rfl, by decide, zTm 485 (by decide +kernel) rfl, rfl⟩
theorem zl_X11_121 : zfl RX11 121 11 20 := ⟨(RX11, TX11, 21), rfl, by decide, zTm 486 (by decide +kernel) rfl, rfl⟩
theorem zl_X11_124 : zfl RX11 124 7 4 := ⟨(RX7, TX7, 5), rfl, by decide, zTm 166 (by decide +kernel) rfl, rfl⟩
theorem zl_X11_160 : zfl RX11 160 0 2 := ⟨(RX0, TX0, 12), rfl, by decide, zTm 431 (by decide +kernel) rfl, rfl⟩
theorem zl_X11_174 : zfl RX11 174 1 0 := ⟨(RX1, TX1, 14), rfl, by decide, zTm 804 (by decide +kernel) rfl, rfl⟩
theorem zl_X11_179 : zfl RX11 179 5 3 := ⟨(RX5, TX5, 5), rfl, by decide, zTm 219 (by decide +kernel) rfl, rfl⟩
theorem zl_X11_182 : zfl RX11 182 1 8 := ⟨(RX1, TX1, 14), rfl, by decide, zTm 831 (by decide +kernel) rfl, rfl⟩
theorem zl_X11_185 : zfl RX11 185 1 6 := ⟨(RX1, TX1, 14), rfl, by decide, zTm 826 (by decide +kernel) rfl, rfl⟩
theorem zl_X11_188 : zfl RX11 188 1 7 := ⟨(RX1, TX1, 14), rfl, by decide, zTm 829 (by decide +kernel) rfl, rfl⟩
theorem zl_X11_191 : zfl RX11 191 1 9 := ⟨(RX1, TX1, 14), rfl, by decide, zTm 835 (by decide +kernel) rfl, rfl⟩
theorem zl_X11_194 : zfl RX11 194 1 10 := ⟨(RX1, TX1, 14), rfl, by decide, zTm 837 (by decide +kernel) rfl, rfl⟩
theorem zl_X11_202 : zfl RX11 202 5 2 := ⟨(RX5, TX5, 5), rfl, by decide, zTm 209 (by decide +kernel) rfl, rfl⟩
theorem zl_X11_210 : zfl RX11 210 5 0 := ⟨(RX5, TX5, 5), rfl, by decide, zTm 194 (by decide +kernel) rfl, rfl⟩
theorem zl_X11_213 : zfl RX11 213 5 1 := ⟨(RX5, TX5, 5), rfl, by decide, zTm 203 (by decide +kernel) rfl, rfl⟩
theorem zl_X11_216 : zfl RX11 216 1 2 := ⟨(RX1, TX1, 14), rfl, by decide, zTm 809 (by decide +kernel) rfl, rfl⟩
theorem zl_X11_217 : zfl RX11 217 1 4 := ⟨(RX1, TX1, 14), rfl, by decide, zTm 816 (by decide +kernel) rfl, rfl⟩
theorem zl_X11_223 : zfl RX11 223 1 3 := ⟨(RX1, TX1, 14), rfl, by decide, zTm 813 (by decide +kernel) rfl, rfl⟩
theorem zl_X11_232 : zfl RX11 232 1 1 := ⟨(RX1, TX1, 14), rfl, by decide, zTm 806 (by decide +kernel) rfl, rfl⟩
theorem zl_X11_247 : zfl RX11 247 7 1 := ⟨(RX7, TX7, 5), rfl, by decide, zTm 161 (by decide +kernel) rfl, rfl⟩
theorem zl_X11_261 : zfl RX11 261 8 3 := ⟨(RX8, TX8, 4), rfl, by decide, zTm 139 (by decide +kernel) rfl, rfl⟩
theorem zl_X11_317 : zfl RX11 317 4 11 := ⟨(RX4, TX4, 12), rfl, by decide, zTm 377 (by decide +kernel) rfl, rfl⟩
theorem zl_X11_336 : zfl RX11 336 2 4 := ⟨(RX2, TX2, 5), rfl, by decide, zTm 326 (by decide +kernel) rfl, rfl⟩
theorem zl_X0_9 : zfl RX0 9 0 2 := ⟨(RX0, TX0, 12), rfl, by decide, zTm 430 (by decide +kernel) rfl, rfl⟩
theorem zl_X0_15 : zfl RX0 15 0 3 := ⟨(RX0, TX0, 12), rfl, by decide, zTm 432 (by decide +kernel) rfl, rfl⟩
theorem zl_X0_19 : zfl RX0 19 0 4 := ⟨(RX0, TX0, 12), rfl, by decide, zTm 433 (by decide +kernel) rfl, rfl⟩
theorem zl_X0_23 : zfl RX0 23 0 5 := ⟨(RX0, TX0, 12), rfl, by decide, zTm 434 (by decide +kernel) rfl, rfl⟩
theorem zl_X0_26 : zfl RX0 26 0 6 := ⟨(RX0, TX0, 12), rfl, by decide, zTm 435 (by decide +kernel) rfl, rfl⟩
theorem zl_X0_29 : zfl RX0 29 0 7 := ⟨(RX0, TX0, 12), rfl, by decide, zTm 436 (by decide +kernel) rfl, rfl⟩
theorem zl_X0_32 : zfl RX0 32 0 8 := ⟨(RX0, TX0, 12), rfl, by decide, zTm 437 (by decide +kernel) rfl, rfl⟩
theorem zl_X0_35 : zfl RX0 35 0 9 := ⟨(RX0, TX0, 12), rfl, by decide, zTm 438 (by decide +kernel) rfl, rfl⟩
theorem zl_X0_38 : zfl RX0 38 0 10 := ⟨(RX0, TX0, 12), rfl, by decide, zTm 439 (by decide +kernel) rfl, rfl⟩
theorem zl_X0_41 : zfl RX0 41 0 11 := ⟨(RX0, TX0, 12), rfl, by decide, zTm 440 (by decide +kernel) rfl, rfl⟩
theorem zl_X0_44 : zfl RX0 44 0 0 := ⟨(RX0, TX0, 12), rfl, by decide, zTm 428 (by decide +kernel) rfl, rfl⟩
theorem zl_X0_48 : zfl RX0 48 0 1 := ⟨(RX0, TX0, 12), rfl, by decide, zTm 429 (by decide +kernel) rfl, rfl⟩
theorem zl_X0_74 : zfl RX0 74 7 4 := ⟨(RX7, TX7, 5), rfl, by decide, zTm 168 (by decide +kernel) rfl, rfl⟩
theorem zl_X0_83 : zfl RX0 83 1 6 := ⟨(RX1, TX1, 14), rfl, by decide, zTm 825 (by decide +kernel) rfl, rfl⟩
theorem zl_X0_89 : zfl RX0 89 1 9 := ⟨(RX1, TX1, 14), rfl, by decide, zTm 834 (by decide +kernel) rfl, rfl⟩
theorem zl_X0_92 : zfl RX0 92 1 0 := ⟨(RX1, TX1, 14), rfl, by decide, zTm 803 (by decide +kernel) rfl, rfl⟩
theorem zl_X0_96 : zfl RX0 96 5 3 := ⟨(RX5, TX5, 5), rfl, by decide, zTm 217 (by decide +kernel) rfl, rfl⟩
theorem zl_X0_114 : zfl RX0 114 5 1 := ⟨(RX5, TX5, 5), rfl, by decide, zTm 202 (by decide +kernel) rfl, rfl⟩
theorem zl_X0_117 : zfl RX0 117 5 0 := ⟨(RX5, TX5, 5), rfl, by decide, zTm 193 (by decide +kernel) rfl, rfl⟩
theorem zl_X0_130 : zfl RX0 130 1 5 := ⟨(RX1, TX1, 14), rfl, by decide, zTm 821 (by decide +kernel) rfl, rfl⟩
theorem zl_X1_12 : zfl RX1 12 1 0 := ⟨(RX1, TX1, 14), rfl, by decide, zTm 798 (by decide +kernel) rfl, rfl⟩
theorem zl_X1_18 : zfl RX1 18 1 1 := ⟨(RX1, TX1, 14), rfl, by decide, zTm 805 (by decide +kernel) rfl, rfl⟩
theorem zl_X1_21 : zfl RX1 21 1 2 := ⟨(RX1, TX1, 14), rfl, by decide, zTm 807 (by decide +kernel) rfl, rfl⟩
theorem zl_X1_25 : zfl RX1 25 1 3 := ⟨(RX1, TX1, 14), rfl, by decide, zTm 810 (by decide +kernel) rfl, rfl⟩
theorem zl_X1_28 : zfl RX1 28 1 4 := ⟨(RX1, TX1, 14), rfl, by decide, zTm 814 (by decide +kernel) rfl, rfl⟩
theorem zl_X1_32 : zfl RX1 32 1 5 := ⟨(RX1, TX1, 14), rfl, by decide, zTm 817 (by decide +kernel) rfl, rfl⟩
theorem zl_X1_35 : zfl RX1 35 1 6 := ⟨(RX1, TX1, 14), rfl, by decide, zTm 822 (by decide +kernel) rfl, rfl⟩
theorem zl_X1_38 : zfl RX1 38 1 7 := ⟨(RX1, TX1, 14), rfl, by decide, zTm 827 (by decide +kernel) rfl, rfl⟩
theorem zl_X1_41 : zfl RX1 41 1 8 := ⟨(RX1, TX1, 14), rfl, by decide, zTm 830 (by decide +kernel) rfl, rfl⟩
theorem zl_X1_44 : zfl RX1 44 1 9 := ⟨(RX1, TX1, 14), rfl, by decide, zTm 832 (by decide +kernel) rfl, rfl⟩
theorem zl_X1_47 : zfl RX1 47 1 10 := ⟨(RX1, TX1, 14), rfl, by decide, zTm 836 (by decide +kernel) rfl, rfl⟩
theorem zl_X1_50 : zfl RX1 50 1 11 := ⟨(RX1, TX1, 14), rfl, by decide, zTm 838 (by decide +kernel) rfl, rfl⟩
theorem zl_X1_54 : zfl RX1 54 1 12 := ⟨(RX1, TX1, 14), rfl, by decide, zTm 840 (by decide +kernel) rfl, rfl⟩
theorem zl_X1_57 : zfl RX1 57 1 13 := ⟨(RX1, TX1, 14), rfl, by decide, zTm 842 (by decide +kernel) rfl, rfl⟩
theorem zl_X1_64 : zfl RX1 64 5 3 := ⟨(RX5, TX5, 5), rfl, by decide, zTm 216 (by decide +kernel) rfl, rfl⟩
theorem zl_X1_67 : zfl RX1 67 5 0 := ⟨(RX5, TX5, 5), rfl, by decide, zTm 192 (by decide +kernel) rfl, rfl⟩
theorem zl_X1_70 : zfl RX1 70 5 1 := ⟨(RX5, TX5, 5), rfl, by decide, zTm 201 (by decide +kernel) rfl, rfl⟩
theorem zl_X1_79 : zfl RX1 79 5 2 := ⟨(RX5, TX5, 5), rfl, by decide, zTm 207 (by decide +kernel) rfl, rfl⟩
theorem zl_X1_103 : zfl RX1 103 4 11 := ⟨(RX4, TX4, 12), rfl, by decide, zTm 376 (by decide +kernel) rfl, rfl⟩
theorem zl_X1_108 : zfl RX1 108 4 10 := ⟨(RX4, TX4, 12), rfl, by decide, zTm 374 (by decide +kernel) rfl, rfl⟩
theorem zl_X2_9 : zfl RX2 9 2 2 := ⟨(RX2, TX2, 5), rfl, by decide, zTm 323 (by decide +kernel) rfl, rfl⟩
theorem zl_X2_15 : zfl RX2 15 2 3 := ⟨(RX2, TX2, 5), rfl, by decide, zTm 324 (by decide +kernel) rfl, rfl⟩
theorem zl_X2_18 : zfl RX2 18 2 4 := ⟨(RX2, TX2, 5), rfl, by decide, zTm 325 (by decide +kernel) rfl, rfl⟩
theorem zl_X2_22 : zfl RX2 22 2 0 := ⟨(RX2, TX2, 5), rfl, by decide, zTm 321 (by decide +kernel) rfl, rfl⟩
theorem zl_X2_26 : zfl RX2 26 2 1 := ⟨(RX2, TX2, 5), rfl, by decide, zTm 322 (by decide +kernel) rfl, rfl⟩
theorem zl_X2_30 : zfl RX2 30 5 3 := ⟨(RX5, TX5, 5), rfl, by decide, zTm 212 (by decide +kernel) rfl, rfl⟩
theorem zl_X2_55 : zfl RX2 55 5 1 := ⟨(RX5, TX5, 5), rfl, by decide, zTm 198 (by decide +kernel) rfl, rfl⟩
theorem zl_X2_58 : zfl RX2 58 5 0 := ⟨(RX5, TX5, 5), rfl, by decide, zTm 189 (by decide +kernel) rfl, rfl⟩
theorem zl_X2_79 : zfl RX2 79 5 2 := ⟨(RX5, TX5, 5), rfl, by decide, zTm 206 (by decide +kernel) rfl, rfl⟩
theorem zl_X3_9 : zfl RX3 9 3 0 := ⟨(RX3, TX3, 4), rfl, by decide, zTm 409 (by decide +kernel) rfl, rfl⟩
theorem zl_X3_15 : zfl RX3 15 3 1 := ⟨(RX3, TX3, 4), rfl, by decide, zTm 410 (by decide +kernel) rfl, rfl⟩
theorem zl_X3_19 : zfl RX3 19 3 2 := ⟨(RX3, TX3, 4), rfl, by decide, zTm 411 (by decide +kernel) rfl, rfl⟩
theorem zl_X3_23 : zfl RX3 23 3 3 := ⟨(RX3, TX3, 4), rfl, by decide, zTm 412 (by decide +kernel) rfl, rfl⟩
theorem zl_X3_67 : zfl RX3 67 1 0 := ⟨(RX1, TX1, 14), rfl, by decide, zTm 799 (by decide +kernel) rfl, rfl⟩
theorem zl_X3_75 : zfl RX3 75 1 9 := ⟨(RX1, TX1, 14), rfl, by decide, zTm 833 (by decide +kernel) rfl, rfl⟩
theorem zl_X3_79 : zfl RX3 79 5 1 := ⟨(RX5, TX5, 5), rfl, by decide, zTm 199 (by decide +kernel) rfl, rfl⟩
theorem zl_X3_82 : zfl RX3 82 5 0 := ⟨(RX5, TX5, 5), rfl, by decide, zTm 191 (by decide +kernel) rfl, rfl⟩
theorem zl_X3_123 : zfl RX3 123 9 14 := ⟨(RX9, TX9, 15), rfl, by decide, zTm 282 (by decide +kernel) rfl, rfl⟩
theorem zl_X3_129 : zfl RX3 129 9 13 := ⟨(RX9, TX9, 15), rfl, by decide, zTm 280 (by decide +kernel) rfl, rfl⟩
theorem zl_X3_138 : zfl RX3 138 5 3 := ⟨(RX5, TX5, 5), rfl, by decide, zTm 218 (by decide +kernel) rfl, rfl⟩
theorem zl_X3_141 : zfl RX3 141 5 2 := ⟨(RX5, TX5, 5), rfl, by decide, zTm 208 (by decide +kernel) rfl, rfl⟩
theorem zl_X4_9 : zfl RX4 9 4 4 := ⟨(RX4, TX4, 12), rfl, by decide, zTm 367 (by decide +kernel) rfl, rfl⟩
theorem zl_X4_15 : zfl RX4 15 4 5 := ⟨(RX4, TX4, 12), rfl, by decide, zTm 368 (by decide +kernel) rfl, rfl⟩
theorem zl_X4_18 : zfl RX4 18 4 6 := ⟨(RX4, TX4, 12), rfl, by decide, zTm 369 (by decide +kernel) rfl, rfl⟩
theorem zl_X4_21 : zfl RX4 21 4 7 := ⟨(RX4, TX4, 12), rfl, by decide, zTm 370 (by decide +kernel) rfl, rfl⟩
theorem zl_X4_25 : zfl RX4 25 4 8 := ⟨(RX4, TX4, 12), rfl, by decide, zTm 371 (by decide +kernel) rfl, rfl⟩
theorem zl_X4_28 : zfl RX4 28 4 9 := ⟨(RX4, TX4, 12), rfl, by decide, zTm 372 (by decide +kernel) rfl, rfl⟩
theorem zl_X4_31 : zfl RX4 31 4 10 := ⟨(RX4, TX4, 12), rfl, by decide, zTm 373 (by decide +kernel) rfl, rfl⟩
theorem zl_X4_34 : zfl RX4 34 4 11 := ⟨(RX4, TX4, 12), rfl, by decide, zTm 375 (by decide +kernel) rfl, rfl⟩
theorem zl_X4_37 : zfl RX4 37 4 0 := ⟨(RX4, TX4, 12), rfl, by decide, zTm 363 (by decide +kernel) rfl, rfl⟩
theorem zl_X4_41 : zfl RX4 41 4 1 := ⟨(RX4, TX4, 12), rfl, by decide, zTm 364 (by decide +kernel) rfl, rfl⟩
theorem zl_X4_45 : zfl RX4 45 4 2 := ⟨(RX4, TX4, 12), rfl, by decide, zTm 365 (by decide +kernel) rfl, rfl⟩
theorem zl_X4_49 : zfl RX4 49 4 3 := ⟨(RX4, TX4, 12), rfl, by decide, zTm 366 (by decide +kernel) rfl, rfl⟩
theorem zl_X4_53 : zfl RX4 53 7 4 := ⟨(RX7, TX7, 5), rfl, by decide, zTm 165 (by decide +kernel) rfl, rfl⟩
theorem zl_X4_68 : zfl RX4 68 1 11 := ⟨(RX1, TX1, 14), rfl, by decide, zTm 839 (by decide +kernel) rfl, rfl⟩
theorem zl_X4_76 : zfl RX4 76 1 13 := ⟨(RX1, TX1, 14), rfl, by decide, zTm 843 (by decide +kernel) rfl, rfl⟩
theorem zl_X4_79 : zfl RX4 79 1 5 := ⟨(RX1, TX1, 14), rfl, by decide, zTm 818 (by decide +kernel) rfl, rfl⟩
theorem zl_X4_82 : zfl RX4 82 1 0 := ⟨(RX1, TX1, 14), rfl, by decide, zTm 801 (by decide +kernel) rfl, rfl⟩
theorem zl_X4_86 : zfl RX4 86 5 0 := ⟨(RX5, TX5, 5), rfl, by decide, zTm 190 (by decide +kernel) rfl, rfl⟩
theorem zl_X4_91 : zfl RX4 91 1 12 := ⟨(RX1, TX1, 14), rfl, by decide, zTm 841 (by decide +kernel) rfl, rfl⟩
theorem zl_X4_110 : zfl RX4 110 5 3 := ⟨(RX5, TX5, 5), rfl, by decide, zTm 214 (by decide +kernel) rfl, rfl⟩
theorem zl_X4_113 : zfl RX4 113 5 1 := ⟨(RX5, TX5, 5), rfl, by decide, zTm 200 (by decide +kernel) rfl, rfl⟩
theorem zl_X4_130 : zfl RX4 130 9 13 := ⟨(RX9, TX9, 15), rfl, by decide, zTm 279 (by decide +kernel) rfl, rfl⟩
theorem zl_X4_135 : zfl RX4 135 9 14 := ⟨(RX9, TX9, 15), rfl, by decide, zTm 283 (by decide +kernel) rfl, rfl⟩
theorem zl_X4_170 : zfl RX4 170 1 3 := ⟨(RX1, TX1, 14), rfl, by decide, zTm 812 (by decide +kernel) rfl, rfl⟩
theorem zl_X5_9 : zfl RX5 9 5 0 := ⟨(RX5, TX5, 5), rfl, by decide, zTm 186 (by decide +kernel) rfl, rfl⟩
theorem zl_X5_15 : zfl RX5 15 5 1 := ⟨(RX5, TX5, 5), rfl, by decide, zTm 195 (by decide +kernel) rfl, rfl⟩
theorem zl_X5_18 : zfl RX5 18 5 2 := ⟨(RX5, TX5, 5), rfl, by decide, zTm 204 (by decide +kernel) rfl, rfl⟩
theorem zl_X5_22 : zfl RX5 22 5 3 := ⟨(RX5, TX5, 5), rfl, by decide, zTm 210 (by decide +kernel) rfl, rfl⟩
theorem zl_X5_26 : zfl RX5 26 5 4 := ⟨(RX5, TX5, 5), rfl, by decide, zTm 220 (by decide +kernel) rfl, rfl⟩
theorem zl_X6_9 : zfl RX6 9 6 1 := ⟨(RX6, TX6, 5), rfl, by decide, zTm 240 (by decide +kernel) rfl, rfl⟩
theorem zl_X6_15 : zfl RX6 15 6 2 := ⟨(RX6, TX6, 5), rfl, by decide, zTm 241 (by decide +kernel) rfl, rfl⟩
theorem zl_X6_19 : zfl RX6 19 6 3 := ⟨(RX6, TX6, 5), rfl, by decide, zTm 242 (by decide +kernel) rfl, rfl⟩
theorem zl_X6_23 : zfl RX6 23 6 4 := ⟨(RX6, TX6, 5), rfl, by decide, zTm 243 (by decide +kernel) rfl, rfl⟩
theorem zl_X6_26 : zfl RX6 26 6 0 := ⟨(RX6, TX6, 5), rfl, by decide, zTm 239 (by decide +kernel) rfl, rfl⟩
theorem zl_X7_11 : zfl RX7 11 7 0 := ⟨(RX7, TX7, 5), rfl, by decide, zTm 159 (by decide +kernel) rfl, rfl⟩
theorem zl_X7_17 : zfl RX7 17 7 1 := ⟨(RX7, TX7, 5), rfl, by decide, zTm 160 (by decide +kernel) rfl, rfl⟩
theorem zl_X7_21 : zfl RX7 21 7 2 := ⟨(RX7, TX7, 5), rfl, by decide, zTm 162 (by decide +kernel) rfl, rfl⟩
theorem zl_X7_25 : zfl RX7 25 7 3 := ⟨(RX7, TX7, 5), rfl, by decide, zTm 163 (by decide +kernel) rfl, rfl⟩
theorem zl_X7_29 : zfl RX7 29 7 4 := ⟨(RX7, TX7, 5), rfl, by decide, zTm 164 (by decide +kernel) rfl, rfl⟩
theorem zl_X7_33 : zfl RX7 33 1 5 := ⟨(RX1, TX1, 14), rfl, by decide, zTm 819 (by decide +kernel) rfl, rfl⟩
theorem zl_X7_40 : zfl RX7 40 1 6 := ⟨(RX1, TX1, 14), rfl, by decide, zTm 823 (by decide +kernel) rfl, rfl⟩
theorem zl_X7_43 : zfl RX7 43 1 0 := ⟨(RX1, TX1, 14), rfl, by decide, zTm 802 (by decide +kernel) rfl, rfl⟩
theorem zl_X7_47 : zfl RX7 47 5 3 := ⟨(RX5, TX5, 5), rfl, by decide, zTm 215 (by decide +kernel) rfl, rfl⟩
theorem zl_X7_67 : zfl RX7 67 1 2 := ⟨(RX1, TX1, 14), rfl, by decide, zTm 808 (by decide +kernel) rfl, rfl⟩
theorem zl_X7_73 : zfl RX7 73 1 4 := ⟨(RX1, TX1, 14), rfl, by decide, zTm 815 (by decide +kernel) rfl, rfl⟩
theorem zl_X7_76 : zfl RX7 76 1 3 := ⟨(RX1, TX1, 14), rfl, by decide, zTm 811 (by decide +kernel) rfl, rfl⟩
theorem zl_X8_9 : zfl RX8 9 8 0 := ⟨(RX8, TX8, 4), rfl, by decide, zTm 135 (by decide +kernel) rfl, rfl⟩
theorem zl_X8_15 : zfl RX8 15 8 1 := ⟨(RX8, TX8, 4), rfl, by decide, zTm 136 (by decide +kernel) rfl, rfl⟩
theorem zl_X8_19 : zfl RX8 19 8 2 := ⟨(RX8, TX8, 4), rfl, by decide, zTm 137 (by decide +kernel) rfl, rfl⟩
theorem zl_X8_22 : zfl RX8 22 8 3 := ⟨(RX8, TX8, 4), rfl, by decide, zTm 138 (by decide +kernel) rfl, rfl⟩
theorem zl_X9_9 : zfl RX9 9 9 1 := ⟨(RX9, TX9, 15), rfl, by decide, zTm 265 (by decide +kernel) rfl, rfl⟩
theorem zl_X9_15 : zfl RX9 15 9 2 := ⟨(RX9, TX9, 15), rfl, by decide, zTm 266 (by decide +kernel) rfl, rfl⟩
theorem zl_X9_18 : zfl RX9 18 9 3 := ⟨(RX9, TX9, 15), rfl, by decide, zTm 267 (by decide +kernel) rfl, rfl⟩
theorem zl_X9_21 : zfl RX9 21 9 4 := ⟨(RX9, TX9, 15), rfl, by decide, zTm 268 (by decide +kernel) rfl, rfl⟩
theorem zl_X9_25 : zfl RX9 25 9 5 := ⟨(RX9, TX9, 15), rfl, by decide, zTm 270 (by decide +kernel) rfl, rfl⟩
theorem zl_X9_28 : zfl RX9 28 9 6 := ⟨(RX9, TX9, 15), rfl, by decide, zTm 271 (by decide +kernel) rfl, rfl⟩
theorem zl_X9_31 : zfl RX9 31 9 7 := ⟨(RX9, TX9, 15), rfl, by decide, zTm 272 (by decide +kernel) rfl, rfl⟩
theorem zl_X9_34 : zfl RX9 34 9 8 := ⟨(RX9, TX9, 15), rfl, by decide, zTm 273 (by decide +kernel) rfl, rfl⟩
theorem zl_X9_37 : zfl RX9 37 9 9 := ⟨(RX9, TX9, 15), rfl, by decide, zTm 274 (by decide +kernel) rfl, rfl⟩
theorem zl_X9_40 : zfl RX9 40 9 10 := ⟨(RX9, TX9, 15), rfl, by decide, zTm 275 (by decide +kernel) rfl, rfl⟩
theorem zl_X9_43 : zfl RX9 43 9 11 := ⟨(RX9, TX9, 15), rfl, by decide, zTm 276 (by decide +kernel) rfl, rfl⟩
theorem zl_X9_46 : zfl RX9 46 9 12 := ⟨(RX9, TX9, 15), rfl, by decide, zTm 277 (by decide +kernel) rfl, rfl⟩
theorem zl_X9_49 : zfl RX9 49 9 13 := ⟨(RX9, TX9, 15), rfl, by decide, zTm 278 (by decide +kernel) rfl, rfl⟩
theorem zl_X9_52 : zfl RX9 52 9 14 := ⟨(RX9, TX9, 15), rfl, by decide, zTm 281 (by decide +kernel) rfl, rfl⟩
theorem zl_X9_55 : zfl RX9 55 9 0 := ⟨(RX9, TX9, 15), rfl, by decide, zTm 264 (by decide +kernel) rfl, rfl⟩
theorem zl_X9_65 : zfl RX9 65 5 0 := ⟨(RX5, TX5, 5), rfl, by decide, zTm 187 (by decide +kernel) rfl, rfl⟩
theorem zl_X9_70 : zfl RX9 70 5 1 := ⟨(RX5, TX5, 5), rfl, by decide, zTm 196 (by decide +kernel) rfl, rfl⟩
theorem zl_X9_73 : zfl RX9 73 5 3 := ⟨(RX5, TX5, 5), rfl, by decide, zTm 213 (by decide +kernel) rfl, rfl⟩
theorem zl_X10_9 : zfl RX10 9 10 2 := ⟨(RX10, TX10, 4), rfl, by decide, zTm 346 (by decide +kernel) rfl, rfl⟩
theorem zl_X10_15 : zfl RX10 15 10 3 := ⟨(RX10, TX10, 4), rfl, by decide, zTm 347 (by decide +kernel) rfl, rfl⟩
theorem zl_X10_18 : zfl RX10 18 10 0 := ⟨(RX10, TX10, 4), rfl, by decide, zTm 344 (by decide +kernel) rfl, rfl⟩
theorem zl_X10_22 : zfl RX10 22 10 1 := ⟨(RX10, TX10, 4), rfl, by decide, zTm 345 (by decide +kernel) rfl, rfl⟩
theorem zl_X10_26 : zfl RX10 26 5 3 := ⟨(RX5, TX5, 5), rfl, by decide, zTm 211 (by decide +kernel) rfl, rfl⟩
theorem zl_X10_32 : zfl RX10 32 5 4 := ⟨(RX5, TX5, 5), rfl, by decide, zTm 221 (by decide +kernel) rfl, rfl⟩
theorem zl_X10_42 : zfl RX10 42 5 2 := ⟨(RX5, TX5, 5), rfl, by decide, zTm 205 (by decide +kernel) rfl, rfl⟩
theorem zl_X10_46 : zfl RX10 46 5 0 := ⟨(RX5, TX5, 5), rfl, by decide, zTm 188 (by decide +kernel) rfl, rfl⟩
theorem zl_X10_49 : zfl RX10 49 5 1 := ⟨(RX5, TX5, 5), rfl, by decide, zTm 197 (by decide +kernel) rfl, rfl⟩
theorem zl_X10_56 : zfl RX10 56 9 4 := ⟨(RX9, TX9, 15), rfl, by decide, zTm 269 (by decide +kernel) rfl, rfl⟩
theorem zl_X10_59 : zfl RX10 59 7 4 := ⟨(RX7, TX7, 5), rfl, by decide, zTm 167 (by decide +kernel) rfl, rfl⟩
theorem zl_X10_74 : zfl RX10 74 1 0 := ⟨(RX1, TX1, 14), rfl, by decide, zTm 800 (by decide +kernel) rfl, rfl⟩
theorem zl_X10_82 : zfl RX10 82 1 6 := ⟨(RX1, TX1, 14), rfl, by decide, zTm 824 (by decide +kernel) rfl, rfl⟩
theorem zl_X10_85 : zfl RX10 85 1 5 := ⟨(RX1, TX1, 14), rfl, by decide, zTm 820 (by decide +kernel) rfl, rfl⟩
theorem zl_X10_88 : zfl RX10 88 1 7 := ⟨(RX1, TX1, 14), rfl, by decide, zTm 828 (by decide +kernel) rfl, rfl⟩
theorem zl_X12_7 : zfl RX12 7 12 0 := ⟨(RX12, TX12, 61), rfl, by decide, zTm 1137 (by decide +kernel) rfl, rfl⟩
theorem zl_X12_13 : zfl RX12 13 12 1 := ⟨(RX12, TX12, 61), rfl, by decide, zTm 1138 (by decide +kernel) rfl, rfl⟩
theorem zl_X12_17 : zfl RX12 17 12 2 := ⟨(RX12, TX12, 61), rfl, by decide, zTm 1139 (by decide +kernel) rfl, rfl⟩
theorem zl_X12_21 : zfl RX12 21 12 3 := ⟨(RX12, TX12, 61), rfl, by decide, zTm 1140 (by decide +kernel) rfl, rfl⟩
theorem zl_X12_24 : zfl RX12 24 12 5 := ⟨(RX12, TX12, 61), rfl, by decide, zTm 1142 (by decide +kernel) rfl, rfl⟩
theorem zl_X12_27 : zfl RX12 27 12 7 := ⟨(RX12, TX12, 61), rfl, by decide, zTm 1144 (by decide +kernel) rfl, rfl⟩
theorem zl_X12_30 : zfl RX12 30 12 8 := ⟨(RX12, TX12, 61), rfl, by decide, zTm 1145 (by decide +kernel) rfl, rfl⟩
theorem zl_X12_33 : zfl RX12 33 12 9 := ⟨(RX12, TX12, 61), rfl, by decide, zTm 1146 (by decide +kernel) rfl, rfl⟩
theorem zl_X12_36 : zfl RX12 36 12 10 := ⟨(RX12, TX12, 61), rfl, by decide, zTm 1147 (by decide +kernel) rfl, rfl⟩
theorem zl_X12_39 : zfl RX12 39 12 11 := ⟨(RX12, TX12, 61), rfl, by decide, zTm 1148 (by decide +kernel) rfl, rfl⟩
theorem zl_X12_42 : zfl RX12 42 12 12 := ⟨(RX12, TX12, 61), rfl, by decide, zTm 1149 (by decide +kernel) rfl, rfl⟩
theorem zl_X12_45 : zfl RX12 45 12 13 := ⟨(RX12, TX12, 61), rfl, by decide, zTm 1150 (by decide +kernel) rfl, rfl⟩
theorem zl_X12_48 : zfl RX12 48 12 14 := ⟨(RX12, TX12, 61), rfl, by decide, zTm 1151 (by decide +kernel) rfl, rfl⟩
theorem zl_X12_51 : zfl RX12 51 12 15 := ⟨(RX12, TX12, 61), rfl, by decide, zTm 1152 (by decide +kernel) rfl, rfl⟩
theorem zl_X12_54 : zfl RX12 54 12 16 := ⟨(RX12, TX12, 61), rfl, by decide, zTm 1153 (by decide +kernel) rfl, rfl⟩
theorem zl_X12_57 : zfl RX12 57 12 17 := ⟨(RX12, TX12, 61), rfl, by decide, zTm 1154 (by decide +kernel) rfl, rfl⟩
theorem zl_X12_60 : zfl RX12 60 12 18 := ⟨(RX12, TX12, 61), rfl, by decide, zTm 1155 (by decide +kernel) rfl, rfl⟩
theorem zl_X12_63 : zfl RX12 63 12 19 := ⟨(RX12, TX12, 61), rfl, by decide, zTm 1156 (by decide +kernel) rfl, rfl⟩
theorem zl_X12_66 : zfl RX12 66 12 20 := ⟨(RX12, TX12, 61), rfl, by decide, zTm 1157 (by decide +kernel) rfl, rfl⟩
theorem zl_X12_69 : zfl RX12 69 12 21 := ⟨(RX12, TX12, 61), rfl, by decide, zTm 1158 (by decide +kernel) rfl, rfl⟩
theorem zl_X12_72 : zfl RX12 72 12 22 := ⟨(RX12, TX12, 61), rfl, by decide, zTm 1159 (by decide +kernel) rfl, rfl⟩
theorem zl_X12_75 : zfl RX12 75 12 23 := ⟨(RX12, TX12, 61), rfl, by decide, zTm 1160 (by decide +kernel) rfl, rfl⟩
theorem zl_X12_78 : zfl RX12 78 12 25 := ⟨(RX12, TX12, 61), rfl, by decide, zTm 1162 (by decide +kernel) rfl, rfl⟩
theorem zl_X12_81 : zfl RX12 81 12 26 := ⟨(RX12, TX12, 61), rfl, by decide, zTm 1163 (by decide +kernel) rfl, rfl⟩
theorem zl_X12_84 : zfl RX12 84 12 27 := ⟨(RX12, TX12, 61), rfl, by decide, zTm 1164 (by decide +kernel) rfl, rfl⟩
theorem zl_X12_87 : zfl RX12 87 12 29 := ⟨(RX12, TX12, 61), rfl, by decide, zTm 1166 (by decide +kernel) rfl, rfl⟩
theorem zl_X12_90 : zfl RX12 90 12 30 := ⟨(RX12, TX12, 61), rfl, by decide, zTm 1167 (by decide +kernel) rfl, rfl⟩
theorem zl_X12_93 : zfl RX12 93 12 31 := ⟨(RX12, TX12, 61), rfl, by decide, zTm 1168 (by decide +kernel) rfl, rfl⟩
theorem zl_X12_96 : zfl RX12 96 12 32 := ⟨(RX12, TX12, 61), rfl, by decide, zTm 1169 (by decide +kernel) rfl, rfl⟩
theorem zl_X12_99 : zfl RX12 99 12 33 := ⟨(RX12, TX12, 61), rfl, by decide, zTm 1170 (by decide +kernel) rfl, rfl⟩
theorem zl_X12_102 : zfl RX12 102 12 34 := ⟨(RX12, TX12, 61), rfl, by decide, zTm 1171 (by decide +kernel) rfl, rfl⟩
theorem zl_X12_105 : zfl RX12 105 12 41 := ⟨(RX12, TX12, 61), rfl, by decide, zTm 1178 (by decide +kernel) rfl, rfl⟩
theorem zl_X12_108 : zfl RX12 108 12 46 := ⟨(RX12, TX12, 61), rfl, by decide, zTm 1183 (by decide +kernel) rfl, rfl⟩
theorem zl_X12_111 : zfl RX12 111 12 47 := ⟨(RX12, TX12, 61), rfl, by decide, zTm 1184 (by decide +kernel) rfl, rfl⟩
theorem zl_X12_114 : zfl RX12 114 12 48 := ⟨(RX12, TX12, 61), rfl, by decide, zTm 1185 (by decide +kernel) rfl, rfl⟩
theorem zl_X12_117 : zfl RX12 117 12 49 := ⟨(RX12, TX12, 61), rfl, by decide, zTm 1186 (by decide +kernel) rfl, rfl⟩
theorem zl_X12_120 : zfl RX12 120 12 50 := ⟨(RX12, TX12, 61), rfl, by decide, zTm 1187 (by decide +kernel) rfl, rfl⟩
theorem zl_X12_123 : zfl RX12 123 12 51 := ⟨(RX12, TX12, 61), rfl, by decide, zTm 1188 (by decide +kernel) rfl, rfl⟩
theorem zl_X12_126 : zfl RX12 126 12 53 := ⟨(RX12, TX12, 61), rfl, by decide, zTm 1190 (by decide +kernel) rfl, rfl⟩
theorem zl_X12_129 : zfl RX12 129 12 57 := ⟨(RX12, TX12, 61), rfl, by decide, zTm 1194 (by decide +kernel) rfl, rfl⟩
theorem zl_X12_132 : zfl RX12 132 12 58 := ⟨(RX12, TX12, 61), rfl, by decide, zTm 1195 (by decide +kernel) rfl, rfl⟩
theorem zl_X12_135 : zfl RX12 135 12 59 := ⟨(RX12, TX12, 61), rfl, by decide, zTm 1196 (by decide +kernel) rfl, rfl⟩
theorem zl_X12_142 : zfl RX12 142 12 6 := ⟨(RX12, TX12, 61), rfl, by decide, zTm 1143 (by decide +kernel) rfl, rfl⟩
theorem zl_X12_145 : zfl RX12 145 12 4 := ⟨(RX12, TX12, 61), rfl, by decide, zTm 1141 (by decide +kernel) rfl, rfl⟩
theorem zl_X12_167 : zfl RX12 167 12 24 := ⟨(RX12, TX12, 61), rfl, by decide, zTm 1161 (by decide +kernel) rfl, rfl⟩
theorem zl_X12_185 : zfl RX12 185 12 28 := ⟨(RX12, TX12, 61), rfl, by decide, zTm 1165 (by decide +kernel) rfl, rfl⟩
theorem zl_X12_212 : zfl RX12 212 12 35 := ⟨(RX12, TX12, 61), rfl, by decide, zTm 1172 (by decide +kernel) rfl, rfl⟩
theorem zl_X12_215 : zfl RX12 215 12 38 := ⟨(RX12, TX12, 61), rfl, by decide, zTm 1175 (by decide +kernel) rfl, rfl⟩
theorem zl_X12_218 : zfl RX12 218 12 39 := ⟨(RX12, TX12, 61), rfl, by decide, zTm 1176 (by decide +kernel) rfl, rfl⟩
theorem zl_X12_221 : zfl RX12 221 12 36 := ⟨(RX12, TX12, 61), rfl, by decide, zTm 1173 (by decide +kernel) rfl, rfl⟩
theorem zl_X12_224 : zfl RX12 224 12 37 := ⟨(RX12, TX12, 61), rfl, by decide, zTm 1174 (by decide +kernel) rfl, rfl⟩
theorem zl_X12_233 : zfl RX12 233 12 40 := ⟨(RX12, TX12, 61), rfl, by decide, zTm 1177 (by decide +kernel) rfl, rfl⟩
theorem zl_X12_246 : zfl RX12 246 12 42 := ⟨(RX12, TX12, 61), rfl, by decide, zTm 1179 (by decide +kernel) rfl, rfl⟩
theorem zl_X12_259 : zfl RX12 259 12 52 := ⟨(RX12, TX12, 61), rfl, by decide, zTm 1189 (by decide +kernel) rfl, rfl⟩
theorem zl_X12_319 : zfl RX12 319 12 43 := ⟨(RX12, TX12, 61), rfl, by decide, zTm 1180 (by decide +kernel) rfl, rfl⟩
theorem zl_X12_328 : zfl RX12 328 12 44 := ⟨(RX12, TX12, 61), rfl, by decide, zTm 1181 (by decide +kernel) rfl, rfl⟩
theorem zl_X12_337 : zfl RX12 337 12 54 := ⟨(RX12, TX12, 61), rfl, by decide, zTm 1191 (by decide +kernel) rfl, rfl⟩
theorem zl_X12_340 : zfl RX12 340 12 56 := ⟨(RX12, TX12, 61), rfl, by decide, zTm 1193 (by decide +kernel) rfl, rfl⟩
theorem zl_X12_353 : zfl RX12 353 12 45 := ⟨(RX12, TX12, 61), rfl, by decide, zTm 1182 (by decide +kernel) rfl, rfl⟩
theorem zl_X12_368 : zfl RX12 368 12 55 := ⟨(RX12, TX12, 61), rfl, by decide, zTm 1192 (by decide +kernel) rfl, rfl⟩
theorem zl_X12_399 : zfl RX12 399 12 60 := ⟨(RX12, TX12, 61), rfl, by decide, zTm 1197 (by decide +kernel) rfl, rfl⟩
theorem zw_X11_12 : zfw RX11 12 11 0 1 true := ⟨(RX11, TX11, 21), rfl, by decide, zTm 466 (by decide +kernel) rfl, rfl, rfl, Or.inl ⟨_, rfl⟩, rfl⟩
theorem zw_X11_19 : zfw RX11 19 11 1 1 true := ⟨(RX11, TX11, 21), rfl, by decide, zTm 467 (by decide +kernel) rfl, rfl, rfl, Or.inl ⟨_, rfl⟩, rfl⟩
theorem zw_X11_23 : zfw RX11 23 11 2 1 true := ⟨(RX11, TX11, 21), rfl, by decide, zTm 468 (by decide +kernel) rfl, rfl, rfl, Or.inr ⟨_, rfl⟩, rfl⟩
theorem zw_X11_30 : zfw RX11 30 11 3 1 true := ⟨(RX11, TX11, 21), rfl, by decide, zTm 469 (by decide +kernel) rfl, rfl, rfl, Or.inl ⟨_, rfl⟩, rfl⟩
theorem zw_X11_34 : zfw RX11 34 11 4 1 true := ⟨(RX11, TX11, 21), rfl, by decide, zTm 470 (by decide +kernel) rfl, rfl, rfl, Or.inl ⟨_, rfl⟩, rfl⟩
theorem zw_X11_42 : zfw RX11 42 11 5 1 true := ⟨(RX11, TX11, 21), rfl, by decide, zTm 471 (by decide +kernel) rfl, rfl, rfl, Or.inl ⟨_, rfl⟩, rfl⟩
theorem zw_X11_49 : zfw RX11 49 11 6 1 true := ⟨(RX11, TX11, 21), rfl, by decide, zTm 472 (by decide +kernel) rfl, rfl, rfl, Or.inl ⟨_, rfl⟩, rfl⟩
theorem zw_X11_58 : zfw RX11 58 11 7 1 true := ⟨(RX11, TX11, 21), rfl, by decide, zTm 473 (by decide +kernel) rfl, rfl, rfl, Or.inl ⟨_, rfl⟩, rfl⟩
theorem zw_X11_67 : zfw RX11 67 11 8 1 true := ⟨(RX11, TX11, 21), rfl, by decide, zTm 474 (by decide +kernel) rfl, rfl, rfl, Or.inl ⟨_, rfl⟩, rfl⟩
theorem zw_X11_76 : zfw RX11 76 11 9 1 true := ⟨(RX11, TX11, 21), rfl, by decide, zTm 475 (by decide +kernel) rfl, rfl, rfl, Or.inl ⟨_, rfl⟩, rfl⟩
theorem zw_X11_83 : zfw RX11 83 11 10 1 true := ⟨(RX11, TX11, 21), rfl, by decide, zTm 476 (by decide +kernel) rfl, rfl, rfl, Or.inl ⟨_, rfl⟩, rfl⟩
theorem zw_X11_92 : zfw RX11 92 11 11 1 true := ⟨(RX11, TX11, 21), rfl, by decide, zTm 477 (by decide +kernel) rfl, rfl, rfl, Or.inl ⟨_, rfl⟩, rfl⟩
theorem zw_X11_96 : zfw RX11 96 11 12 0 false := ⟨(RX11, TX11, 21), rfl, by decide, zTm 478 (by decide +kernel) rfl, rfl, rfl, rfl, rfl⟩
theorem zw_X11_100 : zfw RX11 100 11 13 0 false := ⟨(RX11, TX11, 21), rfl, by decide, zTm 479 (by decide +kernel) rfl, rfl, rfl, rfl, rfl⟩
theorem zw_X11_103 : zfw RX11 103 11 14 0 false := ⟨(RX11, TX11, 21), rfl, by decide, zTm 480 (by decide +kernel) rfl, rfl, rfl, rfl, rfl⟩
theorem zw_X11_106 : zfw RX11 106 11 15 0 false := ⟨(RX11, TX11, 21), rfl, by decide, zTm 481 (by decide +kernel) rfl, rfl, rfl, rfl, rfl⟩
theorem zw_X11_109 : zfw RX11 109 11 16 0 false := ⟨(RX11, TX11, 21), rfl, by decide, zTm 482 (by decide +kernel) rfl, rfl, rfl, rfl, rfl⟩
theorem zw_X11_112 : zfw RX11 112 11 17 0 false := ⟨(RX11, TX11, 21), rfl, by decide, zTm 483 (by decide +kernel) rfl, rfl, rfl, rfl, rfl⟩
theorem zw_X11_115 : zfw RX11 115 11 18 0 false := ⟨(RX11, TX11, 21), rfl, by decide, zTm 484 (by decide +kernel) rfl, rfl, rfl, rfl, rfl⟩
theorem zw_X11_118 : zfw RX11 118 11 19 0 false := ⟨(RX11, TX11, 21), rfl, by decide, zTm 485 (by decide +kernel) rfl, rfl, rfl, rfl, rfl⟩
theorem zw_X11_121 : zfw RX11 121 11 20 0 false := ⟨(RX11, TX11, 21), rfl, by decide, zTm 486 (by decide +kernel) rfl, rfl, rfl, rfl, rfl⟩
theorem zw_X11_124 : zfw RX11 124 7 4 0 false := ⟨(RX7, TX7, 5), rfl, by decide, zTm 166 (by decide +kernel) rfl, rfl, rfl, rfl, rfl⟩
theorem zw_X11_185 : zfw RX11 185 1 6 0 false := ⟨(RX1, TX1, 14), rfl, by decide, zTm 826 (by decide +kernel) rfl, rfl, rfl, rfl, rfl⟩
theorem zw_X0_9 : zfw RX0 9 0 2 1 true := ⟨(RX0, TX0, 12), rfl, by decide, zTm 430 (by decide +kernel) rfl, rfl, rfl, Or.inr ⟨_, rfl⟩, rfl⟩
theorem zw_X0_15 : zfw RX0 15 0 3 1 false := ⟨(RX0, TX0, 12), rfl, by decide, zTm 432 (by decide +kernel) rfl, rfl, rfl, Or.inl ⟨_, rfl⟩, rfl⟩
theorem zw_X0_19 : zfw RX0 19 0 4 0 false := ⟨(RX0, TX0, 12), rfl, by decide, zTm 433 (by decide +kernel) rfl, rfl, rfl, rfl, rfl⟩
theorem zw_X0_23 : zfw RX0 23 0 5 0 false := ⟨(RX0, TX0, 12), rfl, by decide, zTm 434 (by decide +kernel) rfl, rfl, rfl, rfl, rfl⟩
theorem zw_X0_26 : zfw RX0 26 0 6 1 false := ⟨(RX0, TX0, 12), rfl, by decide, zTm 435 (by decide +kernel) rfl, rfl, rfl, Or.inl ⟨_, rfl⟩, rfl⟩
theorem zw_X0_29 : zfw RX0 29 0 7 1 false := ⟨(RX0, TX0, 12), rfl, by decide, zTm 436 (by decide +kernel) rfl, rfl, rfl, Or.inl ⟨_, rfl⟩, rfl⟩
theorem zw_X0_32 : zfw RX0 32 0 8 0 false := ⟨(RX0, TX0, 12), rfl, by decide, zTm 437 (by decide +kernel) rfl, rfl, rfl, rfl, rfl⟩
theorem zw_X0_35 : zfw RX0 35 0 9 0 false := ⟨(RX0, TX0, 12), rfl, by decide, zTm 438 (by decide +kernel) rfl, rfl, rfl, rfl, rfl⟩
theorem zw_X0_38 : zfw RX0 38 0 10 0 false := ⟨(RX0, TX0, 12), rfl, by decide, zTm 439 (by decide +kernel) rfl, rfl, rfl, rfl, rfl⟩
theorem zw_X0_41 : zfw RX0 41 0 11 0 false := ⟨(RX0, TX0, 12), rfl, by decide, zTm 440 (by decide +kernel) rfl, rfl, rfl, rfl, rfl⟩
theorem zw_X0_44 : zfw RX0 44 0 0 1 true := ⟨(RX0, TX0, 12), rfl, by decide, zTm 428 (by decide +kernel) rfl, rfl, rfl, Or.inl ⟨_, rfl⟩, rfl⟩
theorem zw_X0_48 : zfw RX0 48 0 1 1 true := ⟨(RX0, TX0, 12), rfl, by decide, zTm 429 (by decide +kernel) rfl, rfl, rfl, Or.inl ⟨_, rfl⟩, rfl⟩
theorem zw_X1_12 : zfw RX1 12 1 0 1 true := ⟨(RX1, TX1, 14), rfl, by decide, zTm 798 (by decide +kernel) rfl, rfl, rfl, Or.inl ⟨_, rfl⟩, rfl⟩
theorem zw_X1_18 : zfw RX1 18 1 1 1 false := ⟨(RX1, TX1, 14), rfl, by decide, zTm 805 (by decide +kernel) rfl, rfl, rfl, Or.inl ⟨_, rfl⟩, rfl⟩
theorem zw_X1_21 : zfw RX1 21 1 2 1 true := ⟨(RX1, TX1, 14), rfl, by decide, zTm 807 (by decide +kernel) rfl, rfl, rfl, Or.inr ⟨_, rfl⟩, rfl⟩
theorem zw_X1_25 : zfw RX1 25 1 3 1 true := ⟨(RX1, TX1, 14), rfl, by decide, zTm 810 (by decide +kernel) rfl, rfl, rfl, Or.inr ⟨_, rfl⟩, rfl⟩
theorem zw_X1_28 : zfw RX1 28 1 4 0 false := ⟨(RX1, TX1, 14), rfl, by decide, zTm 814 (by decide +kernel) rfl, rfl, rfl, rfl, rfl⟩
theorem zw_X1_32 : zfw RX1 32 1 5 0 false := ⟨(RX1, TX1, 14), rfl, by decide, zTm 817 (by decide +kernel) rfl, rfl, rfl, rfl, rfl⟩
theorem zw_X1_35 : zfw RX1 35 1 6 0 false := ⟨(RX1, TX1, 14), rfl, by decide, zTm 822 (by decide +kernel) rfl, rfl, rfl, rfl, rfl⟩
theorem zw_X1_38 : zfw RX1 38 1 7 0 false := ⟨(RX1, TX1, 14), rfl, by decide, zTm 827 (by decide +kernel) rfl, rfl, rfl, rfl, rfl⟩
theorem zw_X1_41 : zfw RX1 41 1 8 0 false := ⟨(RX1, TX1, 14), rfl, by decide, zTm 830 (by decide +kernel) rfl, rfl, rfl, rfl, rfl⟩
theorem zw_X1_44 : zfw RX1 44 1 9 0 false := ⟨(RX1, TX1, 14), rfl, by decide, zTm 832 (by decide +kernel) rfl, rfl, rfl, rfl, rfl⟩
theorem zw_X1_47 : zfw RX1 47 1 10 0 false := ⟨(RX1, TX1, 14), rfl, by decide, zTm 836 (by decide +kernel) rfl, rfl, rfl, rfl, rfl⟩
theorem zw_X1_50 : zfw RX1 50 1 11 2 false := ⟨(RX1, TX1, 14), rfl, by decide, zTm 838 (by decide +kernel) rfl, rfl, rfl, rfl, rfl⟩
theorem zw_X1_54 : zfw RX1 54 1 12 0 false := ⟨(RX1, TX1, 14), rfl, by decide, zTm 840 (by decide +kernel) rfl, rfl, rfl, rfl, rfl⟩
theorem zw_X1_57 : zfw RX1 57 1 13 2 false := ⟨(RX1, TX1, 14), rfl, by decide, zTm 842 (by decide +kernel) rfl, rfl, rfl, rfl, rfl⟩
theorem zw_X2_9 : zfw RX2 9 2 2 1 true := ⟨(RX2, TX2, 5), rfl, by decide, zTm 323 (by decide +kernel) rfl, rfl, rfl, Or.inr ⟨_, rfl⟩, rfl⟩
theorem zw_X2_15 : zfw RX2 15 2 3 1 true := ⟨(RX2, TX2, 5), rfl, by decide, zTm 324 (by decide +kernel) rfl, rfl, rfl, Or.inr ⟨_, rfl⟩, rfl⟩
theorem zw_X2_18 : zfw RX2 18 2 4 0 false := ⟨(RX2, TX2, 5), rfl, by decide, zTm 325 (by decide +kernel) rfl, rfl, rfl, rfl, rfl⟩
theorem zw_X2_22 : zfw RX2 22 2 0 1 true := ⟨(RX2, TX2, 5), rfl, by decide, zTm 321 (by decide +kernel) rfl, rfl, rfl, Or.inl ⟨_, rfl⟩, rfl⟩
theorem zw_X2_26 : zfw RX2 26 2 1 1 true := ⟨(RX2, TX2, 5), rfl, by decide, zTm 322 (by decide +kernel) rfl, rfl, rfl, Or.inl ⟨_, rfl⟩, rfl⟩
theorem zw_X3_9 : zfw RX3 9 3 0 1 true := ⟨(RX3, TX3, 4), rfl, by decide, zTm 409 (by decide +kernel) rfl, rfl, rfl, Or.inl ⟨_, rfl⟩, rfl⟩
theorem zw_X3_15 : zfw RX3 15 3 1 1 true := ⟨(RX3, TX3, 4), rfl, by decide, zTm 410 (by decide +kernel) rfl, rfl, rfl, Or.inl ⟨_, rfl⟩, rfl⟩
theorem zw_X3_19 : zfw RX3 19 3 2 1 true := ⟨(RX3, TX3, 4), rfl, by decide, zTm 411 (by decide +kernel) rfl, rfl, rfl, Or.inl ⟨_, rfl⟩, rfl⟩
theorem zw_X3_23 : zfw RX3 23 3 3 1 true := ⟨(RX3, TX3, 4), rfl, by decide, zTm 412 (by decide +kernel) rfl, rfl, rfl, Or.inl ⟨_, rfl⟩, rfl⟩
theorem zw_X3_123 : zfw RX3 123 9 14 0 false := ⟨(RX9, TX9, 15), rfl, by decide, zTm 282 (by decide +kernel) rfl, rfl, rfl, rfl, rfl⟩
theorem zw_X4_9 : zfw RX4 9 4 4 1 true := ⟨(RX4, TX4, 12), rfl, by decide, zTm 367 (by decide +kernel) rfl, rfl, rfl, Or.inr ⟨_, rfl⟩, rfl⟩
theorem zw_X4_15 : zfw RX4 15 4 5 1 true := ⟨(RX4, TX4, 12), rfl, by decide, zTm 368 (by decide +kernel) rfl, rfl, rfl, Or.inr ⟨_, rfl⟩, rfl⟩
theorem zw_X4_18 : zfw RX4 18 4 6 1 true := ⟨(RX4, TX4, 12), rfl, by decide, zTm 369 (by decide +kernel) rfl, rfl, rfl, Or.inr ⟨_, rfl⟩, rfl⟩
theorem zw_X4_21 : zfw RX4 21 4 7 0 false := ⟨(RX4, TX4, 12), rfl, by decide, zTm 370 (by decide +kernel) rfl, rfl, rfl, rfl, rfl⟩
theorem zw_X4_25 : zfw RX4 25 4 8 0 false := ⟨(RX4, TX4, 12), rfl, by decide, zTm 371 (by decide +kernel) rfl, rfl, rfl, rfl, rfl⟩
theorem zw_X4_28 : zfw RX4 28 4 9 0 false := ⟨(RX4, TX4, 12), rfl, by decide, zTm 372 (by decide +kernel) rfl, rfl, rfl, rfl, rfl⟩
theorem zw_X4_31 : zfw RX4 31 4 10 1 true := ⟨(RX4, TX4, 12), rfl, by decide, zTm 373 (by decide +kernel) rfl, rfl, rfl, Or.inr ⟨_, rfl⟩, rfl⟩
theorem zw_X4_34 : zfw RX4 34 4 11 0 false := ⟨(RX4, TX4, 12), rfl, by decide, zTm 375 (by decide +kernel) rfl, rfl, rfl, rfl, rfl⟩
theorem zw_X4_37 : zfw RX4 37 4 0 1 true := ⟨(RX4, TX4, 12), rfl, by decide, zTm 363 (by decide +kernel) rfl, rfl, rfl, Or.inl ⟨_, rfl⟩, rfl⟩
theorem zw_X4_41 : zfw RX4 41 4 1 1 true := ⟨(RX4, TX4, 12), rfl, by decide, zTm 364 (by decide +kernel) rfl, rfl, rfl, Or.inl ⟨_, rfl⟩, rfl⟩
theorem zw_X4_45 : zfw RX4 45 4 2 1 true := ⟨(RX4, TX4, 12), rfl, by decide, zTm 365 (by decide +kernel) rfl, rfl, rfl, Or.inl ⟨_, rfl⟩, rfl⟩
theorem zw_X4_49 : zfw RX4 49 4 3 1 true := ⟨(RX4, TX4, 12), rfl, by decide, zTm 366 (by decide +kernel) rfl, rfl, rfl, Or.inl ⟨_, rfl⟩, rfl⟩
theorem zw_X4_135 : zfw RX4 135 9 14 0 false := ⟨(RX9, TX9, 15), rfl, by decide, zTm 283 (by decide +kernel) rfl, rfl, rfl, rfl, rfl⟩
theorem zw_X5_9 : zfw RX5 9 5 0 1 true := ⟨(RX5, TX5, 5), rfl, by decide, zTm 186 (by decide +kernel) rfl, rfl, rfl, Or.inr ⟨_, rfl⟩, rfl⟩
theorem zw_X5_15 : zfw RX5 15 5 1 1 true := ⟨(RX5, TX5, 5), rfl, by decide, zTm 195 (by decide +kernel) rfl, rfl, rfl, Or.inr ⟨_, rfl⟩, rfl⟩
theorem zw_X5_18 : zfw RX5 18 5 2 1 true := ⟨(RX5, TX5, 5), rfl, by decide, zTm 204 (by decide +kernel) rfl, rfl, rfl, Or.inr ⟨_, rfl⟩, rfl⟩
theorem zw_X5_22 : zfw RX5 22 5 3 0 false := ⟨(RX5, TX5, 5), rfl, by decide, zTm 210 (by decide +kernel) rfl, rfl, rfl, rfl, rfl⟩
theorem zw_X5_26 : zfw RX5 26 5 4 0 false := ⟨(RX5, TX5, 5), rfl, by decide, zTm 220 (by decide +kernel) rfl, rfl, rfl, rfl, rfl⟩
theorem zw_X6_9 : zfw RX6 9 6 1 1 true := ⟨(RX6, TX6, 5), rfl, by decide, zTm 240 (by decide +kernel) rfl, rfl, rfl, Or.inr ⟨_, rfl⟩, rfl⟩
theorem zw_X6_15 : zfw RX6 15 6 2 0 false := ⟨(RX6, TX6, 5), rfl, by decide, zTm 241 (by decide +kernel) rfl, rfl, rfl, rfl, rfl⟩
theorem zw_X6_19 : zfw RX6 19 6 3 2 false := ⟨(RX6, TX6, 5), rfl, by decide, zTm 242 (by decide +kernel) rfl, rfl, rfl, rfl, rfl⟩
theorem zw_X6_23 : zfw RX6 23 6 4 2 false := ⟨(RX6, TX6, 5), rfl, by decide, zTm 243 (by decide +kernel) rfl, rfl, rfl, rfl, rfl⟩
theorem zw_X6_26 : zfw RX6 26 6 0 1 true := ⟨(RX6, TX6, 5), rfl, by decide, zTm 239 (by decide +kernel) rfl, rfl, rfl, Or.inl ⟨_, rfl⟩, rfl⟩
theorem zw_X7_11 : zfw RX7 11 7 0 1 true := ⟨(RX7, TX7, 5), rfl, by decide, zTm 159 (by decide +kernel) rfl, rfl, rfl, Or.inr ⟨_, rfl⟩, rfl⟩
theorem zw_X7_17 : zfw RX7 17 7 1 1 true := ⟨(RX7, TX7, 5), rfl, by decide, zTm 160 (by decide +kernel) rfl, rfl, rfl, Or.inr ⟨_, rfl⟩, rfl⟩
theorem zw_X7_21 : zfw RX7 21 7 2 1 true := ⟨(RX7, TX7, 5), rfl, by decide, zTm 162 (by decide +kernel) rfl, rfl, rfl, Or.inr ⟨_, rfl⟩, rfl⟩
theorem zw_X7_25 : zfw RX7 25 7 3 0 false := ⟨(RX7, TX7, 5), rfl, by decide, zTm 163 (by decide +kernel) rfl, rfl, rfl, rfl, rfl⟩
theorem zw_X7_29 : zfw RX7 29 7 4 0 false := ⟨(RX7, TX7, 5), rfl, by decide, zTm 164 (by decide +kernel) rfl, rfl, rfl, rfl, rfl⟩
theorem zw_X7_33 : zfw RX7 33 1 5 0 false := ⟨(RX1, TX1, 14), rfl, by decide, zTm 819 (by decide +kernel) rfl, rfl, rfl, rfl, rfl⟩
theorem zw_X8_9 : zfw RX8 9 8 0 1 true := ⟨(RX8, TX8, 4), rfl, by decide, zTm 135 (by decide +kernel) rfl, rfl, rfl, Or.inr ⟨_, rfl⟩, rfl⟩
theorem zw_X8_15 : zfw RX8 15 8 1 1 true := ⟨(RX8, TX8, 4), rfl, by decide, zTm 136 (by decide +kernel) rfl, rfl, rfl, Or.inr ⟨_, rfl⟩, rfl⟩
theorem zw_X8_19 : zfw RX8 19 8 2 1 true := ⟨(RX8, TX8, 4), rfl, by decide, zTm 137 (by decide +kernel) rfl, rfl, rfl, Or.inr ⟨_, rfl⟩, rfl⟩
theorem zw_X8_22 : zfw RX8 22 8 3 0 false := ⟨(RX8, TX8, 4), rfl, by decide, zTm 138 (by decide +kernel) rfl, rfl, rfl, rfl, rfl⟩
theorem zw_X9_9 : zfw RX9 9 9 1 1 true := ⟨(RX9, TX9, 15), rfl, by decide, zTm 265 (by decide +kernel) rfl, rfl, rfl, Or.inr ⟨_, rfl⟩, rfl⟩
theorem zw_X9_15 : zfw RX9 15 9 2 1 true := ⟨(RX9, TX9, 15), rfl, by decide, zTm 266 (by decide +kernel) rfl, rfl, rfl, Or.inr ⟨_, rfl⟩, rfl⟩
theorem zw_X9_18 : zfw RX9 18 9 3 1 true := ⟨(RX9, TX9, 15), rfl, by decide, zTm 267 (by decide +kernel) rfl, rfl, rfl, Or.inr ⟨_, rfl⟩, rfl⟩
theorem zw_X9_21 : zfw RX9 21 9 4 0 false := ⟨(RX9, TX9, 15), rfl, by decide, zTm 268 (by decide +kernel) rfl, rfl, rfl, rfl, rfl⟩
theorem zw_X9_25 : zfw RX9 25 9 5 1 true := ⟨(RX9, TX9, 15), rfl, by decide, zTm 270 (by decide +kernel) rfl, rfl, rfl, Or.inr ⟨_, rfl⟩, rfl⟩
theorem zw_X9_28 : zfw RX9 28 9 6 1 true := ⟨(RX9, TX9, 15), rfl, by decide, zTm 271 (by decide +kernel) rfl, rfl, rfl, Or.inr ⟨_, rfl⟩, rfl⟩
theorem zw_X9_31 : zfw RX9 31 9 7 1 true := ⟨(RX9, TX9, 15), rfl, by decide, zTm 272 (by decide +kernel) rfl, rfl, rfl, Or.inr ⟨_, rfl⟩, rfl⟩
theorem zw_X9_34 : zfw RX9 34 9 8 1 true := ⟨(RX9, TX9, 15), rfl, by decide, zTm 273 (by decide +kernel) rfl, rfl, rfl, Or.inr ⟨_, rfl⟩, rfl⟩
theorem zw_X9_37 : zfw RX9 37 9 9 1 true := ⟨(RX9, TX9, 15), rfl, by decide, zTm 274 (by decide +kernel) rfl, rfl, rfl, Or.inr ⟨_, rfl⟩, rfl⟩
theorem zw_X9_40 : zfw RX9 40 9 10 0 false := ⟨(RX9, TX9, 15), rfl, by decide, zTm 275 (by decide +kernel) rfl, rfl, rfl, rfl, rfl⟩
theorem zw_X9_43 : zfw RX9 43 9 11 0 false := ⟨(RX9, TX9, 15), rfl, by decide, zTm 276 (by decide +kernel) rfl, rfl, rfl, rfl, rfl⟩
theorem zw_X9_46 : zfw RX9 46 9 12 0 false := ⟨(RX9, TX9, 15), rfl, by decide, zTm 277 (by decide +kernel) rfl, rfl, rfl, rfl, rfl⟩
theorem zw_X9_49 : zfw RX9 49 9 13 1 true := ⟨(RX9, TX9, 15), rfl, by decide, zTm 278 (by decide +kernel) rfl, rfl, rfl, Or.inr ⟨_, rfl⟩, rfl⟩
theorem zw_X9_52 : zfw RX9 52 9 14 0 false := ⟨(RX9, TX9, 15), rfl, by decide, zTm 281 (by decide +kernel) rfl, rfl, rfl, rfl, rfl⟩
theorem zw_X9_55 : zfw RX9 55 9 0 1 true := ⟨(RX9, TX9, 15), rfl, by decide, zTm 264 (by decide +kernel) rfl, rfl, rfl, Or.inl ⟨_, rfl⟩, rfl⟩
theorem zw_X10_9 : zfw RX10 9 10 2 1 true := ⟨(RX10, TX10, 4), rfl, by decide, zTm 346 (by decide +kernel) rfl, rfl, rfl, Or.inr ⟨_, rfl⟩, rfl⟩
theorem zw_X10_15 : zfw RX10 15 10 3 1 true := ⟨(RX10, TX10, 4), rfl, by decide, zTm 347 (by decide +kernel) rfl, rfl, rfl, Or.inr ⟨_, rfl⟩, rfl⟩
theorem zw_X10_18 : zfw RX10 18 10 0 1 true := ⟨(RX10, TX10, 4), rfl, by decide, zTm 344 (by decide +kernel) rfl, rfl, rfl, Or.inl ⟨_, rfl⟩, rfl⟩
theorem zw_X10_22 : zfw RX10 22 10 1 1 true := ⟨(RX10, TX10, 4), rfl, by decide, zTm 345 (by decide +kernel) rfl, rfl, rfl, Or.inl ⟨_, rfl⟩, rfl⟩
theorem zw_X10_82 : zfw RX10 82 1 6 0 false := ⟨(RX1, TX1, 14), rfl, by decide, zTm 824 (by decide +kernel) rfl, rfl, rfl, rfl, rfl⟩
theorem zw_X10_88 : zfw RX10 88 1 7 0 false := ⟨(RX1, TX1, 14), rfl, by decide, zTm 828 (by decide +kernel) rfl, rfl, rfl, rfl, rfl⟩
theorem zw_X12_7 : zfw RX12 7 12 0 0 false := ⟨(RX12, TX12, 61), rfl, by decide, zTm 1137 (by decide +kernel) rfl, rfl, rfl, rfl, rfl⟩
theorem zw_X12_13 : zfw RX12 13 12 1 1 true := ⟨(RX12, TX12, 61), rfl, by decide, zTm 1138 (by decide +kernel) rfl, rfl, rfl, Or.inr ⟨_, rfl⟩, rfl⟩
theorem zw_X12_17 : zfw RX12 17 12 2 1 true := ⟨(RX12, TX12, 61), rfl, by decide, zTm 1139 (by decide +kernel) rfl, rfl, rfl, Or.inr ⟨_, rfl⟩, rfl⟩
theorem zw_X12_21 : zfw RX12 21 12 3 1 true := ⟨(RX12, TX12, 61), rfl, by decide, zTm 1140 (by decide +kernel) rfl, rfl, rfl, Or.inr ⟨_, rfl⟩, rfl⟩
theorem zw_X12_24 : zfw RX12 24 12 5 1 true := ⟨(RX12, TX12, 61), rfl, by decide, zTm 1142 (by decide +kernel) rfl, rfl, rfl, Or.inr ⟨_, rfl⟩, rfl⟩
theorem zw_X12_27 : zfw RX12 27 12 7 1 true := ⟨(RX12, TX12, 61), rfl, by decide, zTm 1144 (by decide +kernel) rfl, rfl, rfl, Or.inr ⟨_, rfl⟩, rfl⟩
theorem zw_X12_30 : zfw RX12 30 12 8 1 true := ⟨(RX12, TX12, 61), rfl, by decide, zTm 1145 (by decide +kernel) rfl, rfl, rfl, Or.inr ⟨_, rfl⟩, rfl⟩
theorem zw_X12_33 : zfw RX12 33 12 9 1 true := ⟨(RX12, TX12, 61), rfl, by decide, zTm 1146 (by decide +kernel) rfl, rfl, rfl, Or.inr ⟨_, rfl⟩, rfl⟩
theorem zw_X12_36 : zfw RX12 36 12 10 1 true := ⟨(RX12, TX12, 61), rfl, by decide, zTm 1147 (by decide +kernel) rfl, rfl, rfl, Or.inr ⟨_, rfl⟩, rfl⟩
theorem zw_X12_39 : zfw RX12 39 12 11 1 true := ⟨(RX12, TX12, 61), rfl, by decide, zTm 1148 (by decide +kernel) rfl, rfl, rfl, Or.inr ⟨_, rfl⟩, rfl⟩
theorem zw_X12_42 : zfw RX12 42 12 12 1 true := ⟨(RX12, TX12, 61), rfl, by decide, zTm 1149 (by decide +kernel) rfl, rfl, rfl, Or.inr ⟨_, rfl⟩, rfl⟩
theorem zw_X12_45 : zfw RX12 45 12 13 1 true := ⟨(RX12, TX12, 61), rfl, by decide, zTm 1150 (by decide +kernel) rfl, rfl, rfl, Or.inr ⟨_, rfl⟩, rfl⟩
theorem zw_X12_48 : zfw RX12 48 12 14 1 true := ⟨(RX12, TX12, 61), rfl, by decide, zTm 1151 (by decide +kernel) rfl, rfl, rfl, Or.inr ⟨_, rfl⟩, rfl⟩
theorem zw_X12_51 : zfw RX12 51 12 15 1 true := ⟨(RX12, TX12, 61), rfl, by decide, zTm 1152 (by decide +kernel) rfl, rfl, rfl, Or.inr ⟨_, rfl⟩, rfl⟩
theorem zw_X12_54 : zfw RX12 54 12 16 1 true := ⟨(RX12, TX12, 61), rfl, by decide, zTm 1153 (by decide +kernel) rfl, rfl, rfl, Or.inr ⟨_, rfl⟩, rfl⟩
theorem zw_X12_57 : zfw RX12 57 12 17 1 true := ⟨(RX12, TX12, 61), rfl, by decide, zTm 1154 (by decide +kernel) rfl, rfl, rfl, Or.inr ⟨_, rfl⟩, rfl⟩
theorem zw_X12_60 : zfw RX12 60 12 18 1 true := ⟨(RX12, TX12, 61), rfl, by decide, zTm 1155 (by decide +kernel) rfl, rfl, rfl, Or.inr ⟨_, rfl⟩, rfl⟩
theorem zw_X12_63 : zfw RX12 63 12 19 1 true := ⟨(RX12, TX12, 61), rfl, by decide, zTm 1156 (by decide +kernel) rfl, rfl, rfl, Or.inr ⟨_, rfl⟩, rfl⟩
theorem zw_X12_66 : zfw RX12 66 12 20 1 true := ⟨(RX12, TX12, 61), rfl, by decide, zTm 1157 (by decide +kernel) rfl, rfl, rfl, Or.inr ⟨_, rfl⟩, rfl⟩
theorem zw_X12_69 : zfw RX12 69 12 21 1 true := ⟨(RX12, TX12, 61), rfl, by decide, zTm 1158 (by decide +kernel) rfl, rfl, rfl, Or.inr ⟨_, rfl⟩, rfl⟩
theorem zw_X12_72 : zfw RX12 72 12 22 1 true := ⟨(RX12, TX12, 61), rfl, by decide, zTm 1159 (by decide +kernel) rfl, rfl, rfl, Or.inr ⟨_, rfl⟩, rfl⟩
theorem zw_X12_75 : zfw RX12 75 12 23 1 true := ⟨(RX12, TX12, 61), rfl, by decide, zTm 1160 (by decide +kernel) rfl, rfl, rfl, Or.inr ⟨_, rfl⟩, rfl⟩
theorem zw_X12_78 : zfw RX12 78 12 25 1 true := ⟨(RX12, TX12, 61), rfl, by decide, zTm 1162 (by decide +kernel) rfl, rfl, rfl, Or.inr ⟨_, rfl⟩, rfl⟩
theorem zw_X12_81 : zfw RX12 81 12 26 1 true := ⟨(RX12, TX12, 61), rfl, by decide, zTm 1163 (by decide +kernel) rfl, rfl, rfl, Or.inr ⟨_, rfl⟩, rfl⟩
theorem zw_X12_84 : zfw RX12 84 12 27 1 true := ⟨(RX12, TX12, 61), rfl, by decide, zTm 1164 (by decide +kernel) rfl, rfl, rfl, Or.inr ⟨_, rfl⟩, rfl⟩
theorem zw_X12_87 : zfw RX12 87 12 29 1 true := ⟨(RX12, TX12, 61), rfl, by decide, zTm 1166 (by decide +kernel) rfl, rfl, rfl, Or.inr ⟨_, rfl⟩, rfl⟩
theorem zw_X12_90 : zfw RX12 90 12 30 1 true := ⟨(RX12, TX12, 61), rfl, by decide, zTm 1167 (by decide +kernel) rfl, rfl, rfl, Or.inr ⟨_, rfl⟩, rfl⟩
theorem zw_X12_93 : zfw RX12 93 12 31 1 true := ⟨(RX12, TX12, 61), rfl, by decide, zTm 1168 (by decide +kernel) rfl, rfl, rfl, Or.inr ⟨_, rfl⟩, rfl⟩
theorem zw_X12_96 : zfw RX12 96 12 32 1 true := ⟨(RX12, TX12, 61), rfl, by decide, zTm 1169 (by decide +kernel) rfl, rfl, rfl, Or.inr ⟨_, rfl⟩, rfl⟩
theorem zw_X12_99 : zfw RX12 99 12 33 1 true := ⟨(RX12, TX12, 61), rfl, by decide, zTm 1170 (by decide +kernel) rfl, rfl, rfl, Or.inr ⟨_, rfl⟩, rfl⟩
theorem zw_X12_102 : zfw RX12 102 12 34 1 true := ⟨(RX12, TX12, 61), rfl, by decide, zTm 1171 (by decide +kernel) rfl, rfl, rfl, Or.inr ⟨_, rfl⟩, rfl⟩
theorem zw_X12_105 : zfw RX12 105 12 41 1 true := ⟨(RX12, TX12, 61), rfl, by decide, zTm 1178 (by decide +kernel) rfl, rfl, rfl, Or.inr ⟨_, rfl⟩, rfl⟩
theorem zw_X12_108 : zfw RX12 108 12 46 1 true := ⟨(RX12, TX12, 61), rfl, by decide, zTm 1183 (by decide +kernel) rfl, rfl, rfl, Or.inr ⟨_, rfl⟩, rfl⟩
theorem zw_X12_111 : zfw RX12 111 12 47 1 true := ⟨(RX12, TX12, 61), rfl, by decide, zTm 1184 (by decide +kernel) rfl, rfl, rfl, Or.inr ⟨_, rfl⟩, rfl⟩
theorem zw_X12_114 : zfw RX12 114 12 48 1 true := ⟨(RX12, TX12, 61), rfl, by decide, zTm 1185 (by decide +kernel) rfl, rfl, rfl, Or.inr ⟨_, rfl⟩, rfl⟩
theorem zw_X12_117 : zfw RX12 117 12 49 1 true := ⟨(RX12, TX12, 61), rfl, by decide, zTm 1186 (by decide +kernel) rfl, rfl, rfl, Or.inr ⟨_, rfl⟩, rfl⟩
theorem zw_X12_120 : zfw RX12 120 12 50 1 true := ⟨(RX12, TX12, 61), rfl, by decide, zTm 1187 (by decide +kernel) rfl, rfl, rfl, Or.inr ⟨_, rfl⟩, rfl⟩
theorem zw_X12_123 : zfw RX12 123 12 51 1 true := ⟨(RX12, TX12, 61), rfl, by decide, zTm 1188 (by decide +kernel) rfl, rfl, rfl, Or.inr ⟨_, rfl⟩, rfl⟩
theorem zw_X12_126 : zfw RX12 126 12 53 1 true := ⟨(RX12, TX12, 61), rfl, by decide, zTm 1190 (by decide +kernel) rfl, rfl, rfl, Or.inr ⟨_, rfl⟩, rfl⟩
theorem zw_X12_129 : zfw RX12 129 12 57 0 false := ⟨(RX12, TX12, 61), rfl, by decide, zTm 1194 (by decide +kernel) rfl, rfl, rfl, rfl, rfl⟩
theorem zw_X12_132 : zfw RX12 132 12 58 0 false := ⟨(RX12, TX12, 61), rfl, by decide, zTm 1195 (by decide +kernel) rfl, rfl, rfl, rfl, rfl⟩
theorem zw_X12_135 : zfw RX12 135 12 59 1 true := ⟨(RX12, TX12, 61), rfl, by decide, zTm 1196 (by decide +kernel) rfl, rfl, rfl, Or.inr ⟨_, rfl⟩, rfl⟩
theorem zw_X12_142 : zfw RX12 142 12 6 0 false := ⟨(RX12, TX12, 61), rfl, by decide, zTm 1143 (by decide +kernel) rfl, rfl, rfl, rfl, rfl⟩
theorem zw_X12_145 : zfw RX12 145 12 4 0 false := ⟨(RX12, TX12, 61), rfl, by decide, zTm 1141 (by decide +kernel) rfl, rfl, rfl, rfl, rfl⟩
theorem zw_X12_167 : zfw RX12 167 12 24 0 false := ⟨(RX12, TX12, 61), rfl, by decide, zTm 1161 (by decide +kernel) rfl, rfl, rfl, rfl, rfl⟩
theorem zw_X12_185 : zfw RX12 185 12 28 0 false := ⟨(RX12, TX12, 61), rfl, by decide, zTm 1165 (by decide +kernel) rfl, rfl, rfl, rfl, rfl⟩
theorem zw_X12_212 : zfw RX12 212 12 35 0 false := ⟨(RX12, TX12, 61), rfl, by decide, zTm 1172 (by decide +kernel) rfl, rfl, rfl, rfl, rfl⟩
theorem zw_X12_215 : zfw RX12 215 12 38 0 false := ⟨(RX12, TX12, 61), rfl, by decide, zTm 1175 (by decide +kernel) rfl, rfl, rfl, rfl, rfl⟩
theorem zw_X12_218 : zfw RX12 218 12 39 0 false := ⟨(RX12, TX12, 61), rfl, by decide, zTm 1176 (by decide +kernel) rfl, rfl, rfl, rfl, rfl⟩
theorem zw_X12_221 : zfw RX12 221 12 36 0 false := ⟨(RX12, TX12, 61), rfl, by decide, zTm 1173 (by decide +kernel) rfl, rfl, rfl, rfl, rfl⟩
theorem zw_X12_224 : zfw RX12 224 12 37 0 false := ⟨(RX12, TX12, 61), rfl, by decide, zTm 1174 (by decide +kernel) rfl, rfl, rfl, rfl, rfl⟩
theorem zw_X12_233 : zfw RX12 233 12 40 0 false := ⟨(RX12, TX12, 61), rfl, by decide, zTm 1177 (by decide +kernel) rfl, rfl, rfl, rfl, rfl⟩
theorem zw_X12_246 : zfw RX12 246 12 42 0 false := ⟨(RX12, TX12, 61), rfl, by decide, zTm 1179 (by decide +kernel) rfl, rfl, rfl, rfl, rfl⟩
theorem zw_X12_259 : zfw RX12 259 12 52 0 false := ⟨(RX12, TX12, 61), rfl, by decide, zTm 1189 (by decide +kernel) rfl, rfl, rfl, rfl, rfl⟩
theorem zw_X12_319 : zfw RX12 319 12 43 0 false := ⟨(RX12, TX12, 61), rfl, by decide, zTm 1180 (by decide +kernel) rfl, rfl, rfl, rfl, rfl⟩
theorem zw_X12_328 : zfw RX12 328 12 44 0 false := ⟨(RX12, TX12, 61), rfl, by decide, zTm 1181 (by decide +kernel) rfl, rfl, rfl, rfl, rfl⟩
theorem zw_X12_337 : zfw RX12 337 12 54 0 false := ⟨(RX12, TX12, 61), rfl, by decide, zTm 1191 (by decide +kernel) rfl, rfl, rfl, rfl, rfl⟩
theorem zw_X12_340 : zfw RX12 340 12 56 0 false := ⟨(RX12, TX12, 61), rfl, by decide, zTm 1193 (by decide +kernel) rfl, rfl, rfl, rfl, rfl⟩
theorem zw_X12_353 : zfw RX12 353 12 45 0 false := ⟨(RX12, TX12, 61), rfl, by decide, zTm 1182 (by decide +kernel) rfl, rfl, rfl, rfl, rfl⟩
theorem zw_X12_368 : zfw RX12 368 12 55 0 false := ⟨(RX12, TX12, 61), rfl, by decide, zTm 1192 (by decide +kernel) rfl, rfl, rfl, rfl, rfl⟩
theorem zw_X12_399 : zfw RX12 399 12 60 2 false := ⟨(RX12, TX12, 61), rfl, by decide, zTm 1197 (by decide +kernel) rfl, rfl, rfl, rfl, rfl⟩
set_option maxRecDepth 100000 in
theorem zg_J7_fill_53178 : zcd zm_J7_fill_53178 ∈ zT ∧ Cond.initialized zm_J7_fill_53178.1.cls ∈ zT ∧ (zm_J7_fill_53178.1.cls ≠ "java/lang/invoke/MethodHandle" ∧ zm_J7_fill_53178.1.cls ≠ "java/lang/invoke/VarHandle" ∧ (parseMethodDescriptor zm_J7_fill_53178.1.desc).map (fun d => d.parameters.length) = some 2) := ⟨zTm 263 rfl rfl, zTm 111 (by decide +kernel) rfl, by decide +kernel⟩
set_option maxRecDepth 100000 in
theorem zg_J9_min_7cf53 : zcd zm_J9_min_7cf53 ∈ zT ∧ Cond.initialized zm_J9_min_7cf53.1.cls ∈ zT ∧ (zm_J9_min_7cf53.1.cls ≠ "java/lang/invoke/MethodHandle" ∧ zm_J9_min_7cf53.1.cls ≠ "java/lang/invoke/VarHandle" ∧ (parseMethodDescriptor zm_J9_min_7cf53.1.desc).map (fun d => d.parameters.length) = some 2) := ⟨zTm 568 rfl rfl, zTm 118 (by decide +kernel) rfl, by decide +kernel⟩
set_option maxRecDepth 100000 in
theorem zg_X0_advance : zcd zm_X0_advance ∈ zT ∧ Cond.initialized zm_X0_advance.1.cls ∈ zT ∧ (zm_X0_advance.1.cls ≠ "java/lang/invoke/MethodHandle" ∧ zm_X0_advance.1.cls ≠ "java/lang/invoke/VarHandle" ∧ (parseMethodDescriptor zm_X0_advance.1.desc).map (fun d => d.parameters.length) = some 0) := ⟨zTm 937 rfl rfl, zTm 116 (by decide +kernel) rfl, by decide +kernel⟩
set_option maxRecDepth 100000 in
theorem zg_X0_advanceFactor : zcd zm_X0_advanceFactor ∈ zT ∧ Cond.initialized zm_X0_advanceFactor.1.cls ∈ zT ∧ (zm_X0_advanceFactor.1.cls ≠ "java/lang/invoke/MethodHandle" ∧ zm_X0_advanceFactor.1.cls ≠ "java/lang/invoke/VarHandle" ∧ (parseMethodDescriptor zm_X0_advanceFactor.1.desc).map (fun d => d.parameters.length) = some 0) := ⟨zTm 956 rfl rfl, zTm 116 (by decide +kernel) rfl, by decide +kernel⟩
set_option maxRecDepth 100000 in
theorem zg_X0_advanceTurn : zcd zm_X0_advanceTurn ∈ zT ∧ Cond.initialized zm_X0_advanceTurn.1.cls ∈ zT ∧ (zm_X0_advanceTurn.1.cls ≠ "java/lang/invoke/MethodHandle" ∧ zm_X0_advanceTurn.1.cls ≠ "java/lang/invoke/VarHandle" ∧ (parseMethodDescriptor zm_X0_advanceTurn.1.desc).map (fun d => d.parameters.length) = some 0) := ⟨zTm 945 rfl rfl, zTm 116 (by decide +kernel) rfl, by decide +kernel⟩
set_option maxRecDepth 100000 in
theorem zg_X0_asGiven : zcd zm_X0_asGiven ∈ zT ∧ Cond.initialized zm_X0_asGiven.1.cls ∈ zT ∧ (zm_X0_asGiven.1.cls ≠ "java/lang/invoke/MethodHandle" ∧ zm_X0_asGiven.1.cls ≠ "java/lang/invoke/VarHandle" ∧ (parseMethodDescriptor zm_X0_asGiven.1.desc).map (fun d => d.parameters.length) = some 0) := ⟨zTm 587 rfl rfl, zTm 116 (by decide +kernel) rfl, by decide +kernel⟩
set_option maxRecDepth 100000 in
theorem zg_X0_begin : zcd zm_X0_begin ∈ zT ∧ Cond.initialized zm_X0_begin.1.cls ∈ zT ∧ (zm_X0_begin.1.cls ≠ "java/lang/invoke/MethodHandle" ∧ zm_X0_begin.1.cls ≠ "java/lang/invoke/VarHandle" ∧ (parseMethodDescriptor zm_X0_begin.1.desc).map (fun d => d.parameters.length) = some 1) := ⟨zTm 926 rfl rfl, zTm 116 (by decide +kernel) rfl, by decide +kernel⟩
set_option maxRecDepth 100000 in
theorem zg_X0_findPlace : zcd zm_X0_findPlace ∈ zT ∧ Cond.initialized zm_X0_findPlace.1.cls ∈ zT ∧ (zm_X0_findPlace.1.cls ≠ "java/lang/invoke/MethodHandle" ∧ zm_X0_findPlace.1.cls ≠ "java/lang/invoke/VarHandle" ∧ (parseMethodDescriptor zm_X0_findPlace.1.desc).map (fun d => d.parameters.length) = some 0) := ⟨zTm 950 rfl rfl, zTm 116 (by decide +kernel) rfl, by decide +kernel⟩
set_option maxRecDepth 100000 in
theorem zg_X0_init : zcd zm_X0_init ∈ zT ∧ Cond.initialized zm_X0_init.1.cls ∈ zT ∧ (zm_X0_init.1.cls ≠ "java/lang/invoke/MethodHandle" ∧ zm_X0_init.1.cls ≠ "java/lang/invoke/VarHandle" ∧ (parseMethodDescriptor zm_X0_init.1.desc).map (fun d => d.parameters.length) = some 2) := ⟨zTm 426 rfl rfl, zTm 116 (by decide +kernel) rfl, by decide +kernel⟩
set_option maxRecDepth 100000 in
theorem zg_X0_next : zcd zm_X0_next ∈ zT ∧ Cond.initialized zm_X0_next.1.cls ∈ zT ∧ (zm_X0_next.1.cls ≠ "java/lang/invoke/MethodHandle" ∧ zm_X0_next.1.cls ≠ "java/lang/invoke/VarHandle" ∧ (parseMethodDescriptor zm_X0_next.1.desc).map (fun d => d.parameters.length) = some 0) := ⟨zTm 931 rfl rfl, zTm 116 (by decide +kernel) rfl, by decide +kernel⟩
set_option maxRecDepth 100000 in
theorem zg_X0_nextPhase : zcd zm_X0_nextPhase ∈ zT ∧ Cond.initialized zm_X0_nextPhase.1.cls ∈ zT ∧ (zm_X0_nextPhase.1.cls ≠ "java/lang/invoke/MethodHandle" ∧ zm_X0_nextPhase.1.cls ≠ "java/lang/invoke/VarHandle" ∧ (parseMethodDescriptor zm_X0_nextPhase.1.desc).map (fun d => d.parameters.length) = some 0) := ⟨zTm 964 rfl rfl, zTm 116 (by decide +kernel) rfl, by decide +kernel⟩
set_option maxRecDepth 100000 in
theorem zg_X0_tell : zcd zm_X0_tell ∈ zT ∧ Cond.initialized zm_X0_tell.1.cls ∈ zT ∧ (zm_X0_tell.1.cls ≠ "java/lang/invoke/MethodHandle" ∧ zm_X0_tell.1.cls ≠ "java/lang/invoke/VarHandle" ∧ (parseMethodDescriptor zm_X0_tell.1.desc).map (fun d => d.parameters.length) = some 0) := ⟨zTm 960 rfl rfl, zTm 116 (by decide +kernel) rfl, by decide +kernel⟩
set_option maxRecDepth 100000 in
theorem zg_X10_init : zcd zm_X10_init ∈ zT ∧ Cond.initialized zm_X10_init.1.cls ∈ zT ∧ (zm_X10_init.1.cls ≠ "java/lang/invoke/MethodHandle" ∧ zm_X10_init.1.cls ≠ "java/lang/invoke/VarHandle" ∧ (parseMethodDescriptor zm_X10_init.1.desc).map (fun d => d.parameters.length) = some 2) := ⟨zTm 342 rfl rfl, zTm 113 (by decide +kernel) rfl, by decide +kernel⟩
set_option maxRecDepth 100000 in
theorem zg_X10_isTakenIn : zcd zm_X10_isTakenIn ∈ zT ∧ Cond.initialized zm_X10_isTakenIn.1.cls ∈ zT ∧ (zm_X10_isTakenIn.1.cls ≠ "java/lang/invoke/MethodHandle" ∧ zm_X10_isTakenIn.1.cls ≠ "java/lang/invoke/VarHandle" ∧ (parseMethodDescriptor zm_X10_isTakenIn.1.desc).map (fun d => d.parameters.length) = some 1) := ⟨zTm 773 rfl rfl, zTm 113 (by decide +kernel) rfl, by decide +kernel⟩
set_option maxRecDepth 100000 in
theorem zg_X10_putAway : zcd zm_X10_putAway ∈ zT ∧ Cond.initialized zm_X10_putAway.1.cls ∈ zT ∧ (zm_X10_putAway.1.cls ≠ "java/lang/invoke/MethodHandle" ∧ zm_X10_putAway.1.cls ≠ "java/lang/invoke/VarHandle" ∧ (parseMethodDescriptor zm_X10_putAway.1.desc).map (fun d => d.parameters.length) = some 1) := ⟨zTm 901 rfl rfl, zTm 113 (by decide +kernel) rfl, by decide +kernel⟩
set_option maxRecDepth 100000 in
theorem zg_X10_takes : zcd zm_X10_takes ∈ zT ∧ Cond.initialized zm_X10_takes.1.cls ∈ zT ∧ (zm_X10_takes.1.cls ≠ "java/lang/invoke/MethodHandle" ∧ zm_X10_takes.1.cls ≠ "java/lang/invoke/VarHandle" ∧ (parseMethodDescriptor zm_X10_takes.1.desc).map (fun d => d.parameters.length) = some 2) := ⟨zTm 779 rfl rfl, zTm 113 (by decide +kernel) rfl, by decide +kernel⟩
set_option maxRecDepth 100000 in
theorem zg_X11_alike : zcd zm_X11_alike ∈ zT ∧ Cond.initialized zm_X11_alike.1.cls ∈ zT ∧ (zm_X11_alike.1.cls ≠ "java/lang/invoke/MethodHandle" ∧ zm_X11_alike.1.cls ≠ "java/lang/invoke/VarHandle" ∧ (parseMethodDescriptor zm_X11_alike.1.desc).map (fun d => d.parameters.length) = some 5) := ⟨zTm 621 rfl rfl, zTm 105 (by decide +kernel) rfl, by decide +kernel⟩
set_option maxRecDepth 100000 in
theorem zg_X11_claim : zcd zm_X11_claim ∈ zT ∧ Cond.initialized zm_X11_claim.1.cls ∈ zT ∧ (zm_X11_claim.1.cls ≠ "java/lang/invoke/MethodHandle" ∧ zm_X11_claim.1.cls ≠ "java/lang/invoke/VarHandle" ∧ (parseMethodDescriptor zm_X11_claim.1.desc).map (fun d => d.parameters.length) = some 2) := ⟨zTm 1038 rfl rfl, zTm 105 (by decide +kernel) rfl, by decide +kernel⟩
set_option maxRecDepth 100000 in
theorem zg_X11_clear : zcd zm_X11_clear ∈ zT ∧ Cond.initialized zm_X11_clear.1.cls ∈ zT ∧ (zm_X11_clear.1.cls ≠ "java/lang/invoke/MethodHandle" ∧ zm_X11_clear.1.cls ≠ "java/lang/invoke/VarHandle" ∧ (parseMethodDescriptor zm_X11_clear.1.desc).map (fun d => d.parameters.length) = some 0) := ⟨zTm 1034 rfl rfl, zTm 105 (by decide +kernel) rfl, by decide +kernel⟩
set_option maxRecDepth 100000 in
theorem zg_X11_count : zcd zm_X11_count ∈ zT ∧ Cond.initialized zm_X11_count.1.cls ∈ zT ∧ (zm_X11_count.1.cls ≠ "java/lang/invoke/MethodHandle" ∧ zm_X11_count.1.cls ≠ "java/lang/invoke/VarHandle" ∧ (parseMethodDescriptor zm_X11_count.1.desc).map (fun d => d.parameters.length) = some 1) := ⟨zTm 1108 rfl rfl, zTm 105 (by decide +kernel) rfl, by decide +kernel⟩
set_option maxRecDepth 100000 in
theorem zg_X11_digest : zcd zm_X11_digest ∈ zT ∧ Cond.initialized zm_X11_digest.1.cls ∈ zT ∧ (zm_X11_digest.1.cls ≠ "java/lang/invoke/MethodHandle" ∧ zm_X11_digest.1.cls ≠ "java/lang/invoke/VarHandle" ∧ (parseMethodDescriptor zm_X11_digest.1.desc).map (fun d => d.parameters.length) = some 0) := ⟨zTm 1116 rfl rfl, zTm 105 (by decide +kernel) rfl, by decide +kernel⟩
set_option maxRecDepth 100000 in
theorem zg_X11_digestLiterals : zcd zm_X11_digestLiterals ∈ zT ∧ Cond.initialized zm_X11_digestLiterals.1.cls ∈ zT ∧ (zm_X11_digestLiterals.1.cls ≠ "java/lang/invoke/MethodHandle" ∧ zm_X11_digestLiterals.1.cls ≠ "java/lang/invoke/VarHandle" ∧ (parseMethodDescriptor zm_X11_digestLiterals.1.desc).map (fun d => d.parameters.length) = some 2) := ⟨zTm 1124 rfl rfl, zTm 105 (by decide +kernel) rfl, by decide +kernel⟩
set_option maxRecDepth 100000 in
theorem zg_X11_digestStep : zcd zm_X11_digestStep ∈ zT ∧ Cond.initialized zm_X11_digestStep.1.cls ∈ zT ∧ (zm_X11_digestStep.1.cls ≠ "java/lang/invoke/MethodHandle" ∧ zm_X11_digestStep.1.cls ≠ "java/lang/invoke/VarHandle" ∧ (parseMethodDescriptor zm_X11_digestStep.1.desc).map (fun d => d.parameters.length) = some 2) := ⟨zTm 1129 rfl rfl, zTm 105 (by decide +kernel) rfl, by decide +kernel⟩
set_option maxRecDepth 100000 in
theorem zg_X11_draft : zcd zm_X11_draft ∈ zT ∧ Cond.initialized zm_X11_draft.1.cls ∈ zT ∧ (zm_X11_draft.1.cls ≠ "java/lang/invoke/MethodHandle" ∧ zm_X11_draft.1.cls ≠ "java/lang/invoke/VarHandle" ∧ (parseMethodDescriptor zm_X11_draft.1.desc).map (fun d => d.parameters.length) = some 1) := ⟨zTm 541 rfl rfl, zTm 105 (by decide +kernel) rfl, by decide +kernel⟩
set_option maxRecDepth 100000 in
theorem zg_X11_endOfParts : zcd zm_X11_endOfParts ∈ zT ∧ Cond.initialized zm_X11_endOfParts.1.cls ∈ zT ∧ (zm_X11_endOfParts.1.cls ≠ "java/lang/invoke/MethodHandle" ∧ zm_X11_endOfParts.1.cls ≠ "java/lang/invoke/VarHandle" ∧ (parseMethodDescriptor zm_X11_endOfParts.1.desc).map (fun d => d.parameters.length) = some 2) := ⟨zTm 565 rfl rfl, zTm 105 (by decide +kernel) rfl, by decide +kernel⟩
set_option maxRecDepth 100000 in
theorem zg_X11_forge : zcd zm_X11_forge ∈ zT ∧ Cond.initialized zm_X11_forge.1.cls ∈ zT ∧ (zm_X11_forge.1.cls ≠ "java/lang/invoke/MethodHandle" ∧ zm_X11_forge.1.cls ≠ "java/lang/invoke/VarHandle" ∧ (parseMethodDescriptor zm_X11_forge.1.desc).map (fun d => d.parameters.length) = some 3) := ⟨zTm 1057 rfl rfl, zTm 105 (by decide +kernel) rfl, by decide +kernel⟩
set_option maxRecDepth 100000 in
theorem zg_X11_fuel : zcd zm_X11_fuel ∈ zT ∧ Cond.initialized zm_X11_fuel.1.cls ∈ zT ∧ (zm_X11_fuel.1.cls ≠ "java/lang/invoke/MethodHandle" ∧ zm_X11_fuel.1.cls ≠ "java/lang/invoke/VarHandle" ∧ (parseMethodDescriptor zm_X11_fuel.1.desc).map (fun d => d.parameters.length) = some 1) := ⟨zTm 913 rfl rfl, zTm 105 (by decide +kernel) rfl, by decide +kernel⟩
set_option maxRecDepth 100000 in
theorem zg_X11_given : zcd zm_X11_given ∈ zT ∧ Cond.initialized zm_X11_given.1.cls ∈ zT ∧ (zm_X11_given.1.cls ≠ "java/lang/invoke/MethodHandle" ∧ zm_X11_given.1.cls ≠ "java/lang/invoke/VarHandle" ∧ (parseMethodDescriptor zm_X11_given.1.desc).map (fun d => d.parameters.length) = some 0) := ⟨zTm 545 rfl rfl, zTm 105 (by decide +kernel) rfl, by decide +kernel⟩
set_option maxRecDepth 100000 in
theorem zg_X11_hasFuel : zcd zm_X11_hasFuel ∈ zT ∧ Cond.initialized zm_X11_hasFuel.1.cls ∈ zT ∧ (zm_X11_hasFuel.1.cls ≠ "java/lang/invoke/MethodHandle" ∧ zm_X11_hasFuel.1.cls ≠ "java/lang/invoke/VarHandle" ∧ (parseMethodDescriptor zm_X11_hasFuel.1.desc).map (fun d => d.parameters.length) = some 0) := ⟨zTm 1030 rfl rfl, zTm 105 (by decide +kernel) rfl, by decide +kernel⟩
set_option maxRecDepth 100000 in
theorem zg_X11_init : zcd zm_X11_init ∈ zT ∧ Cond.initialized zm_X11_init.1.cls ∈ zT ∧ (zm_X11_init.1.cls ≠ "java/lang/invoke/MethodHandle" ∧ zm_X11_init.1.cls ≠ "java/lang/invoke/VarHandle" ∧ (parseMethodDescriptor zm_X11_init.1.desc).map (fun d => d.parameters.length) = some 0) := ⟨zTm 125 rfl rfl, zTm 105 (by decide +kernel) rfl, by decide +kernel⟩
set_option maxRecDepth 100000 in
theorem zg_X11_judge : zcd zm_X11_judge ∈ zT ∧ Cond.initialized zm_X11_judge.1.cls ∈ zT ∧ (zm_X11_judge.1.cls ≠ "java/lang/invoke/MethodHandle" ∧ zm_X11_judge.1.cls ≠ "java/lang/invoke/VarHandle" ∧ (parseMethodDescriptor zm_X11_judge.1.desc).map (fun d => d.parameters.length) = some 1) := ⟨zTm 1064 rfl rfl, zTm 105 (by decide +kernel) rfl, by decide +kernel⟩
set_option maxRecDepth 100000 in
theorem zg_X11_keep : zcd zm_X11_keep ∈ zT ∧ Cond.initialized zm_X11_keep.1.cls ∈ zT ∧ (zm_X11_keep.1.cls ≠ "java/lang/invoke/MethodHandle" ∧ zm_X11_keep.1.cls ≠ "java/lang/invoke/VarHandle" ∧ (parseMethodDescriptor zm_X11_keep.1.desc).map (fun d => d.parameters.length) = some 1) := ⟨zTm 786 rfl rfl, zTm 105 (by decide +kernel) rfl, by decide +kernel⟩
set_option maxRecDepth 100000 in
theorem zg_X11_literal : zcd zm_X11_literal ∈ zT ∧ Cond.initialized zm_X11_literal.1.cls ∈ zT ∧ (zm_X11_literal.1.cls ≠ "java/lang/invoke/MethodHandle" ∧ zm_X11_literal.1.cls ≠ "java/lang/invoke/VarHandle" ∧ (parseMethodDescriptor zm_X11_literal.1.desc).map (fun d => d.parameters.length) = some 3) := ⟨zTm 1042 rfl rfl, zTm 105 (by decide +kernel) rfl, by decide +kernel⟩
set_option maxRecDepth 100000 in
theorem zg_X11_order : zcd zm_X11_order ∈ zT ∧ Cond.initialized zm_X11_order.1.cls ∈ zT ∧ (zm_X11_order.1.cls ≠ "java/lang/invoke/MethodHandle" ∧ zm_X11_order.1.cls ≠ "java/lang/invoke/VarHandle" ∧ (parseMethodDescriptor zm_X11_order.1.desc).map (fun d => d.parameters.length) = some 4) := ⟨zTm 1098 rfl rfl, zTm 105 (by decide +kernel) rfl, by decide +kernel⟩
set_option maxRecDepth 100000 in
theorem zg_X11_pick : zcd zm_X11_pick ∈ zT ∧ Cond.initialized zm_X11_pick.1.cls ∈ zT ∧ (zm_X11_pick.1.cls ≠ "java/lang/invoke/MethodHandle" ∧ zm_X11_pick.1.cls ≠ "java/lang/invoke/VarHandle" ∧ (parseMethodDescriptor zm_X11_pick.1.desc).map (fun d => d.parameters.length) = some 0) := ⟨zTm 921 rfl rfl, zTm 105 (by decide +kernel) rfl, by decide +kernel⟩
set_option maxRecDepth 100000 in
theorem zg_X11_proof : zcd zm_X11_proof ∈ zT ∧ Cond.initialized zm_X11_proof.1.cls ∈ zT ∧ (zm_X11_proof.1.cls ≠ "java/lang/invoke/MethodHandle" ∧ zm_X11_proof.1.cls ≠ "java/lang/invoke/VarHandle" ∧ (parseMethodDescriptor zm_X11_proof.1.desc).map (fun d => d.parameters.length) = some 1) := ⟨zTm 1078 rfl rfl, zTm 105 (by decide +kernel) rfl, by decide +kernel⟩
set_option maxRecDepth 100000 in
theorem zg_X11_readDraft : zcd zm_X11_readDraft ∈ zT ∧ Cond.initialized zm_X11_readDraft.1.cls ∈ zT ∧ (zm_X11_readDraft.1.cls ≠ "java/lang/invoke/MethodHandle" ∧ zm_X11_readDraft.1.cls ≠ "java/lang/invoke/VarHandle" ∧ (parseMethodDescriptor zm_X11_readDraft.1.desc).map (fun d => d.parameters.length) = some 0) := ⟨zTm 549 rfl rfl, zTm 105 (by decide +kernel) rfl, by decide +kernel⟩
set_option maxRecDepth 100000 in
theorem zg_X11_run : zcd zm_X11_run ∈ zT ∧ Cond.initialized zm_X11_run.1.cls ∈ zT ∧ (zm_X11_run.1.cls ≠ "java/lang/invoke/MethodHandle" ∧ zm_X11_run.1.cls ≠ "java/lang/invoke/VarHandle" ∧ (parseMethodDescriptor zm_X11_run.1.desc).map (fun d => d.parameters.length) = some 1) := ⟨zTm 917 rfl rfl, zTm 105 (by decide +kernel) rfl, by decide +kernel⟩
set_option maxRecDepth 100000 in
theorem zg_X11_settle : zcd zm_X11_settle ∈ zT ∧ Cond.initialized zm_X11_settle.1.cls ∈ zT ∧ (zm_X11_settle.1.cls ≠ "java/lang/invoke/MethodHandle" ∧ zm_X11_settle.1.cls ≠ "java/lang/invoke/VarHandle" ∧ (parseMethodDescriptor zm_X11_settle.1.desc).map (fun d => d.parameters.length) = some 2) := ⟨zTm 592 rfl rfl, zTm 105 (by decide +kernel) rfl, by decide +kernel⟩
set_option maxRecDepth 100000 in
theorem zg_X11_sign : zcd zm_X11_sign ∈ zT ∧ Cond.initialized zm_X11_sign.1.cls ∈ zT ∧ (zm_X11_sign.1.cls ≠ "java/lang/invoke/MethodHandle" ∧ zm_X11_sign.1.cls ≠ "java/lang/invoke/VarHandle" ∧ (parseMethodDescriptor zm_X11_sign.1.desc).map (fun d => d.parameters.length) = some 3) := ⟨zTm 533 rfl rfl, zTm 105 (by decide +kernel) rfl, by decide +kernel⟩
set_option maxRecDepth 100000 in
theorem zg_X11_step : zcd zm_X11_step ∈ zT ∧ Cond.initialized zm_X11_step.1.cls ∈ zT ∧ (zm_X11_step.1.cls ≠ "java/lang/invoke/MethodHandle" ∧ zm_X11_step.1.cls ≠ "java/lang/invoke/VarHandle" ∧ (parseMethodDescriptor zm_X11_step.1.desc).map (fun d => d.parameters.length) = some 2) := ⟨zTm 1049 rfl rfl, zTm 105 (by decide +kernel) rfl, by decide +kernel⟩
set_option maxRecDepth 100000 in
theorem zg_X11_takesIn : zcd zm_X11_takesIn ∈ zT ∧ Cond.initialized zm_X11_takesIn.1.cls ∈ zT ∧ (zm_X11_takesIn.1.cls ≠ "java/lang/invoke/MethodHandle" ∧ zm_X11_takesIn.1.cls ≠ "java/lang/invoke/VarHandle" ∧ (parseMethodDescriptor zm_X11_takesIn.1.desc).map (fun d => d.parameters.length) = some 2) := ⟨zTm 1103 rfl rfl, zTm 105 (by decide +kernel) rfl, by decide +kernel⟩
set_option maxRecDepth 100000 in
theorem zg_X11_turns : zcd zm_X11_turns ∈ zT ∧ Cond.initialized zm_X11_turns.1.cls ∈ zT ∧ (zm_X11_turns.1.cls ≠ "java/lang/invoke/MethodHandle" ∧ zm_X11_turns.1.cls ≠ "java/lang/invoke/VarHandle" ∧ (parseMethodDescriptor zm_X11_turns.1.desc).map (fun d => d.parameters.length) = some 1) := ⟨zTm 909 rfl rfl, zTm 105 (by decide +kernel) rfl, by decide +kernel⟩
set_option maxRecDepth 100000 in
theorem zg_X11_wipe : zcd zm_X11_wipe ∈ zT ∧ Cond.initialized zm_X11_wipe.1.cls ∈ zT ∧ (zm_X11_wipe.1.cls ≠ "java/lang/invoke/MethodHandle" ∧ zm_X11_wipe.1.cls ≠ "java/lang/invoke/VarHandle" ∧ (parseMethodDescriptor zm_X11_wipe.1.desc).map (fun d => d.parameters.length) = some 0) := ⟨zTm 905 rfl rfl, zTm 105 (by decide +kernel) rfl, by decide +kernel⟩
set_option maxRecDepth 100000 in
theorem zg_X12_allTurns : zcd zm_X12_allTurns ∈ zT ∧ Cond.initialized zm_X12_allTurns.1.cls ∈ zT ∧ (zm_X12_allTurns.1.cls ≠ "java/lang/invoke/MethodHandle" ∧ zm_X12_allTurns.1.cls ≠ "java/lang/invoke/VarHandle" ∧ (parseMethodDescriptor zm_X12_allTurns.1.desc).map (fun d => d.parameters.length) = some 4) := ⟨zTm 1570 rfl rfl, zTm 117 (by decide +kernel) rfl, by decide +kernel⟩
set_option maxRecDepth 100000 in
theorem zg_X12_areAlike : zcd zm_X12_areAlike ∈ zT ∧ Cond.initialized zm_X12_areAlike.1.cls ∈ zT ∧ (zm_X12_areAlike.1.cls ≠ "java/lang/invoke/MethodHandle" ∧ zm_X12_areAlike.1.cls ≠ "java/lang/invoke/VarHandle" ∧ (parseMethodDescriptor zm_X12_areAlike.1.desc).map (fun d => d.parameters.length) = some 2) := ⟨zTm 1390 rfl rfl, zTm 117 (by decide +kernel) rfl, by decide +kernel⟩
set_option maxRecDepth 100000 in
theorem zg_X12_areLike : zcd zm_X12_areLike ∈ zT ∧ Cond.initialized zm_X12_areLike.1.cls ∈ zT ∧ (zm_X12_areLike.1.cls ≠ "java/lang/invoke/MethodHandle" ∧ zm_X12_areLike.1.cls ≠ "java/lang/invoke/VarHandle" ∧ (parseMethodDescriptor zm_X12_areLike.1.desc).map (fun d => d.parameters.length) = some 4) := ⟨zTm 1375 rfl rfl, zTm 117 (by decide +kernel) rfl, by decide +kernel⟩
set_option maxRecDepth 100000 in
theorem zg_X12_binds : zcd zm_X12_binds ∈ zT ∧ Cond.initialized zm_X12_binds.1.cls ∈ zT ∧ (zm_X12_binds.1.cls ≠ "java/lang/invoke/MethodHandle" ∧ zm_X12_binds.1.cls ≠ "java/lang/invoke/VarHandle" ∧ (parseMethodDescriptor zm_X12_binds.1.desc).map (fun d => d.parameters.length) = some 2) := ⟨zTm 1526 rfl rfl, zTm 117 (by decide +kernel) rfl, by decide +kernel⟩
set_option maxRecDepth 100000 in
theorem zg_X12_chosenOf : zcd zm_X12_chosenOf ∈ zT ∧ Cond.initialized zm_X12_chosenOf.1.cls ∈ zT ∧ (zm_X12_chosenOf.1.cls ≠ "java/lang/invoke/MethodHandle" ∧ zm_X12_chosenOf.1.cls ≠ "java/lang/invoke/VarHandle" ∧ (parseMethodDescriptor zm_X12_chosenOf.1.desc).map (fun d => d.parameters.length) = some 1) := ⟨zTm 1506 rfl rfl, zTm 117 (by decide +kernel) rfl, by decide +kernel⟩
set_option maxRecDepth 100000 in
theorem zg_X12_claim : zcd zm_X12_claim ∈ zT ∧ Cond.initialized zm_X12_claim.1.cls ∈ zT ∧ (zm_X12_claim.1.cls ≠ "java/lang/invoke/MethodHandle" ∧ zm_X12_claim.1.cls ≠ "java/lang/invoke/VarHandle" ∧ (parseMethodDescriptor zm_X12_claim.1.desc).map (fun d => d.parameters.length) = some 2) := ⟨zTm 1622 rfl rfl, zTm 117 (by decide +kernel) rfl, by decide +kernel⟩
set_option maxRecDepth 100000 in
theorem zg_X12_claimTakes : zcd zm_X12_claimTakes ∈ zT ∧ Cond.initialized zm_X12_claimTakes.1.cls ∈ zT ∧ (zm_X12_claimTakes.1.cls ≠ "java/lang/invoke/MethodHandle" ∧ zm_X12_claimTakes.1.cls ≠ "java/lang/invoke/VarHandle" ∧ (parseMethodDescriptor zm_X12_claimTakes.1.desc).map (fun d => d.parameters.length) = some 2) := ⟨zTm 1454 rfl rfl, zTm 117 (by decide +kernel) rfl, by decide +kernel⟩
set_option maxRecDepth 100000 in
theorem zg_X12_claimTakesWork : zcd zm_X12_claimTakesWork ∈ zT ∧ Cond.initialized zm_X12_claimTakesWork.1.cls ∈ zT ∧ (zm_X12_claimTakesWork.1.cls ≠ "java/lang/invoke/MethodHandle" ∧ zm_X12_claimTakesWork.1.cls ≠ "java/lang/invoke/VarHandle" ∧ (parseMethodDescriptor zm_X12_claimTakesWork.1.desc).map (fun d => d.parameters.length) = some 1) := ⟨zTm 1430 rfl rfl, zTm 117 (by decide +kernel) rfl, by decide +kernel⟩
set_option maxRecDepth 100000 in
theorem zg_X12_clash : zcd zm_X12_clash ∈ zT ∧ Cond.initialized zm_X12_clash.1.cls ∈ zT ∧ (zm_X12_clash.1.cls ≠ "java/lang/invoke/MethodHandle" ∧ zm_X12_clash.1.cls ≠ "java/lang/invoke/VarHandle" ∧ (parseMethodDescriptor zm_X12_clash.1.desc).map (fun d => d.parameters.length) = some 3) := ⟨zTm 1498 rfl rfl, zTm 117 (by decide +kernel) rfl, by decide +kernel⟩
set_option maxRecDepth 100000 in
theorem zg_X12_clashes : zcd zm_X12_clashes ∈ zT ∧ Cond.initialized zm_X12_clashes.1.cls ∈ zT ∧ (zm_X12_clashes.1.cls ≠ "java/lang/invoke/MethodHandle" ∧ zm_X12_clashes.1.cls ≠ "java/lang/invoke/VarHandle" ∧ (parseMethodDescriptor zm_X12_clashes.1.desc).map (fun d => d.parameters.length) = some 4) := ⟨zTm 1486 rfl rfl, zTm 117 (by decide +kernel) rfl, by decide +kernel⟩
set_option maxRecDepth 100000 in
theorem zg_X12_clean : zcd zm_X12_clean ∈ zT ∧ Cond.initialized zm_X12_clean.1.cls ∈ zT ∧ (zm_X12_clean.1.cls ≠ "java/lang/invoke/MethodHandle" ∧ zm_X12_clean.1.cls ≠ "java/lang/invoke/VarHandle" ∧ (parseMethodDescriptor zm_X12_clean.1.desc).map (fun d => d.parameters.length) = some 0) := ⟨zTm 1355 rfl rfl, zTm 117 (by decide +kernel) rfl, by decide +kernel⟩
set_option maxRecDepth 100000 in
theorem zg_X12_clear : zcd zm_X12_clear ∈ zT ∧ Cond.initialized zm_X12_clear.1.cls ∈ zT ∧ (zm_X12_clear.1.cls ≠ "java/lang/invoke/MethodHandle" ∧ zm_X12_clear.1.cls ≠ "java/lang/invoke/VarHandle" ∧ (parseMethodDescriptor zm_X12_clear.1.desc).map (fun d => d.parameters.length) = some 0) := ⟨zTm 1574 rfl rfl, zTm 117 (by decide +kernel) rfl, by decide +kernel⟩
set_option maxRecDepth 100000 in
theorem zg_X12_comes : zcd zm_X12_comes ∈ zT ∧ Cond.initialized zm_X12_comes.1.cls ∈ zT ∧ (zm_X12_comes.1.cls ≠ "java/lang/invoke/MethodHandle" ∧ zm_X12_comes.1.cls ≠ "java/lang/invoke/VarHandle" ∧ (parseMethodDescriptor zm_X12_comes.1.desc).map (fun d => d.parameters.length) = some 1) := ⟨zTm 1546 rfl rfl, zTm 117 (by decide +kernel) rfl, by decide +kernel⟩
set_option maxRecDepth 100000 in
theorem zg_X12_count : zcd zm_X12_count ∈ zT ∧ Cond.initialized zm_X12_count.1.cls ∈ zT ∧ (zm_X12_count.1.cls ≠ "java/lang/invoke/MethodHandle" ∧ zm_X12_count.1.cls ≠ "java/lang/invoke/VarHandle" ∧ (parseMethodDescriptor zm_X12_count.1.desc).map (fun d => d.parameters.length) = some 1) := ⟨zTm 1642 rfl rfl, zTm 117 (by decide +kernel) rfl, by decide +kernel⟩
set_option maxRecDepth 100000 in
theorem zg_X12_digest : zcd zm_X12_digest ∈ zT ∧ Cond.initialized zm_X12_digest.1.cls ∈ zT ∧ (zm_X12_digest.1.cls ≠ "java/lang/invoke/MethodHandle" ∧ zm_X12_digest.1.cls ≠ "java/lang/invoke/VarHandle" ∧ (parseMethodDescriptor zm_X12_digest.1.desc).map (fun d => d.parameters.length) = some 0) := ⟨zTm 1650 rfl rfl, zTm 117 (by decide +kernel) rfl, by decide +kernel⟩
set_option maxRecDepth 100000 in
theorem zg_X12_draft : zcd zm_X12_draft ∈ zT ∧ Cond.initialized zm_X12_draft.1.cls ∈ zT ∧ (zm_X12_draft.1.cls ≠ "java/lang/invoke/MethodHandle" ∧ zm_X12_draft.1.cls ≠ "java/lang/invoke/VarHandle" ∧ (parseMethodDescriptor zm_X12_draft.1.desc).map (fun d => d.parameters.length) = some 1) := ⟨zTm 1331 rfl rfl, zTm 117 (by decide +kernel) rfl, by decide +kernel⟩
set_option maxRecDepth 100000 in
theorem zg_X12_drop : zcd zm_X12_drop ∈ zT ∧ Cond.initialized zm_X12_drop.1.cls ∈ zT ∧ (zm_X12_drop.1.cls ≠ "java/lang/invoke/MethodHandle" ∧ zm_X12_drop.1.cls ≠ "java/lang/invoke/VarHandle" ∧ (parseMethodDescriptor zm_X12_drop.1.desc).map (fun d => d.parameters.length) = some 1) := ⟨zTm 1554 rfl rfl, zTm 117 (by decide +kernel) rfl, by decide +kernel⟩
set_option maxRecDepth 100000 in
theorem zg_X12_endOf : zcd zm_X12_endOf ∈ zT ∧ Cond.initialized zm_X12_endOf.1.cls ∈ zT ∧ (zm_X12_endOf.1.cls ≠ "java/lang/invoke/MethodHandle" ∧ zm_X12_endOf.1.cls ≠ "java/lang/invoke/VarHandle" ∧ (parseMethodDescriptor zm_X12_endOf.1.desc).map (fun d => d.parameters.length) = some 2) := ⟨zTm 1359 rfl rfl, zTm 117 (by decide +kernel) rfl, by decide +kernel⟩
set_option maxRecDepth 100000 in
theorem zg_X12_ends : zcd zm_X12_ends ∈ zT ∧ Cond.initialized zm_X12_ends.1.cls ∈ zT ∧ (zm_X12_ends.1.cls ≠ "java/lang/invoke/MethodHandle" ∧ zm_X12_ends.1.cls ≠ "java/lang/invoke/VarHandle" ∧ (parseMethodDescriptor zm_X12_ends.1.desc).map (fun d => d.parameters.length) = some 7) := ⟨zTm 1347 rfl rfl, zTm 117 (by decide +kernel) rfl, by decide +kernel⟩
set_option maxRecDepth 100000 in
theorem zg_X12_exchange : zcd zm_X12_exchange ∈ zT ∧ Cond.initialized zm_X12_exchange.1.cls ∈ zT ∧ (zm_X12_exchange.1.cls ≠ "java/lang/invoke/MethodHandle" ∧ zm_X12_exchange.1.cls ≠ "java/lang/invoke/VarHandle" ∧ (parseMethodDescriptor zm_X12_exchange.1.desc).map (fun d => d.parameters.length) = some 1) := ⟨zTm 1382 rfl rfl, zTm 117 (by decide +kernel) rfl, by decide +kernel⟩
set_option maxRecDepth 100000 in
theorem zg_X12_factor : zcd zm_X12_factor ∈ zT ∧ Cond.initialized zm_X12_factor.1.cls ∈ zT ∧ (zm_X12_factor.1.cls ≠ "java/lang/invoke/MethodHandle" ∧ zm_X12_factor.1.cls ≠ "java/lang/invoke/VarHandle" ∧ (parseMethodDescriptor zm_X12_factor.1.desc).map (fun d => d.parameters.length) = some 3) := ⟨zTm 1550 rfl rfl, zTm 117 (by decide +kernel) rfl, by decide +kernel⟩
set_option maxRecDepth 100000 in
theorem zg_X12_findRewriting : zcd zm_X12_findRewriting ∈ zT ∧ Cond.initialized zm_X12_findRewriting.1.cls ∈ zT ∧ (zm_X12_findRewriting.1.cls ≠ "java/lang/invoke/MethodHandle" ∧ zm_X12_findRewriting.1.cls ≠ "java/lang/invoke/VarHandle" ∧ (parseMethodDescriptor zm_X12_findRewriting.1.desc).map (fun d => d.parameters.length) = some 0) := ⟨zTm 1394 rfl rfl, zTm 117 (by decide +kernel) rfl, by decide +kernel⟩
set_option maxRecDepth 100000 in
theorem zg_X12_finishes : zcd zm_X12_finishes ∈ zT ∧ Cond.initialized zm_X12_finishes.1.cls ∈ zT ∧ (zm_X12_finishes.1.cls ≠ "java/lang/invoke/MethodHandle" ∧ zm_X12_finishes.1.cls ≠ "java/lang/invoke/VarHandle" ∧ (parseMethodDescriptor zm_X12_finishes.1.desc).map (fun d => d.parameters.length) = some 0) := ⟨zTm 1351 rfl rfl, zTm 117 (by decide +kernel) rfl, by decide +kernel⟩
set_option maxRecDepth 100000 in
theorem zg_X12_forge : zcd zm_X12_forge ∈ zT ∧ Cond.initialized zm_X12_forge.1.cls ∈ zT ∧ (zm_X12_forge.1.cls ≠ "java/lang/invoke/MethodHandle" ∧ zm_X12_forge.1.cls ≠ "java/lang/invoke/VarHandle" ∧ (parseMethodDescriptor zm_X12_forge.1.desc).map (fun d => d.parameters.length) = some 3) := ⟨zTm 1590 rfl rfl, zTm 117 (by decide +kernel) rfl, by decide +kernel⟩
set_option maxRecDepth 100000 in
theorem zg_X12_fuel : zcd zm_X12_fuel ∈ zT ∧ Cond.initialized zm_X12_fuel.1.cls ∈ zT ∧ (zm_X12_fuel.1.cls ≠ "java/lang/invoke/MethodHandle" ∧ zm_X12_fuel.1.cls ≠ "java/lang/invoke/VarHandle" ∧ (parseMethodDescriptor zm_X12_fuel.1.desc).map (fun d => d.parameters.length) = some 1) := ⟨zTm 1462 rfl rfl, zTm 117 (by decide +kernel) rfl, by decide +kernel⟩
set_option maxRecDepth 100000 in
theorem zg_X12_given : zcd zm_X12_given ∈ zT ∧ Cond.initialized zm_X12_given.1.cls ∈ zT ∧ (zm_X12_given.1.cls ≠ "java/lang/invoke/MethodHandle" ∧ zm_X12_given.1.cls ≠ "java/lang/invoke/VarHandle" ∧ (parseMethodDescriptor zm_X12_given.1.desc).map (fun d => d.parameters.length) = some 0) := ⟨zTm 1339 rfl rfl, zTm 117 (by decide +kernel) rfl, by decide +kernel⟩
set_option maxRecDepth 100000 in
theorem zg_X12_goesOn : zcd zm_X12_goesOn ∈ zT ∧ Cond.initialized zm_X12_goesOn.1.cls ∈ zT ∧ (zm_X12_goesOn.1.cls ≠ "java/lang/invoke/MethodHandle" ∧ zm_X12_goesOn.1.cls ≠ "java/lang/invoke/VarHandle" ∧ (parseMethodDescriptor zm_X12_goesOn.1.desc).map (fun d => d.parameters.length) = some 2) := ⟨zTm 1482 rfl rfl, zTm 117 (by decide +kernel) rfl, by decide +kernel⟩
set_option maxRecDepth 100000 in
theorem zg_X12_goesOnMatching : zcd zm_X12_goesOnMatching ∈ zT ∧ Cond.initialized zm_X12_goesOnMatching.1.cls ∈ zT ∧ (zm_X12_goesOnMatching.1.cls ≠ "java/lang/invoke/MethodHandle" ∧ zm_X12_goesOnMatching.1.cls ≠ "java/lang/invoke/VarHandle" ∧ (parseMethodDescriptor zm_X12_goesOnMatching.1.desc).map (fun d => d.parameters.length) = some 5) := ⟨zTm 1446 rfl rfl, zTm 117 (by decide +kernel) rfl, by decide +kernel⟩
set_option maxRecDepth 100000 in
theorem zg_X12_hasLetters : zcd zm_X12_hasLetters ∈ zT ∧ Cond.initialized zm_X12_hasLetters.1.cls ∈ zT ∧ (zm_X12_hasLetters.1.cls ≠ "java/lang/invoke/MethodHandle" ∧ zm_X12_hasLetters.1.cls ≠ "java/lang/invoke/VarHandle" ∧ (parseMethodDescriptor zm_X12_hasLetters.1.desc).map (fun d => d.parameters.length) = some 4) := ⟨zTm 1367 rfl rfl, zTm 117 (by decide +kernel) rfl, by decide +kernel⟩
set_option maxRecDepth 100000 in
theorem zg_X12_hasLikeSides : zcd zm_X12_hasLikeSides ∈ zT ∧ Cond.initialized zm_X12_hasLikeSides.1.cls ∈ zT ∧ (zm_X12_hasLikeSides.1.cls ≠ "java/lang/invoke/MethodHandle" ∧ zm_X12_hasLikeSides.1.cls ≠ "java/lang/invoke/VarHandle" ∧ (parseMethodDescriptor zm_X12_hasLikeSides.1.desc).map (fun d => d.parameters.length) = some 1) := ⟨zTm 1386 rfl rfl, zTm 117 (by decide +kernel) rfl, by decide +kernel⟩
set_option maxRecDepth 100000 in
theorem zg_X12_hasNumber : zcd zm_X12_hasNumber ∈ zT ∧ Cond.initialized zm_X12_hasNumber.1.cls ∈ zT ∧ (zm_X12_hasNumber.1.cls ≠ "java/lang/invoke/MethodHandle" ∧ zm_X12_hasNumber.1.cls ≠ "java/lang/invoke/VarHandle" ∧ (parseMethodDescriptor zm_X12_hasNumber.1.desc).map (fun d => d.parameters.length) = some 2) := ⟨zTm 1586 rfl rfl, zTm 117 (by decide +kernel) rfl, by decide +kernel⟩
set_option maxRecDepth 100000 in
theorem zg_X12_in : zcd zm_X12_in ∈ zT ∧ Cond.initialized zm_X12_in.1.cls ∈ zT ∧ (zm_X12_in.1.cls ≠ "java/lang/invoke/MethodHandle" ∧ zm_X12_in.1.cls ≠ "java/lang/invoke/VarHandle" ∧ (parseMethodDescriptor zm_X12_in.1.desc).map (fun d => d.parameters.length) = some 3) := ⟨zTm 1327 rfl rfl, zTm 117 (by decide +kernel) rfl, by decide +kernel⟩
set_option maxRecDepth 100000 in
theorem zg_X12_inStatus : zcd zm_X12_inStatus ∈ zT ∧ Cond.initialized zm_X12_inStatus.1.cls ∈ zT ∧ (zm_X12_inStatus.1.cls ≠ "java/lang/invoke/MethodHandle" ∧ zm_X12_inStatus.1.cls ≠ "java/lang/invoke/VarHandle" ∧ (parseMethodDescriptor zm_X12_inStatus.1.desc).map (fun d => d.parameters.length) = some 1) := ⟨zTm 1646 rfl rfl, zTm 117 (by decide +kernel) rfl, by decide +kernel⟩
set_option maxRecDepth 100000 in
theorem zg_X12_init : zcd zm_X12_init ∈ zT ∧ Cond.initialized zm_X12_init.1.cls ∈ zT ∧ (zm_X12_init.1.cls ≠ "java/lang/invoke/MethodHandle" ∧ zm_X12_init.1.cls ≠ "java/lang/invoke/VarHandle" ∧ (parseMethodDescriptor zm_X12_init.1.desc).map (fun d => d.parameters.length) = some 0) := ⟨zTm 1135 rfl rfl, zTm 117 (by decide +kernel) rfl, by decide +kernel⟩
set_option maxRecDepth 100000 in
theorem zg_X12_isClaim : zcd zm_X12_isClaim ∈ zT ∧ Cond.initialized zm_X12_isClaim.1.cls ∈ zT ∧ (zm_X12_isClaim.1.cls ≠ "java/lang/invoke/MethodHandle" ∧ zm_X12_isClaim.1.cls ≠ "java/lang/invoke/VarHandle" ∧ (parseMethodDescriptor zm_X12_isClaim.1.desc).map (fun d => d.parameters.length) = some 1) := ⟨zTm 1582 rfl rfl, zTm 117 (by decide +kernel) rfl, by decide +kernel⟩
set_option maxRecDepth 100000 in
theorem zg_X12_isEquation : zcd zm_X12_isEquation ∈ zT ∧ Cond.initialized zm_X12_isEquation.1.cls ∈ zT ∧ (zm_X12_isEquation.1.cls ≠ "java/lang/invoke/MethodHandle" ∧ zm_X12_isEquation.1.cls ≠ "java/lang/invoke/VarHandle" ∧ (parseMethodDescriptor zm_X12_isEquation.1.desc).map (fun d => d.parameters.length) = some 1) := ⟨zTm 1398 rfl rfl, zTm 117 (by decide +kernel) rfl, by decide +kernel⟩
set_option maxRecDepth 100000 in
theorem zg_X12_isGreater : zcd zm_X12_isGreater ∈ zT ∧ Cond.initialized zm_X12_isGreater.1.cls ∈ zT ∧ (zm_X12_isGreater.1.cls ≠ "java/lang/invoke/MethodHandle" ∧ zm_X12_isGreater.1.cls ≠ "java/lang/invoke/VarHandle" ∧ (parseMethodDescriptor zm_X12_isGreater.1.desc).map (fun d => d.parameters.length) = some 4) := ⟨zTm 1363 rfl rfl, zTm 117 (by decide +kernel) rfl, by decide +kernel⟩
set_option maxRecDepth 100000 in
theorem zg_X12_isLike : zcd zm_X12_isLike ∈ zT ∧ Cond.initialized zm_X12_isLike.1.cls ∈ zT ∧ (zm_X12_isLike.1.cls ≠ "java/lang/invoke/MethodHandle" ∧ zm_X12_isLike.1.cls ≠ "java/lang/invoke/VarHandle" ∧ (parseMethodDescriptor zm_X12_isLike.1.desc).map (fun d => d.parameters.length) = some 5) := ⟨zTm 1378 rfl rfl, zTm 117 (by decide +kernel) rfl, by decide +kernel⟩
set_option maxRecDepth 100000 in
theorem zg_X12_isLiteral : zcd zm_X12_isLiteral ∈ zT ∧ Cond.initialized zm_X12_isLiteral.1.cls ∈ zT ∧ (zm_X12_isLiteral.1.cls ≠ "java/lang/invoke/MethodHandle" ∧ zm_X12_isLiteral.1.cls ≠ "java/lang/invoke/VarHandle" ∧ (parseMethodDescriptor zm_X12_isLiteral.1.desc).map (fun d => d.parameters.length) = some 2) := ⟨zTm 1510 rfl rfl, zTm 117 (by decide +kernel) rfl, by decide +kernel⟩
set_option maxRecDepth 100000 in
theorem zg_X12_isPositive : zcd zm_X12_isPositive ∈ zT ∧ Cond.initialized zm_X12_isPositive.1.cls ∈ zT ∧ (zm_X12_isPositive.1.cls ≠ "java/lang/invoke/MethodHandle" ∧ zm_X12_isPositive.1.cls ≠ "java/lang/invoke/VarHandle" ∧ (parseMethodDescriptor zm_X12_isPositive.1.desc).map (fun d => d.parameters.length) = some 1) := ⟨zTm 1502 rfl rfl, zTm 117 (by decide +kernel) rfl, by decide +kernel⟩
set_option maxRecDepth 100000 in
theorem zg_X12_isTakenIn : zcd zm_X12_isTakenIn ∈ zT ∧ Cond.initialized zm_X12_isTakenIn.1.cls ∈ zT ∧ (zm_X12_isTakenIn.1.cls ≠ "java/lang/invoke/MethodHandle" ∧ zm_X12_isTakenIn.1.cls ≠ "java/lang/invoke/VarHandle" ∧ (parseMethodDescriptor zm_X12_isTakenIn.1.desc).map (fun d => d.parameters.length) = some 0) := ⟨zTm 1426 rfl rfl, zTm 117 (by decide +kernel) rfl, by decide +kernel⟩
set_option maxRecDepth 100000 in
theorem zg_X12_isTrivial : zcd zm_X12_isTrivial ∈ zT ∧ Cond.initialized zm_X12_isTrivial.1.cls ∈ zT ∧ (zm_X12_isTrivial.1.cls ≠ "java/lang/invoke/MethodHandle" ∧ zm_X12_isTrivial.1.cls ≠ "java/lang/invoke/VarHandle" ∧ (parseMethodDescriptor zm_X12_isTrivial.1.desc).map (fun d => d.parameters.length) = some 0) := ⟨zTm 1422 rfl rfl, zTm 117 (by decide +kernel) rfl, by decide +kernel⟩
set_option maxRecDepth 100000 in
theorem zg_X12_isWork : zcd zm_X12_isWork ∈ zT ∧ Cond.initialized zm_X12_isWork.1.cls ∈ zT ∧ (zm_X12_isWork.1.cls ≠ "java/lang/invoke/MethodHandle" ∧ zm_X12_isWork.1.cls ≠ "java/lang/invoke/VarHandle" ∧ (parseMethodDescriptor zm_X12_isWork.1.desc).map (fun d => d.parameters.length) = some 1) := ⟨zTm 1610 rfl rfl, zTm 117 (by decide +kernel) rfl, by decide +kernel⟩
set_option maxRecDepth 100000 in
theorem zg_X12_judge : zcd zm_X12_judge ∈ zT ∧ Cond.initialized zm_X12_judge.1.cls ∈ zT ∧ (zm_X12_judge.1.cls ≠ "java/lang/invoke/MethodHandle" ∧ zm_X12_judge.1.cls ≠ "java/lang/invoke/VarHandle" ∧ (parseMethodDescriptor zm_X12_judge.1.desc).map (fun d => d.parameters.length) = some 1) := ⟨zTm 1594 rfl rfl, zTm 117 (by decide +kernel) rfl, by decide +kernel⟩
set_option maxRecDepth 100000 in
theorem zg_X12_layWork : zcd zm_X12_layWork ∈ zT ∧ Cond.initialized zm_X12_layWork.1.cls ∈ zT ∧ (zm_X12_layWork.1.cls ≠ "java/lang/invoke/MethodHandle" ∧ zm_X12_layWork.1.cls ≠ "java/lang/invoke/VarHandle" ∧ (parseMethodDescriptor zm_X12_layWork.1.desc).map (fun d => d.parameters.length) = some 1) := ⟨zTm 1450 rfl rfl, zTm 117 (by decide +kernel) rfl, by decide +kernel⟩
set_option maxRecDepth 100000 in
theorem zg_X12_lays : zcd zm_X12_lays ∈ zT ∧ Cond.initialized zm_X12_lays.1.cls ∈ zT ∧ (zm_X12_lays.1.cls ≠ "java/lang/invoke/MethodHandle" ∧ zm_X12_lays.1.cls ≠ "java/lang/invoke/VarHandle" ∧ (parseMethodDescriptor zm_X12_lays.1.desc).map (fun d => d.parameters.length) = some 2) := ⟨zTm 1418 rfl rfl, zTm 117 (by decide +kernel) rfl, by decide +kernel⟩
set_option maxRecDepth 100000 in
theorem zg_X12_lettersOf : zcd zm_X12_lettersOf ∈ zT ∧ Cond.initialized zm_X12_lettersOf.1.cls ∈ zT ∧ (zm_X12_lettersOf.1.cls ≠ "java/lang/invoke/MethodHandle" ∧ zm_X12_lettersOf.1.cls ≠ "java/lang/invoke/VarHandle" ∧ (parseMethodDescriptor zm_X12_lettersOf.1.desc).map (fun d => d.parameters.length) = some 1) := ⟨zTm 1626 rfl rfl, zTm 117 (by decide +kernel) rfl, by decide +kernel⟩
set_option maxRecDepth 100000 in
theorem zg_X12_literal : zcd zm_X12_literal ∈ zT ∧ Cond.initialized zm_X12_literal.1.cls ∈ zT ∧ (zm_X12_literal.1.cls ≠ "java/lang/invoke/MethodHandle" ∧ zm_X12_literal.1.cls ≠ "java/lang/invoke/VarHandle" ∧ (parseMethodDescriptor zm_X12_literal.1.desc).map (fun d => d.parameters.length) = some 3) := ⟨zTm 1630 rfl rfl, zTm 117 (by decide +kernel) rfl, by decide +kernel⟩
set_option maxRecDepth 100000 in
theorem zg_X12_makeOther : zcd zm_X12_makeOther ∈ zT ∧ Cond.initialized zm_X12_makeOther.1.cls ∈ zT ∧ (zm_X12_makeOther.1.cls ≠ "java/lang/invoke/MethodHandle" ∧ zm_X12_makeOther.1.cls ≠ "java/lang/invoke/VarHandle" ∧ (parseMethodDescriptor zm_X12_makeOther.1.desc).map (fun d => d.parameters.length) = some 2) := ⟨zTm 1414 rfl rfl, zTm 117 (by decide +kernel) rfl, by decide +kernel⟩
set_option maxRecDepth 100000 in
theorem zg_X12_makes : zcd zm_X12_makes ∈ zT ∧ Cond.initialized zm_X12_makes.1.cls ∈ zT ∧ (zm_X12_makes.1.cls ≠ "java/lang/invoke/MethodHandle" ∧ zm_X12_makes.1.cls ≠ "java/lang/invoke/VarHandle" ∧ (parseMethodDescriptor zm_X12_makes.1.desc).map (fun d => d.parameters.length) = some 7) := ⟨zTm 1494 rfl rfl, zTm 117 (by decide +kernel) rfl, by decide +kernel⟩
set_option maxRecDepth 100000 in
theorem zg_X12_makesAgain : zcd zm_X12_makesAgain ∈ zT ∧ Cond.initialized zm_X12_makesAgain.1.cls ∈ zT ∧ (zm_X12_makesAgain.1.cls ≠ "java/lang/invoke/MethodHandle" ∧ zm_X12_makesAgain.1.cls ≠ "java/lang/invoke/VarHandle" ∧ (parseMethodDescriptor zm_X12_makesAgain.1.desc).map (fun d => d.parameters.length) = some 1) := ⟨zTm 1598 rfl rfl, zTm 117 (by decide +kernel) rfl, by decide +kernel⟩
set_option maxRecDepth 100000 in
theorem zg_X12_matchesTerm : zcd zm_X12_matchesTerm ∈ zT ∧ Cond.initialized zm_X12_matchesTerm.1.cls ∈ zT ∧ (zm_X12_matchesTerm.1.cls ≠ "java/lang/invoke/MethodHandle" ∧ zm_X12_matchesTerm.1.cls ≠ "java/lang/invoke/VarHandle" ∧ (parseMethodDescriptor zm_X12_matchesTerm.1.desc).map (fun d => d.parameters.length) = some 3) := ⟨zTm 1410 rfl rfl, zTm 117 (by decide +kernel) rfl, by decide +kernel⟩
set_option maxRecDepth 100000 in
theorem zg_X12_names : zcd zm_X12_names ∈ zT ∧ Cond.initialized zm_X12_names.1.cls ∈ zT ∧ (zm_X12_names.1.cls ≠ "java/lang/invoke/MethodHandle" ∧ zm_X12_names.1.cls ≠ "java/lang/invoke/VarHandle" ∧ (parseMethodDescriptor zm_X12_names.1.desc).map (fun d => d.parameters.length) = some 1) := ⟨zTm 1618 rfl rfl, zTm 117 (by decide +kernel) rfl, by decide +kernel⟩
set_option maxRecDepth 100000 in
theorem zg_X12_namesEarlier : zcd zm_X12_namesEarlier ∈ zT ∧ Cond.initialized zm_X12_namesEarlier.1.cls ∈ zT ∧ (zm_X12_namesEarlier.1.cls ≠ "java/lang/invoke/MethodHandle" ∧ zm_X12_namesEarlier.1.cls ≠ "java/lang/invoke/VarHandle" ∧ (parseMethodDescriptor zm_X12_namesEarlier.1.desc).map (fun d => d.parameters.length) = some 1) := ⟨zTm 1602 rfl rfl, zTm 117 (by decide +kernel) rfl, by decide +kernel⟩
set_option maxRecDepth 100000 in
theorem zg_X12_occurs : zcd zm_X12_occurs ∈ zT ∧ Cond.initialized zm_X12_occurs.1.cls ∈ zT ∧ (zm_X12_occurs.1.cls ≠ "java/lang/invoke/MethodHandle" ∧ zm_X12_occurs.1.cls ≠ "java/lang/invoke/VarHandle" ∧ (parseMethodDescriptor zm_X12_occurs.1.desc).map (fun d => d.parameters.length) = some 2) := ⟨zTm 1530 rfl rfl, zTm 117 (by decide +kernel) rfl, by decide +kernel⟩
set_option maxRecDepth 100000 in
theorem zg_X12_order : zcd zm_X12_order ∈ zT ∧ Cond.initialized zm_X12_order.1.cls ∈ zT ∧ (zm_X12_order.1.cls ≠ "java/lang/invoke/MethodHandle" ∧ zm_X12_order.1.cls ≠ "java/lang/invoke/VarHandle" ∧ (parseMethodDescriptor zm_X12_order.1.desc).map (fun d => d.parameters.length) = some 4) := ⟨zTm 1634 rfl rfl, zTm 117 (by decide +kernel) rfl, by decide +kernel⟩
set_option maxRecDepth 100000 in
theorem zg_X12_pick : zcd zm_X12_pick ∈ zT ∧ Cond.initialized zm_X12_pick.1.cls ∈ zT ∧ (zm_X12_pick.1.cls ≠ "java/lang/invoke/MethodHandle" ∧ zm_X12_pick.1.cls ≠ "java/lang/invoke/VarHandle" ∧ (parseMethodDescriptor zm_X12_pick.1.desc).map (fun d => d.parameters.length) = some 0) := ⟨zTm 1470 rfl rfl, zTm 117 (by decide +kernel) rfl, by decide +kernel⟩
set_option maxRecDepth 100000 in
theorem zg_X12_proof : zcd zm_X12_proof ∈ zT ∧ Cond.initialized zm_X12_proof.1.cls ∈ zT ∧ (zm_X12_proof.1.cls ≠ "java/lang/invoke/MethodHandle" ∧ zm_X12_proof.1.cls ≠ "java/lang/invoke/VarHandle" ∧ (parseMethodDescriptor zm_X12_proof.1.desc).map (fun d => d.parameters.length) = some 1) := ⟨zTm 1614 rfl rfl, zTm 117 (by decide +kernel) rfl, by decide +kernel⟩
set_option maxRecDepth 100000 in
theorem zg_X12_put : zcd zm_X12_put ∈ zT ∧ Cond.initialized zm_X12_put.1.cls ∈ zT ∧ (zm_X12_put.1.cls ≠ "java/lang/invoke/MethodHandle" ∧ zm_X12_put.1.cls ≠ "java/lang/invoke/VarHandle" ∧ (parseMethodDescriptor zm_X12_put.1.desc).map (fun d => d.parameters.length) = some 1) := ⟨zTm 1542 rfl rfl, zTm 117 (by decide +kernel) rfl, by decide +kernel⟩
set_option maxRecDepth 100000 in
theorem zg_X12_reads : zcd zm_X12_reads ∈ zT ∧ Cond.initialized zm_X12_reads.1.cls ∈ zT ∧ (zm_X12_reads.1.cls ≠ "java/lang/invoke/MethodHandle" ∧ zm_X12_reads.1.cls ≠ "java/lang/invoke/VarHandle" ∧ (parseMethodDescriptor zm_X12_reads.1.desc).map (fun d => d.parameters.length) = some 0) := ⟨zTm 1343 rfl rfl, zTm 117 (by decide +kernel) rfl, by decide +kernel⟩
set_option maxRecDepth 100000 in
theorem zg_X12_restore : zcd zm_X12_restore ∈ zT ∧ Cond.initialized zm_X12_restore.1.cls ∈ zT ∧ (zm_X12_restore.1.cls ≠ "java/lang/invoke/MethodHandle" ∧ zm_X12_restore.1.cls ≠ "java/lang/invoke/VarHandle" ∧ (parseMethodDescriptor zm_X12_restore.1.desc).map (fun d => d.parameters.length) = some 1) := ⟨zTm 1442 rfl rfl, zTm 117 (by decide +kernel) rfl, by decide +kernel⟩
set_option maxRecDepth 100000 in
theorem zg_X12_rewrites : zcd zm_X12_rewrites ∈ zT ∧ Cond.initialized zm_X12_rewrites.1.cls ∈ zT ∧ (zm_X12_rewrites.1.cls ≠ "java/lang/invoke/MethodHandle" ∧ zm_X12_rewrites.1.cls ≠ "java/lang/invoke/VarHandle" ∧ (parseMethodDescriptor zm_X12_rewrites.1.desc).map (fun d => d.parameters.length) = some 4) := ⟨zTm 1402 rfl rfl, zTm 117 (by decide +kernel) rfl, by decide +kernel⟩
set_option maxRecDepth 100000 in
theorem zg_X12_rewritesAgain : zcd zm_X12_rewritesAgain ∈ zT ∧ Cond.initialized zm_X12_rewritesAgain.1.cls ∈ zT ∧ (zm_X12_rewritesAgain.1.cls ≠ "java/lang/invoke/MethodHandle" ∧ zm_X12_rewritesAgain.1.cls ≠ "java/lang/invoke/VarHandle" ∧ (parseMethodDescriptor zm_X12_rewritesAgain.1.desc).map (fun d => d.parameters.length) = some 1) := ⟨zTm 1606 rfl rfl, zTm 117 (by decide +kernel) rfl, by decide +kernel⟩
set_option maxRecDepth 100000 in
theorem zg_X12_run : zcd zm_X12_run ∈ zT ∧ Cond.initialized zm_X12_run.1.cls ∈ zT ∧ (zm_X12_run.1.cls ≠ "java/lang/invoke/MethodHandle" ∧ zm_X12_run.1.cls ≠ "java/lang/invoke/VarHandle" ∧ (parseMethodDescriptor zm_X12_run.1.desc).map (fun d => d.parameters.length) = some 1) := ⟨zTm 1466 rfl rfl, zTm 117 (by decide +kernel) rfl, by decide +kernel⟩
set_option maxRecDepth 100000 in
theorem zg_X12_save : zcd zm_X12_save ∈ zT ∧ Cond.initialized zm_X12_save.1.cls ∈ zT ∧ (zm_X12_save.1.cls ≠ "java/lang/invoke/MethodHandle" ∧ zm_X12_save.1.cls ≠ "java/lang/invoke/VarHandle" ∧ (parseMethodDescriptor zm_X12_save.1.desc).map (fun d => d.parameters.length) = some 1) := ⟨zTm 1438 rfl rfl, zTm 117 (by decide +kernel) rfl, by decide +kernel⟩
set_option maxRecDepth 100000 in
theorem zg_X12_sign : zcd zm_X12_sign ∈ zT ∧ Cond.initialized zm_X12_sign.1.cls ∈ zT ∧ (zm_X12_sign.1.cls ≠ "java/lang/invoke/MethodHandle" ∧ zm_X12_sign.1.cls ≠ "java/lang/invoke/VarHandle" ∧ (parseMethodDescriptor zm_X12_sign.1.desc).map (fun d => d.parameters.length) = some 3) := ⟨zTm 1324 rfl rfl, zTm 117 (by decide +kernel) rfl, by decide +kernel⟩
set_option maxRecDepth 100000 in
theorem zg_X12_standsAt : zcd zm_X12_standsAt ∈ zT ∧ Cond.initialized zm_X12_standsAt.1.cls ∈ zT ∧ (zm_X12_standsAt.1.cls ≠ "java/lang/invoke/MethodHandle" ∧ zm_X12_standsAt.1.cls ≠ "java/lang/invoke/VarHandle" ∧ (parseMethodDescriptor zm_X12_standsAt.1.desc).map (fun d => d.parameters.length) = some 1) := ⟨zTm 1522 rfl rfl, zTm 117 (by decide +kernel) rfl, by decide +kernel⟩
set_option maxRecDepth 100000 in
theorem zg_X12_step : zcd zm_X12_step ∈ zT ∧ Cond.initialized zm_X12_step.1.cls ∈ zT ∧ (zm_X12_step.1.cls ≠ "java/lang/invoke/MethodHandle" ∧ zm_X12_step.1.cls ≠ "java/lang/invoke/VarHandle" ∧ (parseMethodDescriptor zm_X12_step.1.desc).map (fun d => d.parameters.length) = some 2) := ⟨zTm 1578 rfl rfl, zTm 117 (by decide +kernel) rfl, by decide +kernel⟩
set_option maxRecDepth 100000 in
theorem zg_X12_take : zcd zm_X12_take ∈ zT ∧ Cond.initialized zm_X12_take.1.cls ∈ zT ∧ (zm_X12_take.1.cls ≠ "java/lang/invoke/MethodHandle" ∧ zm_X12_take.1.cls ≠ "java/lang/invoke/VarHandle" ∧ (parseMethodDescriptor zm_X12_take.1.desc).map (fun d => d.parameters.length) = some 2) := ⟨zTm 1514 rfl rfl, zTm 117 (by decide +kernel) rfl, by decide +kernel⟩
set_option maxRecDepth 100000 in
theorem zg_X12_takes : zcd zm_X12_takes ∈ zT ∧ Cond.initialized zm_X12_takes.1.cls ∈ zT ∧ (zm_X12_takes.1.cls ≠ "java/lang/invoke/MethodHandle" ∧ zm_X12_takes.1.cls ≠ "java/lang/invoke/VarHandle" ∧ (parseMethodDescriptor zm_X12_takes.1.desc).map (fun d => d.parameters.length) = some 10) := ⟨zTm 1434 rfl rfl, zTm 117 (by decide +kernel) rfl, by decide +kernel⟩
set_option maxRecDepth 100000 in
theorem zg_X12_takesIn : zcd zm_X12_takesIn ∈ zT ∧ Cond.initialized zm_X12_takesIn.1.cls ∈ zT ∧ (zm_X12_takesIn.1.cls ≠ "java/lang/invoke/MethodHandle" ∧ zm_X12_takesIn.1.cls ≠ "java/lang/invoke/VarHandle" ∧ (parseMethodDescriptor zm_X12_takesIn.1.desc).map (fun d => d.parameters.length) = some 2) := ⟨zTm 1638 rfl rfl, zTm 117 (by decide +kernel) rfl, by decide +kernel⟩
set_option maxRecDepth 100000 in
theorem zg_X12_tries : zcd zm_X12_tries ∈ zT ∧ Cond.initialized zm_X12_tries.1.cls ∈ zT ∧ (zm_X12_tries.1.cls ≠ "java/lang/invoke/MethodHandle" ∧ zm_X12_tries.1.cls ≠ "java/lang/invoke/VarHandle" ∧ (parseMethodDescriptor zm_X12_tries.1.desc).map (fun d => d.parameters.length) = some 7) := ⟨zTm 1490 rfl rfl, zTm 117 (by decide +kernel) rfl, by decide +kernel⟩
set_option maxRecDepth 100000 in
theorem zg_X12_turn : zcd zm_X12_turn ∈ zT ∧ Cond.initialized zm_X12_turn.1.cls ∈ zT ∧ (zm_X12_turn.1.cls ≠ "java/lang/invoke/MethodHandle" ∧ zm_X12_turn.1.cls ≠ "java/lang/invoke/VarHandle" ∧ (parseMethodDescriptor zm_X12_turn.1.desc).map (fun d => d.parameters.length) = some 6) := ⟨zTm 1558 rfl rfl, zTm 117 (by decide +kernel) rfl, by decide +kernel⟩
set_option maxRecDepth 100000 in
theorem zg_X12_turnWrites : zcd zm_X12_turnWrites ∈ zT ∧ Cond.initialized zm_X12_turnWrites.1.cls ∈ zT ∧ (zm_X12_turnWrites.1.cls ≠ "java/lang/invoke/MethodHandle" ∧ zm_X12_turnWrites.1.cls ≠ "java/lang/invoke/VarHandle" ∧ (parseMethodDescriptor zm_X12_turnWrites.1.desc).map (fun d => d.parameters.length) = some 6) := ⟨zTm 1562 rfl rfl, zTm 117 (by decide +kernel) rfl, by decide +kernel⟩
set_option maxRecDepth 100000 in
theorem zg_X12_turns : zcd zm_X12_turns ∈ zT ∧ Cond.initialized zm_X12_turns.1.cls ∈ zT ∧ (zm_X12_turns.1.cls ≠ "java/lang/invoke/MethodHandle" ∧ zm_X12_turns.1.cls ≠ "java/lang/invoke/VarHandle" ∧ (parseMethodDescriptor zm_X12_turns.1.desc).map (fun d => d.parameters.length) = some 1) := ⟨zTm 1458 rfl rfl, zTm 117 (by decide +kernel) rfl, by decide +kernel⟩
set_option maxRecDepth 100000 in
theorem zg_X12_unbind : zcd zm_X12_unbind ∈ zT ∧ Cond.initialized zm_X12_unbind.1.cls ∈ zT ∧ (zm_X12_unbind.1.cls ≠ "java/lang/invoke/MethodHandle" ∧ zm_X12_unbind.1.cls ≠ "java/lang/invoke/VarHandle" ∧ (parseMethodDescriptor zm_X12_unbind.1.desc).map (fun d => d.parameters.length) = some 0) := ⟨zTm 1406 rfl rfl, zTm 117 (by decide +kernel) rfl, by decide +kernel⟩
set_option maxRecDepth 100000 in
theorem zg_X12_unites : zcd zm_X12_unites ∈ zT ∧ Cond.initialized zm_X12_unites.1.cls ∈ zT ∧ (zm_X12_unites.1.cls ≠ "java/lang/invoke/MethodHandle" ∧ zm_X12_unites.1.cls ≠ "java/lang/invoke/VarHandle" ∧ (parseMethodDescriptor zm_X12_unites.1.desc).map (fun d => d.parameters.length) = some 2) := ⟨zTm 1518 rfl rfl, zTm 117 (by decide +kernel) rfl, by decide +kernel⟩
set_option maxRecDepth 100000 in
theorem zg_X12_weightOf : zcd zm_X12_weightOf ∈ zT ∧ Cond.initialized zm_X12_weightOf.1.cls ∈ zT ∧ (zm_X12_weightOf.1.cls ≠ "java/lang/invoke/MethodHandle" ∧ zm_X12_weightOf.1.cls ≠ "java/lang/invoke/VarHandle" ∧ (parseMethodDescriptor zm_X12_weightOf.1.desc).map (fun d => d.parameters.length) = some 3) := ⟨zTm 1371 rfl rfl, zTm 117 (by decide +kernel) rfl, by decide +kernel⟩
set_option maxRecDepth 100000 in
theorem zg_X12_weightOfClaim : zcd zm_X12_weightOfClaim ∈ zT ∧ Cond.initialized zm_X12_weightOfClaim.1.cls ∈ zT ∧ (zm_X12_weightOfClaim.1.cls ≠ "java/lang/invoke/MethodHandle" ∧ zm_X12_weightOfClaim.1.cls ≠ "java/lang/invoke/VarHandle" ∧ (parseMethodDescriptor zm_X12_weightOfClaim.1.desc).map (fun d => d.parameters.length) = some 1) := ⟨zTm 1474 rfl rfl, zTm 117 (by decide +kernel) rfl, by decide +kernel⟩
set_option maxRecDepth 100000 in
theorem zg_X12_wipe : zcd zm_X12_wipe ∈ zT ∧ Cond.initialized zm_X12_wipe.1.cls ∈ zT ∧ (zm_X12_wipe.1.cls ≠ "java/lang/invoke/MethodHandle" ∧ zm_X12_wipe.1.cls ≠ "java/lang/invoke/VarHandle" ∧ (parseMethodDescriptor zm_X12_wipe.1.desc).map (fun d => d.parameters.length) = some 0) := ⟨zTm 1335 rfl rfl, zTm 117 (by decide +kernel) rfl, by decide +kernel⟩
set_option maxRecDepth 100000 in
theorem zg_X12_works : zcd zm_X12_works ∈ zT ∧ Cond.initialized zm_X12_works.1.cls ∈ zT ∧ (zm_X12_works.1.cls ≠ "java/lang/invoke/MethodHandle" ∧ zm_X12_works.1.cls ≠ "java/lang/invoke/VarHandle" ∧ (parseMethodDescriptor zm_X12_works.1.desc).map (fun d => d.parameters.length) = some 1) := ⟨zTm 1478 rfl rfl, zTm 117 (by decide +kernel) rfl, by decide +kernel⟩
set_option maxRecDepth 100000 in
theorem zg_X12_write : zcd zm_X12_write ∈ zT ∧ Cond.initialized zm_X12_write.1.cls ∈ zT ∧ (zm_X12_write.1.cls ≠ "java/lang/invoke/MethodHandle" ∧ zm_X12_write.1.cls ≠ "java/lang/invoke/VarHandle" ∧ (parseMethodDescriptor zm_X12_write.1.desc).map (fun d => d.parameters.length) = some 1) := ⟨zTm 1538 rfl rfl, zTm 117 (by decide +kernel) rfl, by decide +kernel⟩
set_option maxRecDepth 100000 in
theorem zg_X12_writeTurned : zcd zm_X12_writeTurned ∈ zT ∧ Cond.initialized zm_X12_writeTurned.1.cls ∈ zT ∧ (zm_X12_writeTurned.1.cls ≠ "java/lang/invoke/MethodHandle" ∧ zm_X12_writeTurned.1.cls ≠ "java/lang/invoke/VarHandle" ∧ (parseMethodDescriptor zm_X12_writeTurned.1.desc).map (fun d => d.parameters.length) = some 4) := ⟨zTm 1566 rfl rfl, zTm 117 (by decide +kernel) rfl, by decide +kernel⟩
set_option maxRecDepth 100000 in
theorem zg_X12_writesAll : zcd zm_X12_writesAll ∈ zT ∧ Cond.initialized zm_X12_writesAll.1.cls ∈ zT ∧ (zm_X12_writesAll.1.cls ≠ "java/lang/invoke/MethodHandle" ∧ zm_X12_writesAll.1.cls ≠ "java/lang/invoke/VarHandle" ∧ (parseMethodDescriptor zm_X12_writesAll.1.desc).map (fun d => d.parameters.length) = some 3) := ⟨zTm 1534 rfl rfl, zTm 117 (by decide +kernel) rfl, by decide +kernel⟩
set_option maxRecDepth 100000 in
theorem zg_X1_fill : zcd zm_X1_fill ∈ zT ∧ Cond.initialized zm_X1_fill.1.cls ∈ zT ∧ (zm_X1_fill.1.cls ≠ "java/lang/invoke/MethodHandle" ∧ zm_X1_fill.1.cls ≠ "java/lang/invoke/VarHandle" ∧ (parseMethodDescriptor zm_X1_fill.1.desc).map (fun d => d.parameters.length) = some 3) := ⟨zTm 876 rfl rfl, zTm 120 (by decide +kernel) rfl, by decide +kernel⟩
set_option maxRecDepth 100000 in
theorem zg_X1_hasRewritingNumber : zcd zm_X1_hasRewritingNumber ∈ zT ∧ Cond.initialized zm_X1_hasRewritingNumber.1.cls ∈ zT ∧ (zm_X1_hasRewritingNumber.1.cls ≠ "java/lang/invoke/MethodHandle" ∧ zm_X1_hasRewritingNumber.1.cls ≠ "java/lang/invoke/VarHandle" ∧ (parseMethodDescriptor zm_X1_hasRewritingNumber.1.desc).map (fun d => d.parameters.length) = some 1) := ⟨zTm 1053 rfl rfl, zTm 120 (by decide +kernel) rfl, by decide +kernel⟩
set_option maxRecDepth 100000 in
theorem zg_X1_init : zcd zm_X1_init ∈ zT ∧ Cond.initialized zm_X1_init.1.cls ∈ zT ∧ (zm_X1_init.1.cls ≠ "java/lang/invoke/MethodHandle" ∧ zm_X1_init.1.cls ≠ "java/lang/invoke/VarHandle" ∧ (parseMethodDescriptor zm_X1_init.1.desc).map (fun d => d.parameters.length) = some 0) := ⟨zTm 794 rfl rfl, zTm 120 (by decide +kernel) rfl, by decide +kernel⟩
set_option maxRecDepth 100000 in
theorem zg_X1_isPositive : zcd zm_X1_isPositive ∈ zT ∧ Cond.initialized zm_X1_isPositive.1.cls ∈ zT ∧ (zm_X1_isPositive.1.cls ≠ "java/lang/invoke/MethodHandle" ∧ zm_X1_isPositive.1.cls ≠ "java/lang/invoke/VarHandle" ∧ (parseMethodDescriptor zm_X1_isPositive.1.desc).map (fun d => d.parameters.length) = some 0) := ⟨zTm 941 rfl rfl, zTm 120 (by decide +kernel) rfl, by decide +kernel⟩
set_option maxRecDepth 100000 in
theorem zg_X1_isThere : zcd zm_X1_isThere ∈ zT ∧ Cond.initialized zm_X1_isThere.1.cls ∈ zT ∧ (zm_X1_isThere.1.cls ≠ "java/lang/invoke/MethodHandle" ∧ zm_X1_isThere.1.cls ≠ "java/lang/invoke/VarHandle" ∧ (parseMethodDescriptor zm_X1_isThere.1.desc).map (fun d => d.parameters.length) = some 0) := ⟨zTm 686 rfl rfl, zTm 120 (by decide +kernel) rfl, by decide +kernel⟩
set_option maxRecDepth 100000 in
theorem zg_X1_kind : zcd zm_X1_kind ∈ zT ∧ Cond.initialized zm_X1_kind.1.cls ∈ zT ∧ (zm_X1_kind.1.cls ≠ "java/lang/invoke/MethodHandle" ∧ zm_X1_kind.1.cls ≠ "java/lang/invoke/VarHandle" ∧ (parseMethodDescriptor zm_X1_kind.1.desc).map (fun d => d.parameters.length) = some 0) := ⟨zTm 897 rfl rfl, zTm 120 (by decide +kernel) rfl, by decide +kernel⟩
set_option maxRecDepth 100000 in
theorem zg_X1_tellRule : zcd zm_X1_tellRule ∈ zT ∧ Cond.initialized zm_X1_tellRule.1.cls ∈ zT ∧ (zm_X1_tellRule.1.cls ≠ "java/lang/invoke/MethodHandle" ∧ zm_X1_tellRule.1.cls ≠ "java/lang/invoke/VarHandle" ∧ (parseMethodDescriptor zm_X1_tellRule.1.desc).map (fun d => d.parameters.length) = some 2) := ⟨zTm 885 rfl rfl, zTm 120 (by decide +kernel) rfl, by decide +kernel⟩
set_option maxRecDepth 100000 in
theorem zg_X1_tellStep : zcd zm_X1_tellStep ∈ zT ∧ Cond.initialized zm_X1_tellStep.1.cls ∈ zT ∧ (zm_X1_tellStep.1.cls ≠ "java/lang/invoke/MethodHandle" ∧ zm_X1_tellStep.1.cls ≠ "java/lang/invoke/VarHandle" ∧ (parseMethodDescriptor zm_X1_tellStep.1.desc).map (fun d => d.parameters.length) = some 3) := ⟨zTm 892 rfl rfl, zTm 120 (by decide +kernel) rfl, by decide +kernel⟩
set_option maxRecDepth 100000 in
theorem zg_X2_clean : zcd zm_X2_clean ∈ zT ∧ Cond.initialized zm_X2_clean.1.cls ∈ zT ∧ (zm_X2_clean.1.cls ≠ "java/lang/invoke/MethodHandle" ∧ zm_X2_clean.1.cls ≠ "java/lang/invoke/VarHandle" ∧ (parseMethodDescriptor zm_X2_clean.1.desc).map (fun d => d.parameters.length) = some 1) := ⟨zTm 596 rfl rfl, zTm 112 (by decide +kernel) rfl, by decide +kernel⟩
set_option maxRecDepth 100000 in
theorem zg_X2_goes : zcd zm_X2_goes ∈ zT ∧ Cond.initialized zm_X2_goes.1.cls ∈ zT ∧ (zm_X2_goes.1.cls ≠ "java/lang/invoke/MethodHandle" ∧ zm_X2_goes.1.cls ≠ "java/lang/invoke/VarHandle" ∧ (parseMethodDescriptor zm_X2_goes.1.desc).map (fun d => d.parameters.length) = some 2) := ⟨zTm 647 rfl rfl, zTm 112 (by decide +kernel) rfl, by decide +kernel⟩
set_option maxRecDepth 100000 in
theorem zg_X2_init : zcd zm_X2_init ∈ zT ∧ Cond.initialized zm_X2_init.1.cls ∈ zT ∧ (zm_X2_init.1.cls ≠ "java/lang/invoke/MethodHandle" ∧ zm_X2_init.1.cls ≠ "java/lang/invoke/VarHandle" ∧ (parseMethodDescriptor zm_X2_init.1.desc).map (fun d => d.parameters.length) = some 2) := ⟨zTm 319 rfl rfl, zTm 112 (by decide +kernel) rfl, by decide +kernel⟩
set_option maxRecDepth 100000 in
theorem zg_X2_numberLetters : zcd zm_X2_numberLetters ∈ zT ∧ Cond.initialized zm_X2_numberLetters.1.cls ∈ zT ∧ (zm_X2_numberLetters.1.cls ≠ "java/lang/invoke/MethodHandle" ∧ zm_X2_numberLetters.1.cls ≠ "java/lang/invoke/VarHandle" ∧ (parseMethodDescriptor zm_X2_numberLetters.1.desc).map (fun d => d.parameters.length) = some 1) := ⟨zTm 669 rfl rfl, zTm 112 (by decide +kernel) rfl, by decide +kernel⟩
set_option maxRecDepth 100000 in
theorem zg_X2_sortSides : zcd zm_X2_sortSides ∈ zT ∧ Cond.initialized zm_X2_sortSides.1.cls ∈ zT ∧ (zm_X2_sortSides.1.cls ≠ "java/lang/invoke/MethodHandle" ∧ zm_X2_sortSides.1.cls ≠ "java/lang/invoke/VarHandle" ∧ (parseMethodDescriptor zm_X2_sortSides.1.desc).map (fun d => d.parameters.length) = some 2) := ⟨zTm 608 rfl rfl, zTm 112 (by decide +kernel) rfl, by decide +kernel⟩
set_option maxRecDepth 100000 in
theorem zg_X3_init : zcd zm_X3_init ∈ zT ∧ Cond.initialized zm_X3_init.1.cls ∈ zT ∧ (zm_X3_init.1.cls ≠ "java/lang/invoke/MethodHandle" ∧ zm_X3_init.1.cls ≠ "java/lang/invoke/VarHandle" ∧ (parseMethodDescriptor zm_X3_init.1.desc).map (fun d => d.parameters.length) = some 4) := ⟨zTm 407 rfl rfl, zTm 115 (by decide +kernel) rfl, by decide +kernel⟩
set_option maxRecDepth 100000 in
theorem zg_X3_make : zcd zm_X3_make ∈ zT ∧ Cond.initialized zm_X3_make.1.cls ∈ zT ∧ (zm_X3_make.1.cls ≠ "java/lang/invoke/MethodHandle" ∧ zm_X3_make.1.cls ≠ "java/lang/invoke/VarHandle" ∧ (parseMethodDescriptor zm_X3_make.1.desc).map (fun d => d.parameters.length) = some 3) := ⟨zTm 969 rfl rfl, zTm 115 (by decide +kernel) rfl, by decide +kernel⟩
set_option maxRecDepth 100000 in
theorem zg_X3_makeClash : zcd zm_X3_makeClash ∈ zT ∧ Cond.initialized zm_X3_makeClash.1.cls ∈ zT ∧ (zm_X3_makeClash.1.cls ≠ "java/lang/invoke/MethodHandle" ∧ zm_X3_makeClash.1.cls ≠ "java/lang/invoke/VarHandle" ∧ (parseMethodDescriptor zm_X3_makeClash.1.desc).map (fun d => d.parameters.length) = some 4) := ⟨zTm 979 rfl rfl, zTm 115 (by decide +kernel) rfl, by decide +kernel⟩
set_option maxRecDepth 100000 in
theorem zg_X3_makeDrop : zcd zm_X3_makeDrop ∈ zT ∧ Cond.initialized zm_X3_makeDrop.1.cls ∈ zT ∧ (zm_X3_makeDrop.1.cls ≠ "java/lang/invoke/MethodHandle" ∧ zm_X3_makeDrop.1.cls ≠ "java/lang/invoke/VarHandle" ∧ (parseMethodDescriptor zm_X3_makeDrop.1.desc).map (fun d => d.parameters.length) = some 2) := ⟨zTm 1010 rfl rfl, zTm 115 (by decide +kernel) rfl, by decide +kernel⟩
set_option maxRecDepth 100000 in
theorem zg_X3_makeFactor : zcd zm_X3_makeFactor ∈ zT ∧ Cond.initialized zm_X3_makeFactor.1.cls ∈ zT ∧ (zm_X3_makeFactor.1.cls ≠ "java/lang/invoke/MethodHandle" ∧ zm_X3_makeFactor.1.cls ≠ "java/lang/invoke/VarHandle" ∧ (parseMethodDescriptor zm_X3_makeFactor.1.desc).map (fun d => d.parameters.length) = some 4) := ⟨zTm 1006 rfl rfl, zTm 115 (by decide +kernel) rfl, by decide +kernel⟩
set_option maxRecDepth 100000 in
theorem zg_X3_makeTurn : zcd zm_X3_makeTurn ∈ zT ∧ Cond.initialized zm_X3_makeTurn.1.cls ∈ zT ∧ (zm_X3_makeTurn.1.cls ≠ "java/lang/invoke/MethodHandle" ∧ zm_X3_makeTurn.1.cls ≠ "java/lang/invoke/VarHandle" ∧ (parseMethodDescriptor zm_X3_makeTurn.1.desc).map (fun d => d.parameters.length) = some 4) := ⟨zTm 1016 rfl rfl, zTm 115 (by decide +kernel) rfl, by decide +kernel⟩
set_option maxRecDepth 100000 in
theorem zg_X3_sidesUnderIt : zcd zm_X3_sidesUnderIt ∈ zT ∧ Cond.initialized zm_X3_sidesUnderIt.1.cls ∈ zT ∧ (zm_X3_sidesUnderIt.1.cls ≠ "java/lang/invoke/MethodHandle" ∧ zm_X3_sidesUnderIt.1.cls ≠ "java/lang/invoke/VarHandle" ∧ (parseMethodDescriptor zm_X3_sidesUnderIt.1.desc).map (fun d => d.parameters.length) = some 4) := ⟨zTm 1021 rfl rfl, zTm 115 (by decide +kernel) rfl, by decide +kernel⟩
set_option maxRecDepth 100000 in
theorem zg_X3_writeAllBut : zcd zm_X3_writeAllBut ∈ zT ∧ Cond.initialized zm_X3_writeAllBut.1.cls ∈ zT ∧ (zm_X3_writeAllBut.1.cls ≠ "java/lang/invoke/MethodHandle" ∧ zm_X3_writeAllBut.1.cls ≠ "java/lang/invoke/VarHandle" ∧ (parseMethodDescriptor zm_X3_writeAllBut.1.desc).map (fun d => d.parameters.length) = some 4) := ⟨zTm 1000 rfl rfl, zTm 115 (by decide +kernel) rfl, by decide +kernel⟩
set_option maxRecDepth 100000 in
theorem zg_X3_writeTurned : zcd zm_X3_writeTurned ∈ zT ∧ Cond.initialized zm_X3_writeTurned.1.cls ∈ zT ∧ (zm_X3_writeTurned.1.cls ≠ "java/lang/invoke/MethodHandle" ∧ zm_X3_writeTurned.1.cls ≠ "java/lang/invoke/VarHandle" ∧ (parseMethodDescriptor zm_X3_writeTurned.1.desc).map (fun d => d.parameters.length) = some 6) := ⟨zTm 1026 rfl rfl, zTm 115 (by decide +kernel) rfl, by decide +kernel⟩
set_option maxRecDepth 100000 in
theorem zg_X4_again : zcd zm_X4_again ∈ zT ∧ Cond.initialized zm_X4_again.1.cls ∈ zT ∧ (zm_X4_again.1.cls ≠ "java/lang/invoke/MethodHandle" ∧ zm_X4_again.1.cls ≠ "java/lang/invoke/VarHandle" ∧ (parseMethodDescriptor zm_X4_again.1.desc).map (fun d => d.parameters.length) = some 4) := ⟨zTm 1068 rfl rfl, zTm 114 (by decide +kernel) rfl, by decide +kernel⟩
set_option maxRecDepth 100000 in
theorem zg_X4_findFirst : zcd zm_X4_findFirst ∈ zT ∧ Cond.initialized zm_X4_findFirst.1.cls ∈ zT ∧ (zm_X4_findFirst.1.cls ≠ "java/lang/invoke/MethodHandle" ∧ zm_X4_findFirst.1.cls ≠ "java/lang/invoke/VarHandle" ∧ (parseMethodDescriptor zm_X4_findFirst.1.desc).map (fun d => d.parameters.length) = some 1) := ⟨zTm 694 rfl rfl, zTm 114 (by decide +kernel) rfl, by decide +kernel⟩
set_option maxRecDepth 100000 in
theorem zg_X4_fits : zcd zm_X4_fits ∈ zT ∧ Cond.initialized zm_X4_fits.1.cls ∈ zT ∧ (zm_X4_fits.1.cls ≠ "java/lang/invoke/MethodHandle" ∧ zm_X4_fits.1.cls ≠ "java/lang/invoke/VarHandle" ∧ (parseMethodDescriptor zm_X4_fits.1.desc).map (fun d => d.parameters.length) = some 4) := ⟨zTm 698 rfl rfl, zTm 114 (by decide +kernel) rfl, by decide +kernel⟩
set_option maxRecDepth 100000 in
theorem zg_X4_init : zcd zm_X4_init ∈ zT ∧ Cond.initialized zm_X4_init.1.cls ∈ zT ∧ (zm_X4_init.1.cls ≠ "java/lang/invoke/MethodHandle" ∧ zm_X4_init.1.cls ≠ "java/lang/invoke/VarHandle" ∧ (parseMethodDescriptor zm_X4_init.1.desc).map (fun d => d.parameters.length) = some 4) := ⟨zTm 361 rfl rfl, zTm 114 (by decide +kernel) rfl, by decide +kernel⟩
set_option maxRecDepth 100000 in
theorem zg_X4_list : zcd zm_X4_list ∈ zT ∧ Cond.initialized zm_X4_list.1.cls ∈ zT ∧ (zm_X4_list.1.cls ≠ "java/lang/invoke/MethodHandle" ∧ zm_X4_list.1.cls ≠ "java/lang/invoke/VarHandle" ∧ (parseMethodDescriptor zm_X4_list.1.desc).map (fun d => d.parameters.length) = some 2) := ⟨zTm 690 rfl rfl, zTm 114 (by decide +kernel) rfl, by decide +kernel⟩
set_option maxRecDepth 100000 in
theorem zg_X4_note : zcd zm_X4_note ∈ zT ∧ Cond.initialized zm_X4_note.1.cls ∈ zT ∧ (zm_X4_note.1.cls ≠ "java/lang/invoke/MethodHandle" ∧ zm_X4_note.1.cls ≠ "java/lang/invoke/VarHandle" ∧ (parseMethodDescriptor zm_X4_note.1.desc).map (fun d => d.parameters.length) = some 4) := ⟨zTm 748 rfl rfl, zTm 114 (by decide +kernel) rfl, by decide +kernel⟩
set_option maxRecDepth 100000 in
theorem zg_X4_prepare : zcd zm_X4_prepare ∈ zT ∧ Cond.initialized zm_X4_prepare.1.cls ∈ zT ∧ (zm_X4_prepare.1.cls ≠ "java/lang/invoke/MethodHandle" ∧ zm_X4_prepare.1.cls ≠ "java/lang/invoke/VarHandle" ∧ (parseMethodDescriptor zm_X4_prepare.1.desc).map (fun d => d.parameters.length) = some 0) := ⟨zTm 678 rfl rfl, zTm 114 (by decide +kernel) rfl, by decide +kernel⟩
set_option maxRecDepth 100000 in
theorem zg_X4_replace : zcd zm_X4_replace ∈ zT ∧ Cond.initialized zm_X4_replace.1.cls ∈ zT ∧ (zm_X4_replace.1.cls ≠ "java/lang/invoke/MethodHandle" ∧ zm_X4_replace.1.cls ≠ "java/lang/invoke/VarHandle" ∧ (parseMethodDescriptor zm_X4_replace.1.desc).map (fun d => d.parameters.length) = some 3) := ⟨zTm 752 rfl rfl, zTm 114 (by decide +kernel) rfl, by decide +kernel⟩
set_option maxRecDepth 100000 in
theorem zg_X4_rewrite : zcd zm_X4_rewrite ∈ zT ∧ Cond.initialized zm_X4_rewrite.1.cls ∈ zT ∧ (zm_X4_rewrite.1.cls ≠ "java/lang/invoke/MethodHandle" ∧ zm_X4_rewrite.1.cls ≠ "java/lang/invoke/VarHandle" ∧ (parseMethodDescriptor zm_X4_rewrite.1.desc).map (fun d => d.parameters.length) = some 2) := ⟨zTm 674 rfl rfl, zTm 114 (by decide +kernel) rfl, by decide +kernel⟩
set_option maxRecDepth 100000 in
theorem zg_X5_copy : zcd zm_X5_copy ∈ zT ∧ Cond.initialized zm_X5_copy.1.cls ∈ zT ∧ (zm_X5_copy.1.cls ≠ "java/lang/invoke/MethodHandle" ∧ zm_X5_copy.1.cls ≠ "java/lang/invoke/VarHandle" ∧ (parseMethodDescriptor zm_X5_copy.1.desc).map (fun d => d.parameters.length) = some 1) := ⟨zTm 583 rfl rfl, zTm 108 (by decide +kernel) rfl, by decide +kernel⟩
set_option maxRecDepth 100000 in
theorem zg_X5_empty : zcd zm_X5_empty ∈ zT ∧ Cond.initialized zm_X5_empty.1.cls ∈ zT ∧ (zm_X5_empty.1.cls ≠ "java/lang/invoke/MethodHandle" ∧ zm_X5_empty.1.cls ≠ "java/lang/invoke/VarHandle" ∧ (parseMethodDescriptor zm_X5_empty.1.desc).map (fun d => d.parameters.length) = some 0) := ⟨zTm 553 rfl rfl, zTm 108 (by decide +kernel) rfl, by decide +kernel⟩
set_option maxRecDepth 100000 in
theorem zg_X5_has : zcd zm_X5_has ∈ zT ∧ Cond.initialized zm_X5_has.1.cls ∈ zT ∧ (zm_X5_has.1.cls ≠ "java/lang/invoke/MethodHandle" ∧ zm_X5_has.1.cls ≠ "java/lang/invoke/VarHandle" ∧ (parseMethodDescriptor zm_X5_has.1.desc).map (fun d => d.parameters.length) = some 1) := ⟨zTm 604 rfl rfl, zTm 108 (by decide +kernel) rfl, by decide +kernel⟩
set_option maxRecDepth 100000 in
theorem zg_X5_hasLikeSides : zcd zm_X5_hasLikeSides ∈ zT ∧ Cond.initialized zm_X5_hasLikeSides.1.cls ∈ zT ∧ (zm_X5_hasLikeSides.1.cls ≠ "java/lang/invoke/MethodHandle" ∧ zm_X5_hasLikeSides.1.cls ≠ "java/lang/invoke/VarHandle" ∧ (parseMethodDescriptor zm_X5_hasLikeSides.1.desc).map (fun d => d.parameters.length) = some 2) := ⟨zTm 651 rfl rfl, zTm 108 (by decide +kernel) rfl, by decide +kernel⟩
set_option maxRecDepth 100000 in
theorem zg_X5_init : zcd zm_X5_init ∈ zT ∧ Cond.initialized zm_X5_init.1.cls ∈ zT ∧ (zm_X5_init.1.cls ≠ "java/lang/invoke/MethodHandle" ∧ zm_X5_init.1.cls ≠ "java/lang/invoke/VarHandle" ∧ (parseMethodDescriptor zm_X5_init.1.desc).map (fun d => d.parameters.length) = some 0) := ⟨zTm 184 rfl rfl, zTm 108 (by decide +kernel) rfl, by decide +kernel⟩
set_option maxRecDepth 100000 in
theorem zg_X5_isEqual : zcd zm_X5_isEqual ∈ zT ∧ Cond.initialized zm_X5_isEqual.1.cls ∈ zT ∧ (zm_X5_isEqual.1.cls ≠ "java/lang/invoke/MethodHandle" ∧ zm_X5_isEqual.1.cls ≠ "java/lang/invoke/VarHandle" ∧ (parseMethodDescriptor zm_X5_isEqual.1.desc).map (fun d => d.parameters.length) = some 1) := ⟨zTm 600 rfl rfl, zTm 108 (by decide +kernel) rfl, by decide +kernel⟩
set_option maxRecDepth 100000 in
theorem zg_X5_isTrivial : zcd zm_X5_isTrivial ∈ zT ∧ Cond.initialized zm_X5_isTrivial.1.cls ∈ zT ∧ (zm_X5_isTrivial.1.cls ≠ "java/lang/invoke/MethodHandle" ∧ zm_X5_isTrivial.1.cls ≠ "java/lang/invoke/VarHandle" ∧ (parseMethodDescriptor zm_X5_isTrivial.1.desc).map (fun d => d.parameters.length) = some 1) := ⟨zTm 766 rfl rfl, zTm 108 (by decide +kernel) rfl, by decide +kernel⟩
set_option maxRecDepth 100000 in
theorem zg_X5_length : zcd zm_X5_length ∈ zT ∧ Cond.initialized zm_X5_length.1.cls ∈ zT ∧ (zm_X5_length.1.cls ≠ "java/lang/invoke/MethodHandle" ∧ zm_X5_length.1.cls ≠ "java/lang/invoke/VarHandle" ∧ (parseMethodDescriptor zm_X5_length.1.desc).map (fun d => d.parameters.length) = some 1) := ⟨zTm 661 rfl rfl, zTm 108 (by decide +kernel) rfl, by decide +kernel⟩
set_option maxRecDepth 100000 in
theorem zg_X5_mark : zcd zm_X5_mark ∈ zT ∧ Cond.initialized zm_X5_mark.1.cls ∈ zT ∧ (zm_X5_mark.1.cls ≠ "java/lang/invoke/MethodHandle" ∧ zm_X5_mark.1.cls ≠ "java/lang/invoke/VarHandle" ∧ (parseMethodDescriptor zm_X5_mark.1.desc).map (fun d => d.parameters.length) = some 0) := ⟨zTm 762 rfl rfl, zTm 108 (by decide +kernel) rfl, by decide +kernel⟩
set_option maxRecDepth 100000 in
theorem zg_X5_remove : zcd zm_X5_remove ∈ zT ∧ Cond.initialized zm_X5_remove.1.cls ∈ zT ∧ (zm_X5_remove.1.cls ≠ "java/lang/invoke/MethodHandle" ∧ zm_X5_remove.1.cls ≠ "java/lang/invoke/VarHandle" ∧ (parseMethodDescriptor zm_X5_remove.1.desc).map (fun d => d.parameters.length) = some 1) := ⟨zTm 665 rfl rfl, zTm 108 (by decide +kernel) rfl, by decide +kernel⟩
set_option maxRecDepth 100000 in
theorem zg_X5_replace : zcd zm_X5_replace ∈ zT ∧ Cond.initialized zm_X5_replace.1.cls ∈ zT ∧ (zm_X5_replace.1.cls ≠ "java/lang/invoke/MethodHandle" ∧ zm_X5_replace.1.cls ≠ "java/lang/invoke/VarHandle" ∧ (parseMethodDescriptor zm_X5_replace.1.desc).map (fun d => d.parameters.length) = some 5) := ⟨zTm 757 rfl rfl, zTm 108 (by decide +kernel) rfl, by decide +kernel⟩
set_option maxRecDepth 100000 in
theorem zg_X5_same : zcd zm_X5_same ∈ zT ∧ Cond.initialized zm_X5_same.1.cls ∈ zT ∧ (zm_X5_same.1.cls ≠ "java/lang/invoke/MethodHandle" ∧ zm_X5_same.1.cls ≠ "java/lang/invoke/VarHandle" ∧ (parseMethodDescriptor zm_X5_same.1.desc).map (fun d => d.parameters.length) = some 1) := ⟨zTm 1074 rfl rfl, zTm 108 (by decide +kernel) rfl, by decide +kernel⟩
set_option maxRecDepth 100000 in
theorem zg_X5_saysAlike : zcd zm_X5_saysAlike ∈ zT ∧ Cond.initialized zm_X5_saysAlike.1.cls ∈ zT ∧ (zm_X5_saysAlike.1.cls ≠ "java/lang/invoke/MethodHandle" ∧ zm_X5_saysAlike.1.cls ≠ "java/lang/invoke/VarHandle" ∧ (parseMethodDescriptor zm_X5_saysAlike.1.desc).map (fun d => d.parameters.length) = some 2) := ⟨zTm 657 rfl rfl, zTm 108 (by decide +kernel) rfl, by decide +kernel⟩
set_option maxRecDepth 100000 in
theorem zg_X5_take : zcd zm_X5_take ∈ zT ∧ Cond.initialized zm_X5_take.1.cls ∈ zT ∧ (zm_X5_take.1.cls ≠ "java/lang/invoke/MethodHandle" ∧ zm_X5_take.1.cls ≠ "java/lang/invoke/VarHandle" ∧ (parseMethodDescriptor zm_X5_take.1.desc).map (fun d => d.parameters.length) = some 4) := ⟨zTm 576 rfl rfl, zTm 108 (by decide +kernel) rfl, by decide +kernel⟩
set_option maxRecDepth 100000 in
theorem zg_X6_compare : zcd zm_X6_compare ∈ zT ∧ Cond.initialized zm_X6_compare.1.cls ∈ zT ∧ (zm_X6_compare.1.cls ≠ "java/lang/invoke/MethodHandle" ∧ zm_X6_compare.1.cls ≠ "java/lang/invoke/VarHandle" ∧ (parseMethodDescriptor zm_X6_compare.1.desc).map (fun d => d.parameters.length) = some 4) := ⟨zTm 616 rfl rfl, zTm 109 (by decide +kernel) rfl, by decide +kernel⟩
set_option maxRecDepth 100000 in
theorem zg_X6_init : zcd zm_X6_init ∈ zT ∧ Cond.initialized zm_X6_init.1.cls ∈ zT ∧ (zm_X6_init.1.cls ≠ "java/lang/invoke/MethodHandle" ∧ zm_X6_init.1.cls ≠ "java/lang/invoke/VarHandle" ∧ (parseMethodDescriptor zm_X6_init.1.desc).map (fun d => d.parameters.length) = some 1) := ⟨zTm 237 rfl rfl, zTm 109 (by decide +kernel) rfl, by decide +kernel⟩
set_option maxRecDepth 100000 in
theorem zg_X6_likeParts : zcd zm_X6_likeParts ∈ zT ∧ Cond.initialized zm_X6_likeParts.1.cls ∈ zT ∧ (zm_X6_likeParts.1.cls ≠ "java/lang/invoke/MethodHandle" ∧ zm_X6_likeParts.1.cls ≠ "java/lang/invoke/VarHandle" ∧ (parseMethodDescriptor zm_X6_likeParts.1.desc).map (fun d => d.parameters.length) = some 4) := ⟨zTm 641 rfl rfl, zTm 109 (by decide +kernel) rfl, by decide +kernel⟩
set_option maxRecDepth 100000 in
theorem zg_X6_settleSurplus : zcd zm_X6_settleSurplus ∈ zT ∧ Cond.initialized zm_X6_settleSurplus.1.cls ∈ zT ∧ (zm_X6_settleSurplus.1.cls ≠ "java/lang/invoke/MethodHandle" ∧ zm_X6_settleSurplus.1.cls ≠ "java/lang/invoke/VarHandle" ∧ (parseMethodDescriptor zm_X6_settleSurplus.1.desc).map (fun d => d.parameters.length) = some 3) := ⟨zTm 633 rfl rfl, zTm 109 (by decide +kernel) rfl, by decide +kernel⟩
set_option maxRecDepth 100000 in
theorem zg_X6_settled : zcd zm_X6_settled ∈ zT ∧ Cond.initialized zm_X6_settled.1.cls ∈ zT ∧ (zm_X6_settled.1.cls ≠ "java/lang/invoke/MethodHandle" ∧ zm_X6_settled.1.cls ≠ "java/lang/invoke/VarHandle" ∧ (parseMethodDescriptor zm_X6_settled.1.desc).map (fun d => d.parameters.length) = some 1) := ⟨zTm 637 rfl rfl, zTm 109 (by decide +kernel) rfl, by decide +kernel⟩
set_option maxRecDepth 100000 in
theorem zg_X6_tally : zcd zm_X6_tally ∈ zT ∧ Cond.initialized zm_X6_tally.1.cls ∈ zT ∧ (zm_X6_tally.1.cls ≠ "java/lang/invoke/MethodHandle" ∧ zm_X6_tally.1.cls ≠ "java/lang/invoke/VarHandle" ∧ (parseMethodDescriptor zm_X6_tally.1.desc).map (fun d => d.parameters.length) = some 4) := ⟨zTm 625 rfl rfl, zTm 109 (by decide +kernel) rfl, by decide +kernel⟩
set_option maxRecDepth 100000 in
theorem zg_X6_weigh : zcd zm_X6_weigh ∈ zT ∧ Cond.initialized zm_X6_weigh.1.cls ∈ zT ∧ (zm_X6_weigh.1.cls ≠ "java/lang/invoke/MethodHandle" ∧ zm_X6_weigh.1.cls ≠ "java/lang/invoke/VarHandle" ∧ (parseMethodDescriptor zm_X6_weigh.1.desc).map (fun d => d.parameters.length) = some 3) := ⟨zTm 881 rfl rfl, zTm 109 (by decide +kernel) rfl, by decide +kernel⟩
set_option maxRecDepth 100000 in
theorem zg_X7_add : zcd zm_X7_add ∈ zT ∧ Cond.initialized zm_X7_add.1.cls ∈ zT ∧ (zm_X7_add.1.cls ≠ "java/lang/invoke/MethodHandle" ∧ zm_X7_add.1.cls ≠ "java/lang/invoke/VarHandle" ∧ (parseMethodDescriptor zm_X7_add.1.desc).map (fun d => d.parameters.length) = some 0) := ⟨zTm 790 rfl rfl, zTm 107 (by decide +kernel) rfl, by decide +kernel⟩
set_option maxRecDepth 100000 in
theorem zg_X7_at : zcd zm_X7_at ∈ zT ∧ Cond.initialized zm_X7_at.1.cls ∈ zT ∧ (zm_X7_at.1.cls ≠ "java/lang/invoke/MethodHandle" ∧ zm_X7_at.1.cls ≠ "java/lang/invoke/VarHandle" ∧ (parseMethodDescriptor zm_X7_at.1.desc).map (fun d => d.parameters.length) = some 1) := ⟨zTm 682 rfl rfl, zTm 107 (by decide +kernel) rfl, by decide +kernel⟩
set_option maxRecDepth 100000 in
theorem zg_X7_find : zcd zm_X7_find ∈ zT ∧ Cond.initialized zm_X7_find.1.cls ∈ zT ∧ (zm_X7_find.1.cls ≠ "java/lang/invoke/MethodHandle" ∧ zm_X7_find.1.cls ≠ "java/lang/invoke/VarHandle" ∧ (parseMethodDescriptor zm_X7_find.1.desc).map (fun d => d.parameters.length) = some 1) := ⟨zTm 1087 rfl rfl, zTm 107 (by decide +kernel) rfl, by decide +kernel⟩
set_option maxRecDepth 100000 in
theorem zg_X7_findNamed : zcd zm_X7_findNamed ∈ zT ∧ Cond.initialized zm_X7_findNamed.1.cls ∈ zT ∧ (zm_X7_findNamed.1.cls ≠ "java/lang/invoke/MethodHandle" ∧ zm_X7_findNamed.1.cls ≠ "java/lang/invoke/VarHandle" ∧ (parseMethodDescriptor zm_X7_findNamed.1.desc).map (fun d => d.parameters.length) = some 1) := ⟨zTm 1091 rfl rfl, zTm 107 (by decide +kernel) rfl, by decide +kernel⟩
set_option maxRecDepth 100000 in
theorem zg_X7_inState : zcd zm_X7_inState ∈ zT ∧ Cond.initialized zm_X7_inState.1.cls ∈ zT ∧ (zm_X7_inState.1.cls ≠ "java/lang/invoke/MethodHandle" ∧ zm_X7_inState.1.cls ≠ "java/lang/invoke/VarHandle" ∧ (parseMethodDescriptor zm_X7_inState.1.desc).map (fun d => d.parameters.length) = some 1) := ⟨zTm 1112 rfl rfl, zTm 107 (by decide +kernel) rfl, by decide +kernel⟩
set_option maxRecDepth 100000 in
theorem zg_X7_init : zcd zm_X7_init ∈ zT ∧ Cond.initialized zm_X7_init.1.cls ∈ zT ∧ (zm_X7_init.1.cls ≠ "java/lang/invoke/MethodHandle" ∧ zm_X7_init.1.cls ≠ "java/lang/invoke/VarHandle" ∧ (parseMethodDescriptor zm_X7_init.1.desc).map (fun d => d.parameters.length) = some 0) := ⟨zTm 155 rfl rfl, zTm 107 (by decide +kernel) rfl, by decide +kernel⟩
set_option maxRecDepth 100000 in
theorem zg_X7_markProof : zcd zm_X7_markProof ∈ zT ∧ Cond.initialized zm_X7_markProof.1.cls ∈ zT ∧ (zm_X7_markProof.1.cls ≠ "java/lang/invoke/MethodHandle" ∧ zm_X7_markProof.1.cls ≠ "java/lang/invoke/VarHandle" ∧ (parseMethodDescriptor zm_X7_markProof.1.desc).map (fun d => d.parameters.length) = some 0) := ⟨zTm 1082 rfl rfl, zTm 107 (by decide +kernel) rfl, by decide +kernel⟩
set_option maxRecDepth 100000 in
theorem zg_X8_add : zcd zm_X8_add ∈ zT ∧ Cond.initialized zm_X8_add.1.cls ∈ zT ∧ (zm_X8_add.1.cls ≠ "java/lang/invoke/MethodHandle" ∧ zm_X8_add.1.cls ≠ "java/lang/invoke/VarHandle" ∧ (parseMethodDescriptor zm_X8_add.1.desc).map (fun d => d.parameters.length) = some 3) := ⟨zTm 537 rfl rfl, zTm 106 (by decide +kernel) rfl, by decide +kernel⟩
set_option maxRecDepth 100000 in
theorem zg_X8_after : zcd zm_X8_after ∈ zT ∧ Cond.initialized zm_X8_after.1.cls ∈ zT ∧ (zm_X8_after.1.cls ≠ "java/lang/invoke/MethodHandle" ∧ zm_X8_after.1.cls ≠ "java/lang/invoke/VarHandle" ∧ (parseMethodDescriptor zm_X8_after.1.desc).map (fun d => d.parameters.length) = some 2) := ⟨zTm 612 rfl rfl, zTm 106 (by decide +kernel) rfl, by decide +kernel⟩
set_option maxRecDepth 100000 in
theorem zg_X8_init : zcd zm_X8_init ∈ zT ∧ Cond.initialized zm_X8_init.1.cls ∈ zT ∧ (zm_X8_init.1.cls ≠ "java/lang/invoke/MethodHandle" ∧ zm_X8_init.1.cls ≠ "java/lang/invoke/VarHandle" ∧ (parseMethodDescriptor zm_X8_init.1.desc).map (fun d => d.parameters.length) = some 0) := ⟨zTm 133 rfl rfl, zTm 106 (by decide +kernel) rfl, by decide +kernel⟩
set_option maxRecDepth 100000 in
theorem zg_X8_isFunction : zcd zm_X8_isFunction ∈ zT ∧ Cond.initialized zm_X8_isFunction.1.cls ∈ zT ∧ (zm_X8_isFunction.1.cls ≠ "java/lang/invoke/MethodHandle" ∧ zm_X8_isFunction.1.cls ≠ "java/lang/invoke/VarHandle" ∧ (parseMethodDescriptor zm_X8_isFunction.1.desc).map (fun d => d.parameters.length) = some 1) := ⟨zTm 572 rfl rfl, zTm 106 (by decide +kernel) rfl, by decide +kernel⟩
set_option maxRecDepth 100000 in
theorem zg_X8_isSaying : zcd zm_X8_isSaying ∈ zT ∧ Cond.initialized zm_X8_isSaying.1.cls ∈ zT ∧ (zm_X8_isSaying.1.cls ≠ "java/lang/invoke/MethodHandle" ∧ zm_X8_isSaying.1.cls ≠ "java/lang/invoke/VarHandle" ∧ (parseMethodDescriptor zm_X8_isSaying.1.desc).map (fun d => d.parameters.length) = some 1) := ⟨zTm 557 rfl rfl, zTm 106 (by decide +kernel) rfl, by decide +kernel⟩
set_option maxRecDepth 100000 in
theorem zg_X8_partsOf : zcd zm_X8_partsOf ∈ zT ∧ Cond.initialized zm_X8_partsOf.1.cls ∈ zT ∧ (zm_X8_partsOf.1.cls ≠ "java/lang/invoke/MethodHandle" ∧ zm_X8_partsOf.1.cls ≠ "java/lang/invoke/VarHandle" ∧ (parseMethodDescriptor zm_X8_partsOf.1.desc).map (fun d => d.parameters.length) = some 1) := ⟨zTm 561 rfl rfl, zTm 106 (by decide +kernel) rfl, by decide +kernel⟩
set_option maxRecDepth 100000 in
theorem zg_X8_weightOf : zcd zm_X8_weightOf ∈ zT ∧ Cond.initialized zm_X8_weightOf.1.cls ∈ zT ∧ (zm_X8_weightOf.1.cls ≠ "java/lang/invoke/MethodHandle" ∧ zm_X8_weightOf.1.cls ≠ "java/lang/invoke/VarHandle" ∧ (parseMethodDescriptor zm_X8_weightOf.1.desc).map (fun d => d.parameters.length) = some 1) := ⟨zTm 629 rfl rfl, zTm 106 (by decide +kernel) rfl, by decide +kernel⟩
set_option maxRecDepth 100000 in
theorem zg_X9_beginWay : zcd zm_X9_beginWay ∈ zT ∧ Cond.initialized zm_X9_beginWay.1.cls ∈ zT ∧ (zm_X9_beginWay.1.cls ≠ "java/lang/invoke/MethodHandle" ∧ zm_X9_beginWay.1.cls ≠ "java/lang/invoke/VarHandle" ∧ (parseMethodDescriptor zm_X9_beginWay.1.desc).map (fun d => d.parameters.length) = some 2) := ⟨zTm 734 rfl rfl, zTm 110 (by decide +kernel) rfl, by decide +kernel⟩
set_option maxRecDepth 100000 in
theorem zg_X9_forget : zcd zm_X9_forget ∈ zT ∧ Cond.initialized zm_X9_forget.1.cls ∈ zT ∧ (zm_X9_forget.1.cls ≠ "java/lang/invoke/MethodHandle" ∧ zm_X9_forget.1.cls ≠ "java/lang/invoke/VarHandle" ∧ (parseMethodDescriptor zm_X9_forget.1.desc).map (fun d => d.parameters.length) = some 1) := ⟨zTm 702 rfl rfl, zTm 110 (by decide +kernel) rfl, by decide +kernel⟩
set_option maxRecDepth 100000 in
theorem zg_X9_init : zcd zm_X9_init ∈ zT ∧ Cond.initialized zm_X9_init.1.cls ∈ zT ∧ (zm_X9_init.1.cls ≠ "java/lang/invoke/MethodHandle" ∧ zm_X9_init.1.cls ≠ "java/lang/invoke/VarHandle" ∧ (parseMethodDescriptor zm_X9_init.1.desc).map (fun d => d.parameters.length) = some 1) := ⟨zTm 259 rfl rfl, zTm 110 (by decide +kernel) rfl, by decide +kernel⟩
set_option maxRecDepth 100000 in
theorem zg_X9_isIn : zcd zm_X9_isIn ∈ zT ∧ Cond.initialized zm_X9_isIn.1.cls ∈ zT ∧ (zm_X9_isIn.1.cls ≠ "java/lang/invoke/MethodHandle" ∧ zm_X9_isIn.1.cls ≠ "java/lang/invoke/VarHandle" ∧ (parseMethodDescriptor zm_X9_isIn.1.desc).map (fun d => d.parameters.length) = some 2) := ⟨zTm 996 rfl rfl, zTm 110 (by decide +kernel) rfl, by decide +kernel⟩
set_option maxRecDepth 100000 in
theorem zg_X9_isTold : zcd zm_X9_isTold ∈ zT ∧ Cond.initialized zm_X9_isTold.1.cls ∈ zT ∧ (zm_X9_isTold.1.cls ≠ "java/lang/invoke/MethodHandle" ∧ zm_X9_isTold.1.cls ≠ "java/lang/invoke/VarHandle" ∧ (parseMethodDescriptor zm_X9_isTold.1.desc).map (fun d => d.parameters.length) = some 3) := ⟨zTm 717 rfl rfl, zTm 110 (by decide +kernel) rfl, by decide +kernel⟩
set_option maxRecDepth 100000 in
theorem zg_X9_layFirst : zcd zm_X9_layFirst ∈ zT ∧ Cond.initialized zm_X9_layFirst.1.cls ∈ zT ∧ (zm_X9_layFirst.1.cls ≠ "java/lang/invoke/MethodHandle" ∧ zm_X9_layFirst.1.cls ≠ "java/lang/invoke/VarHandle" ∧ (parseMethodDescriptor zm_X9_layFirst.1.desc).map (fun d => d.parameters.length) = some 1) := ⟨zTm 721 rfl rfl, zTm 110 (by decide +kernel) rfl, by decide +kernel⟩
set_option maxRecDepth 100000 in
theorem zg_X9_laySecond : zcd zm_X9_laySecond ∈ zT ∧ Cond.initialized zm_X9_laySecond.1.cls ∈ zT ∧ (zm_X9_laySecond.1.cls ≠ "java/lang/invoke/MethodHandle" ∧ zm_X9_laySecond.1.cls ≠ "java/lang/invoke/VarHandle" ∧ (parseMethodDescriptor zm_X9_laySecond.1.desc).map (fun d => d.parameters.length) = some 1) := ⟨zTm 726 rfl rfl, zTm 110 (by decide +kernel) rfl, by decide +kernel⟩
set_option maxRecDepth 100000 in
theorem zg_X9_matches : zcd zm_X9_matches ∈ zT ∧ Cond.initialized zm_X9_matches.1.cls ∈ zT ∧ (zm_X9_matches.1.cls ≠ "java/lang/invoke/MethodHandle" ∧ zm_X9_matches.1.cls ≠ "java/lang/invoke/VarHandle" ∧ (parseMethodDescriptor zm_X9_matches.1.desc).map (fun d => d.parameters.length) = some 4) := ⟨zTm 706 rfl rfl, zTm 110 (by decide +kernel) rfl, by decide +kernel⟩
set_option maxRecDepth 100000 in
theorem zg_X9_meet : zcd zm_X9_meet ∈ zT ∧ Cond.initialized zm_X9_meet.1.cls ∈ zT ∧ (zm_X9_meet.1.cls ≠ "java/lang/invoke/MethodHandle" ∧ zm_X9_meet.1.cls ≠ "java/lang/invoke/VarHandle" ∧ (parseMethodDescriptor zm_X9_meet.1.desc).map (fun d => d.parameters.length) = some 2) := ⟨zTm 992 rfl rfl, zTm 110 (by decide +kernel) rfl, by decide +kernel⟩
set_option maxRecDepth 100000 in
theorem zg_X9_nextOnWay : zcd zm_X9_nextOnWay ∈ zT ∧ Cond.initialized zm_X9_nextOnWay.1.cls ∈ zT ∧ (zm_X9_nextOnWay.1.cls ≠ "java/lang/invoke/MethodHandle" ∧ zm_X9_nextOnWay.1.cls ≠ "java/lang/invoke/VarHandle" ∧ (parseMethodDescriptor zm_X9_nextOnWay.1.desc).map (fun d => d.parameters.length) = some 0) := ⟨zTm 739 rfl rfl, zTm 110 (by decide +kernel) rfl, by decide +kernel⟩
set_option maxRecDepth 100000 in
theorem zg_X9_resting : zcd zm_X9_resting ∈ zT ∧ Cond.initialized zm_X9_resting.1.cls ∈ zT ∧ (zm_X9_resting.1.cls ≠ "java/lang/invoke/MethodHandle" ∧ zm_X9_resting.1.cls ≠ "java/lang/invoke/VarHandle" ∧ (parseMethodDescriptor zm_X9_resting.1.desc).map (fun d => d.parameters.length) = some 1) := ⟨zTm 743 rfl rfl, zTm 110 (by decide +kernel) rfl, by decide +kernel⟩
set_option maxRecDepth 100000 in
theorem zg_X9_tell : zcd zm_X9_tell ∈ zT ∧ Cond.initialized zm_X9_tell.1.cls ∈ zT ∧ (zm_X9_tell.1.cls ≠ "java/lang/invoke/MethodHandle" ∧ zm_X9_tell.1.cls ≠ "java/lang/invoke/VarHandle" ∧ (parseMethodDescriptor zm_X9_tell.1.desc).map (fun d => d.parameters.length) = some 2) := ⟨zTm 712 rfl rfl, zTm 110 (by decide +kernel) rfl, by decide +kernel⟩
set_option maxRecDepth 100000 in
theorem zg_X9_widen : zcd zm_X9_widen ∈ zT ∧ Cond.initialized zm_X9_widen.1.cls ∈ zT ∧ (zm_X9_widen.1.cls ≠ "java/lang/invoke/MethodHandle" ∧ zm_X9_widen.1.cls ≠ "java/lang/invoke/VarHandle" ∧ (parseMethodDescriptor zm_X9_widen.1.desc).map (fun d => d.parameters.length) = some 2) := ⟨zTm 987 rfl rfl, zTm 110 (by decide +kernel) rfl, by decide +kernel⟩
set_option maxRecDepth 100000 in
theorem zg_X9_write : zcd zm_X9_write ∈ zT ∧ Cond.initialized zm_X9_write.1.cls ∈ zT ∧ (zm_X9_write.1.cls ≠ "java/lang/invoke/MethodHandle" ∧ zm_X9_write.1.cls ≠ "java/lang/invoke/VarHandle" ∧ (parseMethodDescriptor zm_X9_write.1.desc).map (fun d => d.parameters.length) = some 3) := ⟨zTm 730 rfl rfl, zTm 110 (by decide +kernel) rfl, by decide +kernel⟩
theorem zi_X0_init : Cond.instanceMethod zm_X0_init.1 ∈ zT := zTm 425 (by decide +kernel) rfl
theorem zi_X10_init : Cond.instanceMethod zm_X10_init.1 ∈ zT := zTm 341 (by decide +kernel) rfl
theorem zi_X11_init : Cond.instanceMethod zm_X11_init.1 ∈ zT := zTm 124 (by decide +kernel) rfl
theorem zi_X12_init : Cond.instanceMethod zm_X12_init.1 ∈ zT := zTm 1134 (by decide +kernel) rfl
theorem zi_X1_init : Cond.instanceMethod zm_X1_init.1 ∈ zT := zTm 793 (by decide +kernel) rfl
theorem zi_X2_init : Cond.instanceMethod zm_X2_init.1 ∈ zT := zTm 318 (by decide +kernel) rfl
theorem zi_X3_init : Cond.instanceMethod zm_X3_init.1 ∈ zT := zTm 406 (by decide +kernel) rfl
theorem zi_X4_init : Cond.instanceMethod zm_X4_init.1 ∈ zT := zTm 360 (by decide +kernel) rfl
theorem zi_X5_init : Cond.instanceMethod zm_X5_init.1 ∈ zT := zTm 183 (by decide +kernel) rfl
theorem zi_X6_init : Cond.instanceMethod zm_X6_init.1 ∈ zT := zTm 236 (by decide +kernel) rfl
theorem zi_X7_init : Cond.instanceMethod zm_X7_init.1 ∈ zT := zTm 154 (by decide +kernel) rfl
theorem zi_X8_init : Cond.instanceMethod zm_X8_init.1 ∈ zT := zTm 132 (by decide +kernel) rfl
theorem zi_X9_init : Cond.instanceMethod zm_X9_init.1 ∈ zT := zTm 258 (by decide +kernel) rfl
theorem zs_J7_fill_53178 : Cond.static zm_J7_fill_53178.1 ∈ zT := zTm 262 (by decide +kernel) rfl
theorem zs_J9_min_7cf53 : Cond.static zm_J9_min_7cf53.1 ∈ zT := zTm 567 (by decide +kernel) rfl
theorem zs_X11_alike : Cond.static zm_X11_alike.1 ∈ zT := zTm 620 (by decide +kernel) rfl
theorem zs_X12_hasNumber : Cond.static zm_X12_hasNumber.1 ∈ zT := zTm 1585 (by decide +kernel) rfl
theorem zs_X12_in : Cond.static zm_X12_in.1 ∈ zT := zTm 1326 (by decide +kernel) rfl
theorem zs_X12_isLike : Cond.static zm_X12_isLike.1 ∈ zT := zTm 1377 (by decide +kernel) rfl
theorem zv_X0_advance : Cond.instanceMethod zm_X0_advance.1 ∈ zT ∧ Cond.selects zm_X0_advance.1.cls zm_X0_advance.1 zm_X0_advance.1 ∈ zT := ⟨zTm 936 (by decide +kernel) rfl, zTm 22 (by decide +kernel) rfl⟩
theorem zv_X0_advanceFactor : Cond.instanceMethod zm_X0_advanceFactor.1 ∈ zT ∧ Cond.selects zm_X0_advanceFactor.1.cls zm_X0_advanceFactor.1 zm_X0_advanceFactor.1 ∈ zT := ⟨zTm 955 (by decide +kernel) rfl, zTm 25 (by decide +kernel) rfl⟩
theorem zv_X0_advanceTurn : Cond.instanceMethod zm_X0_advanceTurn.1 ∈ zT ∧ Cond.selects zm_X0_advanceTurn.1.cls zm_X0_advanceTurn.1 zm_X0_advanceTurn.1 ∈ zT := ⟨zTm 944 (by decide +kernel) rfl, zTm 23 (by decide +kernel) rfl⟩
theorem zv_X0_asGiven : Cond.instanceMethod zm_X0_asGiven.1 ∈ zT ∧ Cond.selects zm_X0_asGiven.1.cls zm_X0_asGiven.1 zm_X0_asGiven.1 ∈ zT := ⟨zTm 585 (by decide +kernel) rfl, zTm 586 (by decide +kernel) rfl⟩
theorem zv_X0_begin : Cond.instanceMethod zm_X0_begin.1 ∈ zT ∧ Cond.selects zm_X0_begin.1.cls zm_X0_begin.1 zm_X0_begin.1 ∈ zT := ⟨zTm 924 (by decide +kernel) rfl, zTm 925 (by decide +kernel) rfl⟩
theorem zv_X0_findPlace : Cond.instanceMethod zm_X0_findPlace.1 ∈ zT ∧ Cond.selects zm_X0_findPlace.1.cls zm_X0_findPlace.1 zm_X0_findPlace.1 ∈ zT := ⟨zTm 949 (by decide +kernel) rfl, zTm 24 (by decide +kernel) rfl⟩
theorem zv_X0_next : Cond.instanceMethod zm_X0_next.1 ∈ zT ∧ Cond.selects zm_X0_next.1.cls zm_X0_next.1 zm_X0_next.1 ∈ zT := ⟨zTm 929 (by decide +kernel) rfl, zTm 930 (by decide +kernel) rfl⟩
theorem zv_X0_nextPhase : Cond.instanceMethod zm_X0_nextPhase.1 ∈ zT ∧ Cond.selects zm_X0_nextPhase.1.cls zm_X0_nextPhase.1 zm_X0_nextPhase.1 ∈ zT := ⟨zTm 963 (by decide +kernel) rfl, zTm 27 (by decide +kernel) rfl⟩
theorem zv_X0_tell : Cond.instanceMethod zm_X0_tell.1 ∈ zT ∧ Cond.selects zm_X0_tell.1.cls zm_X0_tell.1 zm_X0_tell.1 ∈ zT := ⟨zTm 959 (by decide +kernel) rfl, zTm 26 (by decide +kernel) rfl⟩
theorem zv_X10_isTakenIn : Cond.instanceMethod zm_X10_isTakenIn.1 ∈ zT ∧ Cond.selects zm_X10_isTakenIn.1.cls zm_X10_isTakenIn.1 zm_X10_isTakenIn.1 ∈ zT := ⟨zTm 771 (by decide +kernel) rfl, zTm 772 (by decide +kernel) rfl⟩
theorem zv_X10_putAway : Cond.instanceMethod zm_X10_putAway.1 ∈ zT ∧ Cond.selects zm_X10_putAway.1.cls zm_X10_putAway.1 zm_X10_putAway.1 ∈ zT := ⟨zTm 899 (by decide +kernel) rfl, zTm 900 (by decide +kernel) rfl⟩
theorem zv_X10_takes : Cond.instanceMethod zm_X10_takes.1 ∈ zT ∧ Cond.selects zm_X10_takes.1.cls zm_X10_takes.1 zm_X10_takes.1 ∈ zT := ⟨zTm 777 (by decide +kernel) rfl, zTm 778 (by decide +kernel) rfl⟩
theorem zv_X11_claim : Cond.instanceMethod zm_X11_claim.1 ∈ zT ∧ Cond.selects zm_X11_claim.1.cls zm_X11_claim.1 zm_X11_claim.1 ∈ zT := ⟨zTm 1036 (by decide +kernel) rfl, zTm 1037 (by decide +kernel) rfl⟩
theorem zv_X11_clear : Cond.instanceMethod zm_X11_clear.1 ∈ zT ∧ Cond.selects zm_X11_clear.1.cls zm_X11_clear.1 zm_X11_clear.1 ∈ zT := ⟨zTm 1032 (by decide +kernel) rfl, zTm 1033 (by decide +kernel) rfl⟩
theorem zv_X11_count : Cond.instanceMethod zm_X11_count.1 ∈ zT ∧ Cond.selects zm_X11_count.1.cls zm_X11_count.1 zm_X11_count.1 ∈ zT := ⟨zTm 1106 (by decide +kernel) rfl, zTm 1107 (by decide +kernel) rfl⟩
theorem zv_X11_digest : Cond.instanceMethod zm_X11_digest.1 ∈ zT ∧ Cond.selects zm_X11_digest.1.cls zm_X11_digest.1 zm_X11_digest.1 ∈ zT := ⟨zTm 1114 (by decide +kernel) rfl, zTm 1115 (by decide +kernel) rfl⟩
theorem zv_X11_digestLiterals : Cond.instanceMethod zm_X11_digestLiterals.1 ∈ zT ∧ Cond.selects zm_X11_digestLiterals.1.cls zm_X11_digestLiterals.1 zm_X11_digestLiterals.1 ∈ zT := ⟨zTm 1123 (by decide +kernel) rfl, zTm 40 (by decide +kernel) rfl⟩
theorem zv_X11_digestStep : Cond.instanceMethod zm_X11_digestStep.1 ∈ zT ∧ Cond.selects zm_X11_digestStep.1.cls zm_X11_digestStep.1 zm_X11_digestStep.1 ∈ zT := ⟨zTm 1128 (by decide +kernel) rfl, zTm 41 (by decide +kernel) rfl⟩
theorem zv_X11_draft : Cond.instanceMethod zm_X11_draft.1 ∈ zT ∧ Cond.selects zm_X11_draft.1.cls zm_X11_draft.1 zm_X11_draft.1 ∈ zT := ⟨zTm 539 (by decide +kernel) rfl, zTm 540 (by decide +kernel) rfl⟩
theorem zv_X11_endOfParts : Cond.instanceMethod zm_X11_endOfParts.1 ∈ zT ∧ Cond.selects zm_X11_endOfParts.1.cls zm_X11_endOfParts.1 zm_X11_endOfParts.1 ∈ zT := ⟨zTm 564 (by decide +kernel) rfl, zTm 1 (by decide +kernel) rfl⟩
theorem zv_X11_forge : Cond.instanceMethod zm_X11_forge.1 ∈ zT ∧ Cond.selects zm_X11_forge.1.cls zm_X11_forge.1 zm_X11_forge.1 ∈ zT := ⟨zTm 1055 (by decide +kernel) rfl, zTm 1056 (by decide +kernel) rfl⟩
theorem zv_X11_fuel : Cond.instanceMethod zm_X11_fuel.1 ∈ zT ∧ Cond.selects zm_X11_fuel.1.cls zm_X11_fuel.1 zm_X11_fuel.1 ∈ zT := ⟨zTm 911 (by decide +kernel) rfl, zTm 912 (by decide +kernel) rfl⟩
theorem zv_X11_given : Cond.instanceMethod zm_X11_given.1 ∈ zT ∧ Cond.selects zm_X11_given.1.cls zm_X11_given.1 zm_X11_given.1 ∈ zT := ⟨zTm 543 (by decide +kernel) rfl, zTm 544 (by decide +kernel) rfl⟩
theorem zv_X11_hasFuel : Cond.instanceMethod zm_X11_hasFuel.1 ∈ zT ∧ Cond.selects zm_X11_hasFuel.1.cls zm_X11_hasFuel.1 zm_X11_hasFuel.1 ∈ zT := ⟨zTm 1029 (by decide +kernel) rfl, zTm 37 (by decide +kernel) rfl⟩
theorem zv_X11_judge : Cond.instanceMethod zm_X11_judge.1 ∈ zT ∧ Cond.selects zm_X11_judge.1.cls zm_X11_judge.1 zm_X11_judge.1 ∈ zT := ⟨zTm 1062 (by decide +kernel) rfl, zTm 1063 (by decide +kernel) rfl⟩
theorem zv_X11_keep : Cond.instanceMethod zm_X11_keep.1 ∈ zT ∧ Cond.selects zm_X11_keep.1.cls zm_X11_keep.1 zm_X11_keep.1 ∈ zT := ⟨zTm 785 (by decide +kernel) rfl, zTm 20 (by decide +kernel) rfl⟩
theorem zv_X11_literal : Cond.instanceMethod zm_X11_literal.1 ∈ zT ∧ Cond.selects zm_X11_literal.1.cls zm_X11_literal.1 zm_X11_literal.1 ∈ zT := ⟨zTm 1040 (by decide +kernel) rfl, zTm 1041 (by decide +kernel) rfl⟩
theorem zv_X11_order : Cond.instanceMethod zm_X11_order.1 ∈ zT ∧ Cond.selects zm_X11_order.1.cls zm_X11_order.1 zm_X11_order.1 ∈ zT := ⟨zTm 1096 (by decide +kernel) rfl, zTm 1097 (by decide +kernel) rfl⟩
theorem zv_X11_pick : Cond.instanceMethod zm_X11_pick.1 ∈ zT ∧ Cond.selects zm_X11_pick.1.cls zm_X11_pick.1 zm_X11_pick.1 ∈ zT := ⟨zTm 920 (by decide +kernel) rfl, zTm 21 (by decide +kernel) rfl⟩
theorem zv_X11_proof : Cond.instanceMethod zm_X11_proof.1 ∈ zT ∧ Cond.selects zm_X11_proof.1.cls zm_X11_proof.1 zm_X11_proof.1 ∈ zT := ⟨zTm 1076 (by decide +kernel) rfl, zTm 1077 (by decide +kernel) rfl⟩
theorem zv_X11_readDraft : Cond.instanceMethod zm_X11_readDraft.1 ∈ zT ∧ Cond.selects zm_X11_readDraft.1.cls zm_X11_readDraft.1 zm_X11_readDraft.1 ∈ zT := ⟨zTm 548 (by decide +kernel) rfl, zTm 0 (by decide +kernel) rfl⟩
theorem zv_X11_run : Cond.instanceMethod zm_X11_run.1 ∈ zT ∧ Cond.selects zm_X11_run.1.cls zm_X11_run.1 zm_X11_run.1 ∈ zT := ⟨zTm 915 (by decide +kernel) rfl, zTm 916 (by decide +kernel) rfl⟩
theorem zv_X11_settle : Cond.instanceMethod zm_X11_settle.1 ∈ zT ∧ Cond.selects zm_X11_settle.1.cls zm_X11_settle.1 zm_X11_settle.1 ∈ zT := ⟨zTm 591 (by decide +kernel) rfl, zTm 2 (by decide +kernel) rfl⟩
theorem zv_X11_sign : Cond.instanceMethod zm_X11_sign.1 ∈ zT ∧ Cond.selects zm_X11_sign.1.cls zm_X11_sign.1 zm_X11_sign.1 ∈ zT := ⟨zTm 531 (by decide +kernel) rfl, zTm 532 (by decide +kernel) rfl⟩
theorem zv_X11_step : Cond.instanceMethod zm_X11_step.1 ∈ zT ∧ Cond.selects zm_X11_step.1.cls zm_X11_step.1 zm_X11_step.1 ∈ zT := ⟨zTm 1047 (by decide +kernel) rfl, zTm 1048 (by decide +kernel) rfl⟩
theorem zv_X11_takesIn : Cond.instanceMethod zm_X11_takesIn.1 ∈ zT ∧ Cond.selects zm_X11_takesIn.1.cls zm_X11_takesIn.1 zm_X11_takesIn.1 ∈ zT := ⟨zTm 1101 (by decide +kernel) rfl, zTm 1102 (by decide +kernel) rfl⟩
theorem zv_X11_turns : Cond.instanceMethod zm_X11_turns.1 ∈ zT ∧ Cond.selects zm_X11_turns.1.cls zm_X11_turns.1 zm_X11_turns.1 ∈ zT := ⟨zTm 907 (by decide +kernel) rfl, zTm 908 (by decide +kernel) rfl⟩
theorem zv_X11_wipe : Cond.instanceMethod zm_X11_wipe.1 ∈ zT ∧ Cond.selects zm_X11_wipe.1.cls zm_X11_wipe.1 zm_X11_wipe.1 ∈ zT := ⟨zTm 903 (by decide +kernel) rfl, zTm 904 (by decide +kernel) rfl⟩
theorem zv_X12_allTurns : Cond.instanceMethod zm_X12_allTurns.1 ∈ zT ∧ Cond.selects zm_X12_allTurns.1.cls zm_X12_allTurns.1 zm_X12_allTurns.1 ∈ zT := ⟨zTm 1569 (by decide +kernel) rfl, zTm 95 (by decide +kernel) rfl⟩
theorem zv_X12_areAlike : Cond.instanceMethod zm_X12_areAlike.1 ∈ zT ∧ Cond.selects zm_X12_areAlike.1.cls zm_X12_areAlike.1 zm_X12_areAlike.1 ∈ zT := ⟨zTm 1389 (by decide +kernel) rfl, zTm 53 (by decide +kernel) rfl⟩
theorem zv_X12_areLike : Cond.instanceMethod zm_X12_areLike.1 ∈ zT ∧ Cond.selects zm_X12_areLike.1.cls zm_X12_areLike.1 zm_X12_areLike.1 ∈ zT := ⟨zTm 1374 (by decide +kernel) rfl, zTm 50 (by decide +kernel) rfl⟩
theorem zv_X12_binds : Cond.instanceMethod zm_X12_binds.1 ∈ zT ∧ Cond.selects zm_X12_binds.1.cls zm_X12_binds.1 zm_X12_binds.1 ∈ zT := ⟨zTm 1525 (by decide +kernel) rfl, zTm 84 (by decide +kernel) rfl⟩
theorem zv_X12_chosenOf : Cond.instanceMethod zm_X12_chosenOf.1 ∈ zT ∧ Cond.selects zm_X12_chosenOf.1.cls zm_X12_chosenOf.1 zm_X12_chosenOf.1 ∈ zT := ⟨zTm 1505 (by decide +kernel) rfl, zTm 79 (by decide +kernel) rfl⟩
theorem zv_X12_claim : Cond.instanceMethod zm_X12_claim.1 ∈ zT ∧ Cond.selects zm_X12_claim.1.cls zm_X12_claim.1 zm_X12_claim.1 ∈ zT := ⟨zTm 1620 (by decide +kernel) rfl, zTm 1621 (by decide +kernel) rfl⟩
theorem zv_X12_claimTakes : Cond.instanceMethod zm_X12_claimTakes.1 ∈ zT ∧ Cond.selects zm_X12_claimTakes.1.cls zm_X12_claimTakes.1 zm_X12_claimTakes.1 ∈ zT := ⟨zTm 1453 (by decide +kernel) rfl, zTm 69 (by decide +kernel) rfl⟩
theorem zv_X12_claimTakesWork : Cond.instanceMethod zm_X12_claimTakesWork.1 ∈ zT ∧ Cond.selects zm_X12_claimTakesWork.1.cls zm_X12_claimTakesWork.1 zm_X12_claimTakesWork.1 ∈ zT := ⟨zTm 1429 (by decide +kernel) rfl, zTm 63 (by decide +kernel) rfl⟩
theorem zv_X12_clash : Cond.instanceMethod zm_X12_clash.1 ∈ zT ∧ Cond.selects zm_X12_clash.1.cls zm_X12_clash.1 zm_X12_clash.1 ∈ zT := ⟨zTm 1497 (by decide +kernel) rfl, zTm 77 (by decide +kernel) rfl⟩
theorem zv_X12_clashes : Cond.instanceMethod zm_X12_clashes.1 ∈ zT ∧ Cond.selects zm_X12_clashes.1.cls zm_X12_clashes.1 zm_X12_clashes.1 ∈ zT := ⟨zTm 1485 (by decide +kernel) rfl, zTm 74 (by decide +kernel) rfl⟩
theorem zv_X12_clean : Cond.instanceMethod zm_X12_clean.1 ∈ zT ∧ Cond.selects zm_X12_clean.1.cls zm_X12_clean.1 zm_X12_clean.1 ∈ zT := ⟨zTm 1354 (by decide +kernel) rfl, zTm 45 (by decide +kernel) rfl⟩
theorem zv_X12_clear : Cond.instanceMethod zm_X12_clear.1 ∈ zT ∧ Cond.selects zm_X12_clear.1.cls zm_X12_clear.1 zm_X12_clear.1 ∈ zT := ⟨zTm 1572 (by decide +kernel) rfl, zTm 1573 (by decide +kernel) rfl⟩
theorem zv_X12_comes : Cond.instanceMethod zm_X12_comes.1 ∈ zT ∧ Cond.selects zm_X12_comes.1.cls zm_X12_comes.1 zm_X12_comes.1 ∈ zT := ⟨zTm 1545 (by decide +kernel) rfl, zTm 89 (by decide +kernel) rfl⟩
theorem zv_X12_count : Cond.instanceMethod zm_X12_count.1 ∈ zT ∧ Cond.selects zm_X12_count.1.cls zm_X12_count.1 zm_X12_count.1 ∈ zT := ⟨zTm 1640 (by decide +kernel) rfl, zTm 1641 (by decide +kernel) rfl⟩
theorem zv_X12_digest : Cond.instanceMethod zm_X12_digest.1 ∈ zT ∧ Cond.selects zm_X12_digest.1.cls zm_X12_digest.1 zm_X12_digest.1 ∈ zT := ⟨zTm 1648 (by decide +kernel) rfl, zTm 1649 (by decide +kernel) rfl⟩
theorem zv_X12_draft : Cond.instanceMethod zm_X12_draft.1 ∈ zT ∧ Cond.selects zm_X12_draft.1.cls zm_X12_draft.1 zm_X12_draft.1 ∈ zT := ⟨zTm 1329 (by decide +kernel) rfl, zTm 1330 (by decide +kernel) rfl⟩
theorem zv_X12_drop : Cond.instanceMethod zm_X12_drop.1 ∈ zT ∧ Cond.selects zm_X12_drop.1.cls zm_X12_drop.1 zm_X12_drop.1 ∈ zT := ⟨zTm 1553 (by decide +kernel) rfl, zTm 91 (by decide +kernel) rfl⟩
theorem zv_X12_endOf : Cond.instanceMethod zm_X12_endOf.1 ∈ zT ∧ Cond.selects zm_X12_endOf.1.cls zm_X12_endOf.1 zm_X12_endOf.1 ∈ zT := ⟨zTm 1358 (by decide +kernel) rfl, zTm 46 (by decide +kernel) rfl⟩
theorem zv_X12_ends : Cond.instanceMethod zm_X12_ends.1 ∈ zT ∧ Cond.selects zm_X12_ends.1.cls zm_X12_ends.1 zm_X12_ends.1 ∈ zT := ⟨zTm 1346 (by decide +kernel) rfl, zTm 43 (by decide +kernel) rfl⟩
theorem zv_X12_exchange : Cond.instanceMethod zm_X12_exchange.1 ∈ zT ∧ Cond.selects zm_X12_exchange.1.cls zm_X12_exchange.1 zm_X12_exchange.1 ∈ zT := ⟨zTm 1381 (by decide +kernel) rfl, zTm 51 (by decide +kernel) rfl⟩
theorem zv_X12_factor : Cond.instanceMethod zm_X12_factor.1 ∈ zT ∧ Cond.selects zm_X12_factor.1.cls zm_X12_factor.1 zm_X12_factor.1 ∈ zT := ⟨zTm 1549 (by decide +kernel) rfl, zTm 90 (by decide +kernel) rfl⟩
theorem zv_X12_findRewriting : Cond.instanceMethod zm_X12_findRewriting.1 ∈ zT ∧ Cond.selects zm_X12_findRewriting.1.cls zm_X12_findRewriting.1 zm_X12_findRewriting.1 ∈ zT := ⟨zTm 1393 (by decide +kernel) rfl, zTm 54 (by decide +kernel) rfl⟩
theorem zv_X12_finishes : Cond.instanceMethod zm_X12_finishes.1 ∈ zT ∧ Cond.selects zm_X12_finishes.1.cls zm_X12_finishes.1 zm_X12_finishes.1 ∈ zT := ⟨zTm 1350 (by decide +kernel) rfl, zTm 44 (by decide +kernel) rfl⟩
theorem zv_X12_forge : Cond.instanceMethod zm_X12_forge.1 ∈ zT ∧ Cond.selects zm_X12_forge.1.cls zm_X12_forge.1 zm_X12_forge.1 ∈ zT := ⟨zTm 1588 (by decide +kernel) rfl, zTm 1589 (by decide +kernel) rfl⟩
theorem zv_X12_fuel : Cond.instanceMethod zm_X12_fuel.1 ∈ zT ∧ Cond.selects zm_X12_fuel.1.cls zm_X12_fuel.1 zm_X12_fuel.1 ∈ zT := ⟨zTm 1460 (by decide +kernel) rfl, zTm 1461 (by decide +kernel) rfl⟩
theorem zv_X12_given : Cond.instanceMethod zm_X12_given.1 ∈ zT ∧ Cond.selects zm_X12_given.1.cls zm_X12_given.1 zm_X12_given.1 ∈ zT := ⟨zTm 1337 (by decide +kernel) rfl, zTm 1338 (by decide +kernel) rfl⟩
theorem zv_X12_goesOn : Cond.instanceMethod zm_X12_goesOn.1 ∈ zT ∧ Cond.selects zm_X12_goesOn.1.cls zm_X12_goesOn.1 zm_X12_goesOn.1 ∈ zT := ⟨zTm 1481 (by decide +kernel) rfl, zTm 73 (by decide +kernel) rfl⟩
theorem zv_X12_goesOnMatching : Cond.instanceMethod zm_X12_goesOnMatching.1 ∈ zT ∧ Cond.selects zm_X12_goesOnMatching.1.cls zm_X12_goesOnMatching.1 zm_X12_goesOnMatching.1 ∈ zT := ⟨zTm 1445 (by decide +kernel) rfl, zTm 67 (by decide +kernel) rfl⟩
theorem zv_X12_hasLetters : Cond.instanceMethod zm_X12_hasLetters.1 ∈ zT ∧ Cond.selects zm_X12_hasLetters.1.cls zm_X12_hasLetters.1 zm_X12_hasLetters.1 ∈ zT := ⟨zTm 1366 (by decide +kernel) rfl, zTm 48 (by decide +kernel) rfl⟩
theorem zv_X12_hasLikeSides : Cond.instanceMethod zm_X12_hasLikeSides.1 ∈ zT ∧ Cond.selects zm_X12_hasLikeSides.1.cls zm_X12_hasLikeSides.1 zm_X12_hasLikeSides.1 ∈ zT := ⟨zTm 1385 (by decide +kernel) rfl, zTm 52 (by decide +kernel) rfl⟩
theorem zv_X12_inStatus : Cond.instanceMethod zm_X12_inStatus.1 ∈ zT ∧ Cond.selects zm_X12_inStatus.1.cls zm_X12_inStatus.1 zm_X12_inStatus.1 ∈ zT := ⟨zTm 1645 (by decide +kernel) rfl, zTm 103 (by decide +kernel) rfl⟩
theorem zv_X12_isClaim : Cond.instanceMethod zm_X12_isClaim.1 ∈ zT ∧ Cond.selects zm_X12_isClaim.1.cls zm_X12_isClaim.1 zm_X12_isClaim.1 ∈ zT := ⟨zTm 1581 (by decide +kernel) rfl, zTm 96 (by decide +kernel) rfl⟩
theorem zv_X12_isEquation : Cond.instanceMethod zm_X12_isEquation.1 ∈ zT ∧ Cond.selects zm_X12_isEquation.1.cls zm_X12_isEquation.1 zm_X12_isEquation.1 ∈ zT := ⟨zTm 1397 (by decide +kernel) rfl, zTm 55 (by decide +kernel) rfl⟩
theorem zv_X12_isGreater : Cond.instanceMethod zm_X12_isGreater.1 ∈ zT ∧ Cond.selects zm_X12_isGreater.1.cls zm_X12_isGreater.1 zm_X12_isGreater.1 ∈ zT := ⟨zTm 1362 (by decide +kernel) rfl, zTm 47 (by decide +kernel) rfl⟩
theorem zv_X12_isLiteral : Cond.instanceMethod zm_X12_isLiteral.1 ∈ zT ∧ Cond.selects zm_X12_isLiteral.1.cls zm_X12_isLiteral.1 zm_X12_isLiteral.1 ∈ zT := ⟨zTm 1509 (by decide +kernel) rfl, zTm 80 (by decide +kernel) rfl⟩
theorem zv_X12_isPositive : Cond.instanceMethod zm_X12_isPositive.1 ∈ zT ∧ Cond.selects zm_X12_isPositive.1.cls zm_X12_isPositive.1 zm_X12_isPositive.1 ∈ zT := ⟨zTm 1501 (by decide +kernel) rfl, zTm 78 (by decide +kernel) rfl⟩
theorem zv_X12_isTakenIn : Cond.instanceMethod zm_X12_isTakenIn.1 ∈ zT ∧ Cond.selects zm_X12_isTakenIn.1.cls zm_X12_isTakenIn.1 zm_X12_isTakenIn.1 ∈ zT := ⟨zTm 1425 (by decide +kernel) rfl, zTm 62 (by decide +kernel) rfl⟩
theorem zv_X12_isTrivial : Cond.instanceMethod zm_X12_isTrivial.1 ∈ zT ∧ Cond.selects zm_X12_isTrivial.1.cls zm_X12_isTrivial.1 zm_X12_isTrivial.1 ∈ zT := ⟨zTm 1421 (by decide +kernel) rfl, zTm 61 (by decide +kernel) rfl⟩
theorem zv_X12_isWork : Cond.instanceMethod zm_X12_isWork.1 ∈ zT ∧ Cond.selects zm_X12_isWork.1.cls zm_X12_isWork.1 zm_X12_isWork.1 ∈ zT := ⟨zTm 1609 (by decide +kernel) rfl, zTm 100 (by decide +kernel) rfl⟩
theorem zv_X12_judge : Cond.instanceMethod zm_X12_judge.1 ∈ zT ∧ Cond.selects zm_X12_judge.1.cls zm_X12_judge.1 zm_X12_judge.1 ∈ zT := ⟨zTm 1592 (by decide +kernel) rfl, zTm 1593 (by decide +kernel) rfl⟩
theorem zv_X12_layWork : Cond.instanceMethod zm_X12_layWork.1 ∈ zT ∧ Cond.selects zm_X12_layWork.1.cls zm_X12_layWork.1 zm_X12_layWork.1 ∈ zT := ⟨zTm 1449 (by decide +kernel) rfl, zTm 68 (by decide +kernel) rfl⟩
theorem zv_X12_lays : Cond.instanceMethod zm_X12_lays.1 ∈ zT ∧ Cond.selects zm_X12_lays.1.cls zm_X12_lays.1 zm_X12_lays.1 ∈ zT := ⟨zTm 1417 (by decide +kernel) rfl, zTm 60 (by decide +kernel) rfl⟩
theorem zv_X12_lettersOf : Cond.instanceMethod zm_X12_lettersOf.1 ∈ zT ∧ Cond.selects zm_X12_lettersOf.1.cls zm_X12_lettersOf.1 zm_X12_lettersOf.1 ∈ zT := ⟨zTm 1625 (by decide +kernel) rfl, zTm 102 (by decide +kernel) rfl⟩
theorem zv_X12_literal : Cond.instanceMethod zm_X12_literal.1 ∈ zT ∧ Cond.selects zm_X12_literal.1.cls zm_X12_literal.1 zm_X12_literal.1 ∈ zT := ⟨zTm 1628 (by decide +kernel) rfl, zTm 1629 (by decide +kernel) rfl⟩
theorem zv_X12_makeOther : Cond.instanceMethod zm_X12_makeOther.1 ∈ zT ∧ Cond.selects zm_X12_makeOther.1.cls zm_X12_makeOther.1 zm_X12_makeOther.1 ∈ zT := ⟨zTm 1413 (by decide +kernel) rfl, zTm 59 (by decide +kernel) rfl⟩
theorem zv_X12_makes : Cond.instanceMethod zm_X12_makes.1 ∈ zT ∧ Cond.selects zm_X12_makes.1.cls zm_X12_makes.1 zm_X12_makes.1 ∈ zT := ⟨zTm 1493 (by decide +kernel) rfl, zTm 76 (by decide +kernel) rfl⟩
theorem zv_X12_makesAgain : Cond.instanceMethod zm_X12_makesAgain.1 ∈ zT ∧ Cond.selects zm_X12_makesAgain.1.cls zm_X12_makesAgain.1 zm_X12_makesAgain.1 ∈ zT := ⟨zTm 1597 (by decide +kernel) rfl, zTm 97 (by decide +kernel) rfl⟩
theorem zv_X12_matchesTerm : Cond.instanceMethod zm_X12_matchesTerm.1 ∈ zT ∧ Cond.selects zm_X12_matchesTerm.1.cls zm_X12_matchesTerm.1 zm_X12_matchesTerm.1 ∈ zT := ⟨zTm 1409 (by decide +kernel) rfl, zTm 58 (by decide +kernel) rfl⟩
theorem zv_X12_names : Cond.instanceMethod zm_X12_names.1 ∈ zT ∧ Cond.selects zm_X12_names.1.cls zm_X12_names.1 zm_X12_names.1 ∈ zT := ⟨zTm 1617 (by decide +kernel) rfl, zTm 101 (by decide +kernel) rfl⟩
theorem zv_X12_namesEarlier : Cond.instanceMethod zm_X12_namesEarlier.1 ∈ zT ∧ Cond.selects zm_X12_namesEarlier.1.cls zm_X12_namesEarlier.1 zm_X12_namesEarlier.1 ∈ zT := ⟨zTm 1601 (by decide +kernel) rfl, zTm 98 (by decide +kernel) rfl⟩
theorem zv_X12_occurs : Cond.instanceMethod zm_X12_occurs.1 ∈ zT ∧ Cond.selects zm_X12_occurs.1.cls zm_X12_occurs.1 zm_X12_occurs.1 ∈ zT := ⟨zTm 1529 (by decide +kernel) rfl, zTm 85 (by decide +kernel) rfl⟩
theorem zv_X12_order : Cond.instanceMethod zm_X12_order.1 ∈ zT ∧ Cond.selects zm_X12_order.1.cls zm_X12_order.1 zm_X12_order.1 ∈ zT := ⟨zTm 1632 (by decide +kernel) rfl, zTm 1633 (by decide +kernel) rfl⟩
theorem zv_X12_pick : Cond.instanceMethod zm_X12_pick.1 ∈ zT ∧ Cond.selects zm_X12_pick.1.cls zm_X12_pick.1 zm_X12_pick.1 ∈ zT := ⟨zTm 1469 (by decide +kernel) rfl, zTm 70 (by decide +kernel) rfl⟩
theorem zv_X12_proof : Cond.instanceMethod zm_X12_proof.1 ∈ zT ∧ Cond.selects zm_X12_proof.1.cls zm_X12_proof.1 zm_X12_proof.1 ∈ zT := ⟨zTm 1612 (by decide +kernel) rfl, zTm 1613 (by decide +kernel) rfl⟩
theorem zv_X12_put : Cond.instanceMethod zm_X12_put.1 ∈ zT ∧ Cond.selects zm_X12_put.1.cls zm_X12_put.1 zm_X12_put.1 ∈ zT := ⟨zTm 1541 (by decide +kernel) rfl, zTm 88 (by decide +kernel) rfl⟩
theorem zv_X12_reads : Cond.instanceMethod zm_X12_reads.1 ∈ zT ∧ Cond.selects zm_X12_reads.1.cls zm_X12_reads.1 zm_X12_reads.1 ∈ zT := ⟨zTm 1342 (by decide +kernel) rfl, zTm 42 (by decide +kernel) rfl⟩
theorem zv_X12_restore : Cond.instanceMethod zm_X12_restore.1 ∈ zT ∧ Cond.selects zm_X12_restore.1.cls zm_X12_restore.1 zm_X12_restore.1 ∈ zT := ⟨zTm 1441 (by decide +kernel) rfl, zTm 66 (by decide +kernel) rfl⟩
theorem zv_X12_rewrites : Cond.instanceMethod zm_X12_rewrites.1 ∈ zT ∧ Cond.selects zm_X12_rewrites.1.cls zm_X12_rewrites.1 zm_X12_rewrites.1 ∈ zT := ⟨zTm 1401 (by decide +kernel) rfl, zTm 56 (by decide +kernel) rfl⟩
theorem zv_X12_rewritesAgain : Cond.instanceMethod zm_X12_rewritesAgain.1 ∈ zT ∧ Cond.selects zm_X12_rewritesAgain.1.cls zm_X12_rewritesAgain.1 zm_X12_rewritesAgain.1 ∈ zT := ⟨zTm 1605 (by decide +kernel) rfl, zTm 99 (by decide +kernel) rfl⟩
theorem zv_X12_run : Cond.instanceMethod zm_X12_run.1 ∈ zT ∧ Cond.selects zm_X12_run.1.cls zm_X12_run.1 zm_X12_run.1 ∈ zT := ⟨zTm 1464 (by decide +kernel) rfl, zTm 1465 (by decide +kernel) rfl⟩
theorem zv_X12_save : Cond.instanceMethod zm_X12_save.1 ∈ zT ∧ Cond.selects zm_X12_save.1.cls zm_X12_save.1 zm_X12_save.1 ∈ zT := ⟨zTm 1437 (by decide +kernel) rfl, zTm 65 (by decide +kernel) rfl⟩
theorem zv_X12_sign : Cond.instanceMethod zm_X12_sign.1 ∈ zT ∧ Cond.selects zm_X12_sign.1.cls zm_X12_sign.1 zm_X12_sign.1 ∈ zT := ⟨zTm 1322 (by decide +kernel) rfl, zTm 1323 (by decide +kernel) rfl⟩
theorem zv_X12_standsAt : Cond.instanceMethod zm_X12_standsAt.1 ∈ zT ∧ Cond.selects zm_X12_standsAt.1.cls zm_X12_standsAt.1 zm_X12_standsAt.1 ∈ zT := ⟨zTm 1521 (by decide +kernel) rfl, zTm 83 (by decide +kernel) rfl⟩
theorem zv_X12_step : Cond.instanceMethod zm_X12_step.1 ∈ zT ∧ Cond.selects zm_X12_step.1.cls zm_X12_step.1 zm_X12_step.1 ∈ zT := ⟨zTm 1576 (by decide +kernel) rfl, zTm 1577 (by decide +kernel) rfl⟩
theorem zv_X12_take : Cond.instanceMethod zm_X12_take.1 ∈ zT ∧ Cond.selects zm_X12_take.1.cls zm_X12_take.1 zm_X12_take.1 ∈ zT := ⟨zTm 1513 (by decide +kernel) rfl, zTm 81 (by decide +kernel) rfl⟩
theorem zv_X12_takes : Cond.instanceMethod zm_X12_takes.1 ∈ zT ∧ Cond.selects zm_X12_takes.1.cls zm_X12_takes.1 zm_X12_takes.1 ∈ zT := ⟨zTm 1433 (by decide +kernel) rfl, zTm 64 (by decide +kernel) rfl⟩
theorem zv_X12_takesIn : Cond.instanceMethod zm_X12_takesIn.1 ∈ zT ∧ Cond.selects zm_X12_takesIn.1.cls zm_X12_takesIn.1 zm_X12_takesIn.1 ∈ zT := ⟨zTm 1636 (by decide +kernel) rfl, zTm 1637 (by decide +kernel) rfl⟩
theorem zv_X12_tries : Cond.instanceMethod zm_X12_tries.1 ∈ zT ∧ Cond.selects zm_X12_tries.1.cls zm_X12_tries.1 zm_X12_tries.1 ∈ zT := ⟨zTm 1489 (by decide +kernel) rfl, zTm 75 (by decide +kernel) rfl⟩
theorem zv_X12_turn : Cond.instanceMethod zm_X12_turn.1 ∈ zT ∧ Cond.selects zm_X12_turn.1.cls zm_X12_turn.1 zm_X12_turn.1 ∈ zT := ⟨zTm 1557 (by decide +kernel) rfl, zTm 92 (by decide +kernel) rfl⟩
theorem zv_X12_turnWrites : Cond.instanceMethod zm_X12_turnWrites.1 ∈ zT ∧ Cond.selects zm_X12_turnWrites.1.cls zm_X12_turnWrites.1 zm_X12_turnWrites.1 ∈ zT := ⟨zTm 1561 (by decide +kernel) rfl, zTm 93 (by decide +kernel) rfl⟩
theorem zv_X12_turns : Cond.instanceMethod zm_X12_turns.1 ∈ zT ∧ Cond.selects zm_X12_turns.1.cls zm_X12_turns.1 zm_X12_turns.1 ∈ zT := ⟨zTm 1456 (by decide +kernel) rfl, zTm 1457 (by decide +kernel) rfl⟩
theorem zv_X12_unbind : Cond.instanceMethod zm_X12_unbind.1 ∈ zT ∧ Cond.selects zm_X12_unbind.1.cls zm_X12_unbind.1 zm_X12_unbind.1 ∈ zT := ⟨zTm 1405 (by decide +kernel) rfl, zTm 57 (by decide +kernel) rfl⟩
theorem zv_X12_unites : Cond.instanceMethod zm_X12_unites.1 ∈ zT ∧ Cond.selects zm_X12_unites.1.cls zm_X12_unites.1 zm_X12_unites.1 ∈ zT := ⟨zTm 1517 (by decide +kernel) rfl, zTm 82 (by decide +kernel) rfl⟩
theorem zv_X12_weightOf : Cond.instanceMethod zm_X12_weightOf.1 ∈ zT ∧ Cond.selects zm_X12_weightOf.1.cls zm_X12_weightOf.1 zm_X12_weightOf.1 ∈ zT := ⟨zTm 1370 (by decide +kernel) rfl, zTm 49 (by decide +kernel) rfl⟩
theorem zv_X12_weightOfClaim : Cond.instanceMethod zm_X12_weightOfClaim.1 ∈ zT ∧ Cond.selects zm_X12_weightOfClaim.1.cls zm_X12_weightOfClaim.1 zm_X12_weightOfClaim.1 ∈ zT := ⟨zTm 1473 (by decide +kernel) rfl, zTm 71 (by decide +kernel) rfl⟩
theorem zv_X12_wipe : Cond.instanceMethod zm_X12_wipe.1 ∈ zT ∧ Cond.selects zm_X12_wipe.1.cls zm_X12_wipe.1 zm_X12_wipe.1 ∈ zT := ⟨zTm 1333 (by decide +kernel) rfl, zTm 1334 (by decide +kernel) rfl⟩
theorem zv_X12_works : Cond.instanceMethod zm_X12_works.1 ∈ zT ∧ Cond.selects zm_X12_works.1.cls zm_X12_works.1 zm_X12_works.1 ∈ zT := ⟨zTm 1477 (by decide +kernel) rfl, zTm 72 (by decide +kernel) rfl⟩
theorem zv_X12_write : Cond.instanceMethod zm_X12_write.1 ∈ zT ∧ Cond.selects zm_X12_write.1.cls zm_X12_write.1 zm_X12_write.1 ∈ zT := ⟨zTm 1537 (by decide +kernel) rfl, zTm 87 (by decide +kernel) rfl⟩
theorem zv_X12_writeTurned : Cond.instanceMethod zm_X12_writeTurned.1 ∈ zT ∧ Cond.selects zm_X12_writeTurned.1.cls zm_X12_writeTurned.1 zm_X12_writeTurned.1 ∈ zT := ⟨zTm 1565 (by decide +kernel) rfl, zTm 94 (by decide +kernel) rfl⟩
theorem zv_X12_writesAll : Cond.instanceMethod zm_X12_writesAll.1 ∈ zT ∧ Cond.selects zm_X12_writesAll.1.cls zm_X12_writesAll.1 zm_X12_writesAll.1 ∈ zT := ⟨zTm 1533 (by decide +kernel) rfl, zTm 86 (by decide +kernel) rfl⟩
theorem zv_X1_fill : Cond.instanceMethod zm_X1_fill.1 ∈ zT ∧ Cond.selects zm_X1_fill.1.cls zm_X1_fill.1 zm_X1_fill.1 ∈ zT := ⟨zTm 874 (by decide +kernel) rfl, zTm 875 (by decide +kernel) rfl⟩
theorem zv_X1_hasRewritingNumber : Cond.instanceMethod zm_X1_hasRewritingNumber.1 ∈ zT ∧ Cond.selects zm_X1_hasRewritingNumber.1.cls zm_X1_hasRewritingNumber.1 zm_X1_hasRewritingNumber.1 ∈ zT := ⟨zTm 1051 (by decide +kernel) rfl, zTm 1052 (by decide +kernel) rfl⟩
theorem zv_X1_isPositive : Cond.instanceMethod zm_X1_isPositive.1 ∈ zT ∧ Cond.selects zm_X1_isPositive.1.cls zm_X1_isPositive.1 zm_X1_isPositive.1 ∈ zT := ⟨zTm 939 (by decide +kernel) rfl, zTm 940 (by decide +kernel) rfl⟩
theorem zv_X1_isThere : Cond.instanceMethod zm_X1_isThere.1 ∈ zT ∧ Cond.selects zm_X1_isThere.1.cls zm_X1_isThere.1 zm_X1_isThere.1 ∈ zT := ⟨zTm 684 (by decide +kernel) rfl, zTm 685 (by decide +kernel) rfl⟩
theorem zv_X1_kind : Cond.instanceMethod zm_X1_kind.1 ∈ zT ∧ Cond.selects zm_X1_kind.1.cls zm_X1_kind.1 zm_X1_kind.1 ∈ zT := ⟨zTm 895 (by decide +kernel) rfl, zTm 896 (by decide +kernel) rfl⟩
theorem zv_X1_tellRule : Cond.instanceMethod zm_X1_tellRule.1 ∈ zT ∧ Cond.selects zm_X1_tellRule.1.cls zm_X1_tellRule.1 zm_X1_tellRule.1 ∈ zT := ⟨zTm 883 (by decide +kernel) rfl, zTm 884 (by decide +kernel) rfl⟩
theorem zv_X1_tellStep : Cond.instanceMethod zm_X1_tellStep.1 ∈ zT ∧ Cond.selects zm_X1_tellStep.1.cls zm_X1_tellStep.1 zm_X1_tellStep.1 ∈ zT := ⟨zTm 890 (by decide +kernel) rfl, zTm 891 (by decide +kernel) rfl⟩
theorem zv_X2_clean : Cond.instanceMethod zm_X2_clean.1 ∈ zT ∧ Cond.selects zm_X2_clean.1.cls zm_X2_clean.1 zm_X2_clean.1 ∈ zT := ⟨zTm 594 (by decide +kernel) rfl, zTm 595 (by decide +kernel) rfl⟩
theorem zv_X2_goes : Cond.instanceMethod zm_X2_goes.1 ∈ zT ∧ Cond.selects zm_X2_goes.1.cls zm_X2_goes.1 zm_X2_goes.1 ∈ zT := ⟨zTm 646 (by decide +kernel) rfl, zTm 8 (by decide +kernel) rfl⟩
theorem zv_X2_numberLetters : Cond.instanceMethod zm_X2_numberLetters.1 ∈ zT ∧ Cond.selects zm_X2_numberLetters.1.cls zm_X2_numberLetters.1 zm_X2_numberLetters.1 ∈ zT := ⟨zTm 668 (by decide +kernel) rfl, zTm 9 (by decide +kernel) rfl⟩
theorem zv_X2_sortSides : Cond.instanceMethod zm_X2_sortSides.1 ∈ zT ∧ Cond.selects zm_X2_sortSides.1.cls zm_X2_sortSides.1 zm_X2_sortSides.1 ∈ zT := ⟨zTm 607 (by decide +kernel) rfl, zTm 3 (by decide +kernel) rfl⟩
theorem zv_X3_make : Cond.instanceMethod zm_X3_make.1 ∈ zT ∧ Cond.selects zm_X3_make.1.cls zm_X3_make.1 zm_X3_make.1 ∈ zT := ⟨zTm 967 (by decide +kernel) rfl, zTm 968 (by decide +kernel) rfl⟩
theorem zv_X3_makeClash : Cond.instanceMethod zm_X3_makeClash.1 ∈ zT ∧ Cond.selects zm_X3_makeClash.1.cls zm_X3_makeClash.1 zm_X3_makeClash.1 ∈ zT := ⟨zTm 978 (by decide +kernel) rfl, zTm 28 (by decide +kernel) rfl⟩
theorem zv_X3_makeDrop : Cond.instanceMethod zm_X3_makeDrop.1 ∈ zT ∧ Cond.selects zm_X3_makeDrop.1.cls zm_X3_makeDrop.1 zm_X3_makeDrop.1 ∈ zT := ⟨zTm 1009 (by decide +kernel) rfl, zTm 33 (by decide +kernel) rfl⟩
theorem zv_X3_makeFactor : Cond.instanceMethod zm_X3_makeFactor.1 ∈ zT ∧ Cond.selects zm_X3_makeFactor.1.cls zm_X3_makeFactor.1 zm_X3_makeFactor.1 ∈ zT := ⟨zTm 1005 (by decide +kernel) rfl, zTm 32 (by decide +kernel) rfl⟩
theorem zv_X3_makeTurn : Cond.instanceMethod zm_X3_makeTurn.1 ∈ zT ∧ Cond.selects zm_X3_makeTurn.1.cls zm_X3_makeTurn.1 zm_X3_makeTurn.1 ∈ zT := ⟨zTm 1015 (by decide +kernel) rfl, zTm 34 (by decide +kernel) rfl⟩
theorem zv_X3_sidesUnderIt : Cond.instanceMethod zm_X3_sidesUnderIt.1 ∈ zT ∧ Cond.selects zm_X3_sidesUnderIt.1.cls zm_X3_sidesUnderIt.1 zm_X3_sidesUnderIt.1 ∈ zT := ⟨zTm 1020 (by decide +kernel) rfl, zTm 35 (by decide +kernel) rfl⟩
theorem zv_X3_writeAllBut : Cond.instanceMethod zm_X3_writeAllBut.1 ∈ zT ∧ Cond.selects zm_X3_writeAllBut.1.cls zm_X3_writeAllBut.1 zm_X3_writeAllBut.1 ∈ zT := ⟨zTm 999 (by decide +kernel) rfl, zTm 31 (by decide +kernel) rfl⟩
theorem zv_X3_writeTurned : Cond.instanceMethod zm_X3_writeTurned.1 ∈ zT ∧ Cond.selects zm_X3_writeTurned.1.cls zm_X3_writeTurned.1 zm_X3_writeTurned.1 ∈ zT := ⟨zTm 1025 (by decide +kernel) rfl, zTm 36 (by decide +kernel) rfl⟩
theorem zv_X4_again : Cond.instanceMethod zm_X4_again.1 ∈ zT ∧ Cond.selects zm_X4_again.1.cls zm_X4_again.1 zm_X4_again.1 ∈ zT := ⟨zTm 1066 (by decide +kernel) rfl, zTm 1067 (by decide +kernel) rfl⟩
theorem zv_X4_findFirst : Cond.instanceMethod zm_X4_findFirst.1 ∈ zT ∧ Cond.selects zm_X4_findFirst.1.cls zm_X4_findFirst.1 zm_X4_findFirst.1 ∈ zT := ⟨zTm 693 (by decide +kernel) rfl, zTm 12 (by decide +kernel) rfl⟩
theorem zv_X4_fits : Cond.instanceMethod zm_X4_fits.1 ∈ zT ∧ Cond.selects zm_X4_fits.1.cls zm_X4_fits.1 zm_X4_fits.1 ∈ zT := ⟨zTm 697 (by decide +kernel) rfl, zTm 13 (by decide +kernel) rfl⟩
theorem zv_X4_list : Cond.instanceMethod zm_X4_list.1 ∈ zT ∧ Cond.selects zm_X4_list.1.cls zm_X4_list.1 zm_X4_list.1 ∈ zT := ⟨zTm 689 (by decide +kernel) rfl, zTm 11 (by decide +kernel) rfl⟩
theorem zv_X4_note : Cond.instanceMethod zm_X4_note.1 ∈ zT ∧ Cond.selects zm_X4_note.1.cls zm_X4_note.1 zm_X4_note.1 ∈ zT := ⟨zTm 747 (by decide +kernel) rfl, zTm 18 (by decide +kernel) rfl⟩
theorem zv_X4_prepare : Cond.instanceMethod zm_X4_prepare.1 ∈ zT ∧ Cond.selects zm_X4_prepare.1.cls zm_X4_prepare.1 zm_X4_prepare.1 ∈ zT := ⟨zTm 677 (by decide +kernel) rfl, zTm 10 (by decide +kernel) rfl⟩
theorem zv_X4_replace : Cond.instanceMethod zm_X4_replace.1 ∈ zT ∧ Cond.selects zm_X4_replace.1.cls zm_X4_replace.1 zm_X4_replace.1 ∈ zT := ⟨zTm 751 (by decide +kernel) rfl, zTm 19 (by decide +kernel) rfl⟩
theorem zv_X4_rewrite : Cond.instanceMethod zm_X4_rewrite.1 ∈ zT ∧ Cond.selects zm_X4_rewrite.1.cls zm_X4_rewrite.1 zm_X4_rewrite.1 ∈ zT := ⟨zTm 672 (by decide +kernel) rfl, zTm 673 (by decide +kernel) rfl⟩
theorem zv_X5_copy : Cond.instanceMethod zm_X5_copy.1 ∈ zT ∧ Cond.selects zm_X5_copy.1.cls zm_X5_copy.1 zm_X5_copy.1 ∈ zT := ⟨zTm 581 (by decide +kernel) rfl, zTm 582 (by decide +kernel) rfl⟩
theorem zv_X5_empty : Cond.instanceMethod zm_X5_empty.1 ∈ zT ∧ Cond.selects zm_X5_empty.1.cls zm_X5_empty.1 zm_X5_empty.1 ∈ zT := ⟨zTm 551 (by decide +kernel) rfl, zTm 552 (by decide +kernel) rfl⟩
theorem zv_X5_has : Cond.instanceMethod zm_X5_has.1 ∈ zT ∧ Cond.selects zm_X5_has.1.cls zm_X5_has.1 zm_X5_has.1 ∈ zT := ⟨zTm 602 (by decide +kernel) rfl, zTm 603 (by decide +kernel) rfl⟩
theorem zv_X5_hasLikeSides : Cond.instanceMethod zm_X5_hasLikeSides.1 ∈ zT ∧ Cond.selects zm_X5_hasLikeSides.1.cls zm_X5_hasLikeSides.1 zm_X5_hasLikeSides.1 ∈ zT := ⟨zTm 649 (by decide +kernel) rfl, zTm 650 (by decide +kernel) rfl⟩
theorem zv_X5_isEqual : Cond.instanceMethod zm_X5_isEqual.1 ∈ zT ∧ Cond.selects zm_X5_isEqual.1.cls zm_X5_isEqual.1 zm_X5_isEqual.1 ∈ zT := ⟨zTm 598 (by decide +kernel) rfl, zTm 599 (by decide +kernel) rfl⟩
theorem zv_X5_isTrivial : Cond.instanceMethod zm_X5_isTrivial.1 ∈ zT ∧ Cond.selects zm_X5_isTrivial.1.cls zm_X5_isTrivial.1 zm_X5_isTrivial.1 ∈ zT := ⟨zTm 764 (by decide +kernel) rfl, zTm 765 (by decide +kernel) rfl⟩
theorem zv_X5_length : Cond.instanceMethod zm_X5_length.1 ∈ zT ∧ Cond.selects zm_X5_length.1.cls zm_X5_length.1 zm_X5_length.1 ∈ zT := ⟨zTm 659 (by decide +kernel) rfl, zTm 660 (by decide +kernel) rfl⟩
theorem zv_X5_mark : Cond.instanceMethod zm_X5_mark.1 ∈ zT ∧ Cond.selects zm_X5_mark.1.cls zm_X5_mark.1 zm_X5_mark.1 ∈ zT := ⟨zTm 760 (by decide +kernel) rfl, zTm 761 (by decide +kernel) rfl⟩
theorem zv_X5_remove : Cond.instanceMethod zm_X5_remove.1 ∈ zT ∧ Cond.selects zm_X5_remove.1.cls zm_X5_remove.1 zm_X5_remove.1 ∈ zT := ⟨zTm 663 (by decide +kernel) rfl, zTm 664 (by decide +kernel) rfl⟩
theorem zv_X5_replace : Cond.instanceMethod zm_X5_replace.1 ∈ zT ∧ Cond.selects zm_X5_replace.1.cls zm_X5_replace.1 zm_X5_replace.1 ∈ zT := ⟨zTm 755 (by decide +kernel) rfl, zTm 756 (by decide +kernel) rfl⟩
theorem zv_X5_same : Cond.instanceMethod zm_X5_same.1 ∈ zT ∧ Cond.selects zm_X5_same.1.cls zm_X5_same.1 zm_X5_same.1 ∈ zT := ⟨zTm 1072 (by decide +kernel) rfl, zTm 1073 (by decide +kernel) rfl⟩
theorem zv_X5_saysAlike : Cond.instanceMethod zm_X5_saysAlike.1 ∈ zT ∧ Cond.selects zm_X5_saysAlike.1.cls zm_X5_saysAlike.1 zm_X5_saysAlike.1 ∈ zT := ⟨zTm 655 (by decide +kernel) rfl, zTm 656 (by decide +kernel) rfl⟩
theorem zv_X5_take : Cond.instanceMethod zm_X5_take.1 ∈ zT ∧ Cond.selects zm_X5_take.1.cls zm_X5_take.1 zm_X5_take.1 ∈ zT := ⟨zTm 574 (by decide +kernel) rfl, zTm 575 (by decide +kernel) rfl⟩
theorem zv_X6_compare : Cond.instanceMethod zm_X6_compare.1 ∈ zT ∧ Cond.selects zm_X6_compare.1.cls zm_X6_compare.1 zm_X6_compare.1 ∈ zT := ⟨zTm 614 (by decide +kernel) rfl, zTm 615 (by decide +kernel) rfl⟩
theorem zv_X6_likeParts : Cond.instanceMethod zm_X6_likeParts.1 ∈ zT ∧ Cond.selects zm_X6_likeParts.1.cls zm_X6_likeParts.1 zm_X6_likeParts.1 ∈ zT := ⟨zTm 640 (by decide +kernel) rfl, zTm 7 (by decide +kernel) rfl⟩
theorem zv_X6_settleSurplus : Cond.instanceMethod zm_X6_settleSurplus.1 ∈ zT ∧ Cond.selects zm_X6_settleSurplus.1.cls zm_X6_settleSurplus.1 zm_X6_settleSurplus.1 ∈ zT := ⟨zTm 632 (by decide +kernel) rfl, zTm 5 (by decide +kernel) rfl⟩
theorem zv_X6_settled : Cond.instanceMethod zm_X6_settled.1 ∈ zT ∧ Cond.selects zm_X6_settled.1.cls zm_X6_settled.1 zm_X6_settled.1 ∈ zT := ⟨zTm 636 (by decide +kernel) rfl, zTm 6 (by decide +kernel) rfl⟩
theorem zv_X6_tally : Cond.instanceMethod zm_X6_tally.1 ∈ zT ∧ Cond.selects zm_X6_tally.1.cls zm_X6_tally.1 zm_X6_tally.1 ∈ zT := ⟨zTm 624 (by decide +kernel) rfl, zTm 4 (by decide +kernel) rfl⟩
theorem zv_X6_weigh : Cond.instanceMethod zm_X6_weigh.1 ∈ zT ∧ Cond.selects zm_X6_weigh.1.cls zm_X6_weigh.1 zm_X6_weigh.1 ∈ zT := ⟨zTm 879 (by decide +kernel) rfl, zTm 880 (by decide +kernel) rfl⟩
theorem zv_X7_add : Cond.instanceMethod zm_X7_add.1 ∈ zT ∧ Cond.selects zm_X7_add.1.cls zm_X7_add.1 zm_X7_add.1 ∈ zT := ⟨zTm 788 (by decide +kernel) rfl, zTm 789 (by decide +kernel) rfl⟩
theorem zv_X7_at : Cond.instanceMethod zm_X7_at.1 ∈ zT ∧ Cond.selects zm_X7_at.1.cls zm_X7_at.1 zm_X7_at.1 ∈ zT := ⟨zTm 680 (by decide +kernel) rfl, zTm 681 (by decide +kernel) rfl⟩
theorem zv_X7_find : Cond.instanceMethod zm_X7_find.1 ∈ zT ∧ Cond.selects zm_X7_find.1.cls zm_X7_find.1 zm_X7_find.1 ∈ zT := ⟨zTm 1086 (by decide +kernel) rfl, zTm 38 (by decide +kernel) rfl⟩
theorem zv_X7_findNamed : Cond.instanceMethod zm_X7_findNamed.1 ∈ zT ∧ Cond.selects zm_X7_findNamed.1.cls zm_X7_findNamed.1 zm_X7_findNamed.1 ∈ zT := ⟨zTm 1090 (by decide +kernel) rfl, zTm 39 (by decide +kernel) rfl⟩
theorem zv_X7_inState : Cond.instanceMethod zm_X7_inState.1 ∈ zT ∧ Cond.selects zm_X7_inState.1.cls zm_X7_inState.1 zm_X7_inState.1 ∈ zT := ⟨zTm 1110 (by decide +kernel) rfl, zTm 1111 (by decide +kernel) rfl⟩
theorem zv_X7_markProof : Cond.instanceMethod zm_X7_markProof.1 ∈ zT ∧ Cond.selects zm_X7_markProof.1.cls zm_X7_markProof.1 zm_X7_markProof.1 ∈ zT := ⟨zTm 1080 (by decide +kernel) rfl, zTm 1081 (by decide +kernel) rfl⟩
theorem zv_X8_add : Cond.instanceMethod zm_X8_add.1 ∈ zT ∧ Cond.selects zm_X8_add.1.cls zm_X8_add.1 zm_X8_add.1 ∈ zT := ⟨zTm 535 (by decide +kernel) rfl, zTm 536 (by decide +kernel) rfl⟩
theorem zv_X8_after : Cond.instanceMethod zm_X8_after.1 ∈ zT ∧ Cond.selects zm_X8_after.1.cls zm_X8_after.1 zm_X8_after.1 ∈ zT := ⟨zTm 610 (by decide +kernel) rfl, zTm 611 (by decide +kernel) rfl⟩
theorem zv_X8_isFunction : Cond.instanceMethod zm_X8_isFunction.1 ∈ zT ∧ Cond.selects zm_X8_isFunction.1.cls zm_X8_isFunction.1 zm_X8_isFunction.1 ∈ zT := ⟨zTm 570 (by decide +kernel) rfl, zTm 571 (by decide +kernel) rfl⟩
theorem zv_X8_isSaying : Cond.instanceMethod zm_X8_isSaying.1 ∈ zT ∧ Cond.selects zm_X8_isSaying.1.cls zm_X8_isSaying.1 zm_X8_isSaying.1 ∈ zT := ⟨zTm 555 (by decide +kernel) rfl, zTm 556 (by decide +kernel) rfl⟩
theorem zv_X8_partsOf : Cond.instanceMethod zm_X8_partsOf.1 ∈ zT ∧ Cond.selects zm_X8_partsOf.1.cls zm_X8_partsOf.1 zm_X8_partsOf.1 ∈ zT := ⟨zTm 559 (by decide +kernel) rfl, zTm 560 (by decide +kernel) rfl⟩
theorem zv_X8_weightOf : Cond.instanceMethod zm_X8_weightOf.1 ∈ zT ∧ Cond.selects zm_X8_weightOf.1.cls zm_X8_weightOf.1 zm_X8_weightOf.1 ∈ zT := ⟨zTm 627 (by decide +kernel) rfl, zTm 628 (by decide +kernel) rfl⟩
theorem zv_X9_beginWay : Cond.instanceMethod zm_X9_beginWay.1 ∈ zT ∧ Cond.selects zm_X9_beginWay.1.cls zm_X9_beginWay.1 zm_X9_beginWay.1 ∈ zT := ⟨zTm 733 (by decide +kernel) rfl, zTm 15 (by decide +kernel) rfl⟩
theorem zv_X9_forget : Cond.instanceMethod zm_X9_forget.1 ∈ zT ∧ Cond.selects zm_X9_forget.1.cls zm_X9_forget.1 zm_X9_forget.1 ∈ zT := ⟨zTm 700 (by decide +kernel) rfl, zTm 701 (by decide +kernel) rfl⟩
theorem zv_X9_isIn : Cond.instanceMethod zm_X9_isIn.1 ∈ zT ∧ Cond.selects zm_X9_isIn.1.cls zm_X9_isIn.1 zm_X9_isIn.1 ∈ zT := ⟨zTm 995 (by decide +kernel) rfl, zTm 30 (by decide +kernel) rfl⟩
theorem zv_X9_isTold : Cond.instanceMethod zm_X9_isTold.1 ∈ zT ∧ Cond.selects zm_X9_isTold.1.cls zm_X9_isTold.1 zm_X9_isTold.1 ∈ zT := ⟨zTm 715 (by decide +kernel) rfl, zTm 716 (by decide +kernel) rfl⟩
theorem zv_X9_layFirst : Cond.instanceMethod zm_X9_layFirst.1 ∈ zT ∧ Cond.selects zm_X9_layFirst.1.cls zm_X9_layFirst.1 zm_X9_layFirst.1 ∈ zT := ⟨zTm 719 (by decide +kernel) rfl, zTm 720 (by decide +kernel) rfl⟩
theorem zv_X9_laySecond : Cond.instanceMethod zm_X9_laySecond.1 ∈ zT ∧ Cond.selects zm_X9_laySecond.1.cls zm_X9_laySecond.1 zm_X9_laySecond.1 ∈ zT := ⟨zTm 724 (by decide +kernel) rfl, zTm 725 (by decide +kernel) rfl⟩
theorem zv_X9_matches : Cond.instanceMethod zm_X9_matches.1 ∈ zT ∧ Cond.selects zm_X9_matches.1.cls zm_X9_matches.1 zm_X9_matches.1 ∈ zT := ⟨zTm 704 (by decide +kernel) rfl, zTm 705 (by decide +kernel) rfl⟩
theorem zv_X9_meet : Cond.instanceMethod zm_X9_meet.1 ∈ zT ∧ Cond.selects zm_X9_meet.1.cls zm_X9_meet.1 zm_X9_meet.1 ∈ zT := ⟨zTm 991 (by decide +kernel) rfl, zTm 29 (by decide +kernel) rfl⟩
theorem zv_X9_nextOnWay : Cond.instanceMethod zm_X9_nextOnWay.1 ∈ zT ∧ Cond.selects zm_X9_nextOnWay.1.cls zm_X9_nextOnWay.1 zm_X9_nextOnWay.1 ∈ zT := ⟨zTm 738 (by decide +kernel) rfl, zTm 16 (by decide +kernel) rfl⟩
theorem zv_X9_resting : Cond.instanceMethod zm_X9_resting.1 ∈ zT ∧ Cond.selects zm_X9_resting.1.cls zm_X9_resting.1 zm_X9_resting.1 ∈ zT := ⟨zTm 742 (by decide +kernel) rfl, zTm 17 (by decide +kernel) rfl⟩
theorem zv_X9_tell : Cond.instanceMethod zm_X9_tell.1 ∈ zT ∧ Cond.selects zm_X9_tell.1.cls zm_X9_tell.1 zm_X9_tell.1 ∈ zT := ⟨zTm 711 (by decide +kernel) rfl, zTm 14 (by decide +kernel) rfl⟩
theorem zv_X9_widen : Cond.instanceMethod zm_X9_widen.1 ∈ zT ∧ Cond.selects zm_X9_widen.1.cls zm_X9_widen.1 zm_X9_widen.1 ∈ zT := ⟨zTm 985 (by decide +kernel) rfl, zTm 986 (by decide +kernel) rfl⟩
theorem zv_X9_write : Cond.instanceMethod zm_X9_write.1 ∈ zT ∧ Cond.selects zm_X9_write.1.cls zm_X9_write.1 zm_X9_write.1 ∈ zT := ⟨zTm 728 (by decide +kernel) rfl, zTm 729 (by decide +kernel) rfl⟩
set_option maxRecDepth 100000 in
theorem zk_X11_3 : Cond.methodLink RX11 3 objectInit ∈ zT ∧ Cond.instanceMethod objectInit ∈ zT ∧ Cond.code objectInit ⟨#[0xb1]⟩ 1 none ∈ zT := ⟨zTm 126 (by decide +kernel) rfl, zTm 127 (by decide +kernel) rfl, zTm 128 rfl rfl⟩
theorem zk_X11_11 : Cond.methodLink RX11 11 zm_X8_init.1 ∈ zT := zTm 131 (by decide +kernel) rfl
theorem zk_X11_18 : (RX11, 18, zm_X7_init.1, "ClaimHall") ∈ zMN := by decide +kernel
theorem zk_X11_29 : (RX11, 29, zm_X5_init.1, "ClaimHall") ∈ zMN := by decide +kernel
theorem zk_X11_39 : Cond.methodLink RX11 39 zm_X6_init.1 ∈ zT := zTm 235 (by decide +kernel) rfl
theorem zk_X11_48 : Cond.methodLink RX11 48 zm_X9_init.1 ∈ zT := zTm 257 (by decide +kernel) rfl
theorem zk_X11_55 : Cond.methodLink RX11 55 zm_X2_init.1 ∈ zT := zTm 317 (by decide +kernel) rfl
theorem zk_X11_64 : Cond.methodLink RX11 64 zm_X10_init.1 ∈ zT := zTm 340 (by decide +kernel) rfl
theorem zk_X11_73 : Cond.methodLink RX11 73 zm_X4_init.1 ∈ zT := zTm 359 (by decide +kernel) rfl
theorem zk_X11_82 : Cond.methodLink RX11 82 zm_X3_init.1 ∈ zT := zTm 405 (by decide +kernel) rfl
theorem zk_X11_89 : Cond.methodLink RX11 89 zm_X0_init.1 ∈ zT := zTm 424 (by decide +kernel) rfl
theorem zk_X11_127 : Cond.methodLink RX11 127 zm_X8_add.1 ∈ zT := zTm 534 (by decide +kernel) rfl
theorem zk_X11_131 : Cond.methodLink RX11 131 zm_X11_readDraft.1 ∈ zT := zTm 546 (by decide +kernel) rfl
theorem zk_X11_135 : Cond.methodLink RX11 135 zm_X5_copy.1 ∈ zT := zTm 580 (by decide +kernel) rfl
theorem zk_X11_139 : Cond.methodLink RX11 139 zm_X0_asGiven.1 ∈ zT := zTm 584 (by decide +kernel) rfl
theorem zk_X11_143 : Cond.methodLink RX11 143 zm_X11_settle.1 ∈ zT := zTm 589 (by decide +kernel) rfl
theorem zk_X11_147 : Cond.methodLink RX11 147 zm_X11_pick.1 ∈ zT := zTm 918 (by decide +kernel) rfl
theorem zk_X11_151 : Cond.methodLink RX11 151 zm_X0_begin.1 ∈ zT := zTm 923 (by decide +kernel) rfl
theorem zk_X11_156 : Cond.methodLink RX11 156 zm_X0_next.1 ∈ zT := zTm 928 (by decide +kernel) rfl
theorem zk_X11_163 : Cond.methodLink RX11 163 zm_X3_make.1 ∈ zT := zTm 966 (by decide +kernel) rfl
theorem zk_X11_167 : Cond.methodLink RX11 167 zm_X11_hasFuel.1 ∈ zT := zTm 1027 (by decide +kernel) rfl
theorem zk_X11_170 : Cond.methodLink RX11 170 zm_X7_at.1 ∈ zT := zTm 922 (by decide +kernel) rfl
theorem zk_X11_197 : Cond.methodLink RX11 197 zm_X5_has.1 ∈ zT := zTm 1043 (by decide +kernel) rfl
theorem zk_X11_206 : Cond.methodLink RX11 206 zm_X5_length.1 ∈ zT := zTm 1045 (by decide +kernel) rfl
theorem zk_X11_220 : Cond.methodLink RX11 220 zm_X1_hasRewritingNumber.1 ∈ zT := zTm 1050 (by decide +kernel) rfl
theorem zk_X11_229 : Cond.methodLink RX11 229 zm_X1_kind.1 ∈ zT := zTm 1060 (by decide +kernel) rfl
theorem zk_X11_233 : Cond.methodLink RX11 233 zm_X2_clean.1 ∈ zT := zTm 593 (by decide +kernel) rfl
theorem zk_X11_237 : Cond.methodLink RX11 237 zm_X4_again.1 ∈ zT := zTm 1065 (by decide +kernel) rfl
theorem zk_X11_241 : Cond.methodLink RX11 241 zm_X5_same.1 ∈ zT := zTm 1071 (by decide +kernel) rfl
theorem zk_X11_244 : Cond.methodLink RX11 244 zm_X7_markProof.1 ∈ zT := zTm 1079 (by decide +kernel) rfl
theorem zk_X11_250 : Cond.methodLink RX11 250 zm_X8_partsOf.1 ∈ zT := zTm 558 (by decide +kernel) rfl
theorem zk_X11_253 : Cond.methodLink RX11 253 zm_X6_compare.1 ∈ zT := zTm 1099 (by decide +kernel) rfl
theorem zk_X11_257 : Cond.methodLink RX11 257 zm_X10_takes.1 ∈ zT := zTm 1104 (by decide +kernel) rfl
theorem zk_X11_264 : Cond.methodLink RX11 264 zm_X7_inState.1 ∈ zT := zTm 1109 (by decide +kernel) rfl
theorem zk_X11_271 : Cond.methodLink RX11 271 zm_X11_count.1 ∈ zT := zTm 1119 (by decide +kernel) rfl
theorem zk_X11_274 : Cond.methodLink RX11 274 zm_X11_claim.1 ∈ zT := zTm 1120 (by decide +kernel) rfl
theorem zk_X11_278 : Cond.methodLink RX11 278 zm_X11_digestLiterals.1 ∈ zT := zTm 1121 (by decide +kernel) rfl
theorem zk_X11_282 : Cond.methodLink RX11 282 zm_X11_digestStep.1 ∈ zT := zTm 1126 (by decide +kernel) rfl
theorem zk_X11_285 : Cond.methodLink RX11 285 zm_X11_literal.1 ∈ zT := zTm 1125 (by decide +kernel) rfl
theorem zk_X11_289 : Cond.methodLink RX11 289 zm_X11_step.1 ∈ zT := zTm 1130 (by decide +kernel) rfl
theorem zk_X11_292 : Cond.methodLink RX11 292 zm_X5_empty.1 ∈ zT := zTm 550 (by decide +kernel) rfl
theorem zk_X11_295 : Cond.methodLink RX11 295 zm_X8_isSaying.1 ∈ zT := zTm 554 (by decide +kernel) rfl
theorem zk_X11_298 : Cond.methodLink RX11 298 zm_X11_endOfParts.1 ∈ zT := zTm 562 (by decide +kernel) rfl
theorem zk_X11_301 : Cond.methodLink RX11 301 zm_X5_take.1 ∈ zT := zTm 573 (by decide +kernel) rfl
theorem zk_X11_305 : Cond.methodLink RX11 305 zm_J9_min_7cf53.1 ∈ zT := zTm 566 (by decide +kernel) rfl
theorem zk_X11_310 : Cond.methodLink RX11 310 zm_X8_isFunction.1 ∈ zT := zTm 569 (by decide +kernel) rfl
theorem zk_X11_313 : Cond.methodLink RX11 313 zm_X4_rewrite.1 ∈ zT := zTm 671 (by decide +kernel) rfl
theorem zk_X11_320 : Cond.methodLink RX11 320 zm_X5_mark.1 ∈ zT := zTm 759 (by decide +kernel) rfl
theorem zk_X11_323 : Cond.methodLink RX11 323 zm_X5_isTrivial.1 ∈ zT := zTm 763 (by decide +kernel) rfl
theorem zk_X11_327 : Cond.methodLink RX11 327 zm_X10_isTakenIn.1 ∈ zT := zTm 770 (by decide +kernel) rfl
theorem zk_X11_330 : Cond.methodLink RX11 330 zm_X11_keep.1 ∈ zT := zTm 783 (by decide +kernel) rfl
theorem zk_X11_334 : Cond.methodLink RX11 334 zm_X7_add.1 ∈ zT := zTm 787 (by decide +kernel) rfl
theorem zk_X11_337 : Cond.methodLink RX11 337 zm_X1_fill.1 ∈ zT := zTm 873 (by decide +kernel) rfl
theorem zk_X11_341 : Cond.methodLink RX11 341 zm_X1_tellRule.1 ∈ zT := zTm 882 (by decide +kernel) rfl
theorem zk_X11_344 : Cond.methodLink RX11 344 zm_X1_tellStep.1 ∈ zT := zTm 889 (by decide +kernel) rfl
theorem zk_X11_348 : Cond.methodLink RX11 348 zm_X10_putAway.1 ∈ zT := zTm 898 (by decide +kernel) rfl
set_option maxRecDepth 100000 in
theorem zk_X0_3 : Cond.methodLink RX0 3 objectInit ∈ zT ∧ Cond.instanceMethod objectInit ∈ zT ∧ Cond.code objectInit ⟨#[0xb1]⟩ 1 none ∈ zT := ⟨zTm 427 (by decide +kernel) rfl, zTm 127 (by decide +kernel) rfl, zTm 128 rfl rfl⟩
theorem zk_X0_52 : Cond.methodLink RX0 52 zm_J7_fill_53178.1 ∈ zT := zTm 588 (by decide +kernel) rfl
theorem zk_X0_59 : Cond.methodLink RX0 59 zm_X1_isThere.1 ∈ zT := zTm 933 (by decide +kernel) rfl
theorem zk_X0_65 : Cond.methodLink RX0 65 zm_X0_advance.1 ∈ zT := zTm 934 (by decide +kernel) rfl
theorem zk_X0_68 : Cond.methodLink RX0 68 zm_X0_tell.1 ∈ zT := zTm 957 (by decide +kernel) rfl
theorem zk_X0_71 : Cond.methodLink RX0 71 zm_X0_nextPhase.1 ∈ zT := zTm 961 (by decide +kernel) rfl
theorem zk_X0_79 : Cond.methodLink RX0 79 zm_X7_at.1 ∈ zT := zTm 965 (by decide +kernel) rfl
theorem zk_X0_86 : Cond.methodLink RX0 86 zm_X1_isPositive.1 ∈ zT := zTm 938 (by decide +kernel) rfl
theorem zk_X0_101 : Cond.methodLink RX0 101 zm_X0_advanceTurn.1 ∈ zT := zTm 942 (by decide +kernel) rfl
theorem zk_X0_104 : Cond.methodLink RX0 104 zm_X0_advanceFactor.1 ∈ zT := zTm 953 (by decide +kernel) rfl
theorem zk_X0_107 : Cond.methodLink RX0 107 zm_X5_isEqual.1 ∈ zT := zTm 946 (by decide +kernel) rfl
theorem zk_X0_111 : Cond.methodLink RX0 111 zm_X0_findPlace.1 ∈ zT := zTm 947 (by decide +kernel) rfl
theorem zk_X0_120 : Cond.methodLink RX0 120 zm_X8_after.1 ∈ zT := zTm 951 (by decide +kernel) rfl
theorem zk_X0_126 : Cond.methodLink RX0 126 zm_X5_length.1 ∈ zT := zTm 952 (by decide +kernel) rfl
set_option maxRecDepth 100000 in
theorem zk_X1_3 : Cond.methodLink RX1 3 objectInit ∈ zT ∧ Cond.instanceMethod objectInit ∈ zT ∧ Cond.code objectInit ⟨#[0xb1]⟩ 1 none ∈ zT := ⟨zTm 795 (by decide +kernel) rfl, zTm 127 (by decide +kernel) rfl, zTm 128 rfl rfl⟩
theorem zk_X1_11 : (RX1, 11, zm_X5_init.1, "ClaimHall") ∈ zMN := by decide +kernel
theorem zk_X1_60 : Cond.methodLink RX1 60 zm_X5_copy.1 ∈ zT := zTm 877 (by decide +kernel) rfl
theorem zk_X1_73 : Cond.methodLink RX1 73 zm_X6_weigh.1 ∈ zT := zTm 878 (by decide +kernel) rfl
theorem zk_X1_83 : Cond.methodLink RX1 83 zm_X5_isEqual.1 ∈ zT := zTm 886 (by decide +kernel) rfl
theorem zk_X1_87 : Cond.methodLink RX1 87 zm_X8_after.1 ∈ zT := zTm 887 (by decide +kernel) rfl
theorem zk_X1_93 : Cond.methodLink RX1 93 zm_X6_compare.1 ∈ zT := zTm 888 (by decide +kernel) rfl
theorem zk_X1_97 : Cond.methodLink RX1 97 arraycopyName ∈ zT := zTm 893 (by decide +kernel) rfl
theorem zk_X1_111 : Cond.methodLink RX1 111 zm_X1_kind.1 ∈ zT := zTm 894 (by decide +kernel) rfl
set_option maxRecDepth 100000 in
theorem zk_X2_3 : Cond.methodLink RX2 3 objectInit ∈ zT ∧ Cond.instanceMethod objectInit ∈ zT ∧ Cond.code objectInit ⟨#[0xb1]⟩ 1 none ∈ zT := ⟨zTm 320 (by decide +kernel) rfl, zTm 127 (by decide +kernel) rfl, zTm 128 rfl rfl⟩
theorem zk_X2_35 : Cond.methodLink RX2 35 zm_X5_isEqual.1 ∈ zT := zTm 597 (by decide +kernel) rfl
theorem zk_X2_39 : Cond.methodLink RX2 39 zm_X2_sortSides.1 ∈ zT := zTm 605 (by decide +kernel) rfl
theorem zk_X2_43 : Cond.methodLink RX2 43 zm_X2_goes.1 ∈ zT := zTm 644 (by decide +kernel) rfl
theorem zk_X2_47 : Cond.methodLink RX2 47 zm_X5_remove.1 ∈ zT := zTm 662 (by decide +kernel) rfl
theorem zk_X2_51 : Cond.methodLink RX2 51 zm_X2_numberLetters.1 ∈ zT := zTm 666 (by decide +kernel) rfl
theorem zk_X2_61 : Cond.methodLink RX2 61 zm_X8_after.1 ∈ zT := zTm 609 (by decide +kernel) rfl
theorem zk_X2_67 : Cond.methodLink RX2 67 zm_X6_compare.1 ∈ zT := zTm 613 (by decide +kernel) rfl
theorem zk_X2_73 : Cond.methodLink RX2 73 arraycopyName ∈ zT := zTm 643 (by decide +kernel) rfl
theorem zk_X2_83 : Cond.methodLink RX2 83 zm_X5_hasLikeSides.1 ∈ zT := zTm 648 (by decide +kernel) rfl
theorem zk_X2_87 : Cond.methodLink RX2 87 zm_X5_saysAlike.1 ∈ zT := zTm 654 (by decide +kernel) rfl
theorem zk_X2_91 : Cond.methodLink RX2 91 zm_J7_fill_53178.1 ∈ zT := zTm 670 (by decide +kernel) rfl
set_option maxRecDepth 100000 in
theorem zk_X3_3 : Cond.methodLink RX3 3 objectInit ∈ zT ∧ Cond.instanceMethod objectInit ∈ zT ∧ Cond.code objectInit ⟨#[0xb1]⟩ 1 none ∈ zT := ⟨zTm 408 (by decide +kernel) rfl, zTm 127 (by decide +kernel) rfl, zTm 128 rfl rfl⟩
theorem zk_X3_34 : Cond.methodLink RX3 34 zm_X7_at.1 ∈ zT := zTm 974 (by decide +kernel) rfl
theorem zk_X3_40 : Cond.methodLink RX3 40 zm_X5_empty.1 ∈ zT := zTm 975 (by decide +kernel) rfl
theorem zk_X3_45 : Cond.methodLink RX3 45 zm_X3_makeClash.1 ∈ zT := zTm 976 (by decide +kernel) rfl
theorem zk_X3_49 : Cond.methodLink RX3 49 zm_X3_makeFactor.1 ∈ zT := zTm 1003 (by decide +kernel) rfl
theorem zk_X3_53 : Cond.methodLink RX3 53 zm_X3_makeDrop.1 ∈ zT := zTm 1007 (by decide +kernel) rfl
theorem zk_X3_57 : Cond.methodLink RX3 57 zm_X3_makeTurn.1 ∈ zT := zTm 1013 (by decide +kernel) rfl
theorem zk_X3_61 : Cond.methodLink RX3 61 zm_X1_isPositive.1 ∈ zT := zTm 980 (by decide +kernel) rfl
theorem zk_X3_71 : Cond.methodLink RX3 71 zm_X5_has.1 ∈ zT := zTm 981 (by decide +kernel) rfl
theorem zk_X3_85 : Cond.methodLink RX3 85 zm_X9_layFirst.1 ∈ zT := zTm 982 (by decide +kernel) rfl
theorem zk_X3_91 : Cond.methodLink RX3 91 zm_X9_laySecond.1 ∈ zT := zTm 983 (by decide +kernel) rfl
theorem zk_X3_94 : Cond.methodLink RX3 94 zm_X9_widen.1 ∈ zT := zTm 984 (by decide +kernel) rfl
theorem zk_X3_98 : Cond.methodLink RX3 98 zm_X3_writeAllBut.1 ∈ zT := zTm 997 (by decide +kernel) rfl
theorem zk_X3_102 : Cond.methodLink RX3 102 zm_X5_isEqual.1 ∈ zT := zTm 1011 (by decide +kernel) rfl
theorem zk_X3_105 : Cond.methodLink RX3 105 zm_X8_after.1 ∈ zT := zTm 1012 (by decide +kernel) rfl
theorem zk_X3_111 : Cond.methodLink RX3 111 zm_X5_length.1 ∈ zT := zTm 1017 (by decide +kernel) rfl
theorem zk_X3_115 : Cond.methodLink RX3 115 zm_X3_sidesUnderIt.1 ∈ zT := zTm 1018 (by decide +kernel) rfl
theorem zk_X3_119 : Cond.methodLink RX3 119 zm_X3_writeTurned.1 ∈ zT := zTm 1023 (by decide +kernel) rfl
theorem zk_X3_125 : Cond.methodLink RX3 125 zm_X9_write.1 ∈ zT := zTm 1001 (by decide +kernel) rfl
theorem zk_X3_132 : Cond.methodLink RX3 132 zm_X6_compare.1 ∈ zT := zTm 1022 (by decide +kernel) rfl
theorem zk_X3_145 : Cond.methodLink RX3 145 zm_X5_take.1 ∈ zT := zTm 1002 (by decide +kernel) rfl
set_option maxRecDepth 100000 in
theorem zk_X4_3 : Cond.methodLink RX4 3 objectInit ∈ zT ∧ Cond.instanceMethod objectInit ∈ zT ∧ Cond.code objectInit ⟨#[0xb1]⟩ 1 none ∈ zT := ⟨zTm 362 (by decide +kernel) rfl, zTm 127 (by decide +kernel) rfl, zTm 128 rfl rfl⟩
theorem zk_X4_58 : Cond.methodLink RX4 58 zm_X7_at.1 ∈ zT := zTm 679 (by decide +kernel) rfl
theorem zk_X4_62 : Cond.methodLink RX4 62 zm_X1_isThere.1 ∈ zT := zTm 683 (by decide +kernel) rfl
theorem zk_X4_72 : Cond.methodLink RX4 72 zm_X4_list.1 ∈ zT := zTm 687 (by decide +kernel) rfl
theorem zk_X4_94 : Cond.methodLink RX4 94 zm_X4_prepare.1 ∈ zT := zTm 675 (by decide +kernel) rfl
theorem zk_X4_97 : Cond.methodLink RX4 97 zm_X4_findFirst.1 ∈ zT := zTm 691 (by decide +kernel) rfl
theorem zk_X4_101 : Cond.methodLink RX4 101 zm_X4_replace.1 ∈ zT := zTm 749 (by decide +kernel) rfl
theorem zk_X4_105 : Cond.methodLink RX4 105 zm_X2_clean.1 ∈ zT := zTm 758 (by decide +kernel) rfl
theorem zk_X4_116 : Cond.methodLink RX4 116 zm_X4_fits.1 ∈ zT := zTm 695 (by decide +kernel) rfl
theorem zk_X4_120 : Cond.methodLink RX4 120 zm_X4_note.1 ∈ zT := zTm 745 (by decide +kernel) rfl
theorem zk_X4_124 : Cond.methodLink RX4 124 zm_X8_after.1 ∈ zT := zTm 753 (by decide +kernel) rfl
theorem zk_X4_138 : Cond.methodLink RX4 138 zm_X5_replace.1 ∈ zT := zTm 754 (by decide +kernel) rfl
theorem zk_X4_141 : Cond.methodLink RX4 141 zm_X9_forget.1 ∈ zT := zTm 699 (by decide +kernel) rfl
theorem zk_X4_145 : Cond.methodLink RX4 145 zm_X9_matches.1 ∈ zT := zTm 703 (by decide +kernel) rfl
theorem zk_X4_149 : Cond.methodLink RX4 149 zm_X9_isTold.1 ∈ zT := zTm 714 (by decide +kernel) rfl
theorem zk_X4_153 : Cond.methodLink RX4 153 zm_X9_layFirst.1 ∈ zT := zTm 718 (by decide +kernel) rfl
theorem zk_X4_157 : Cond.methodLink RX4 157 zm_X9_laySecond.1 ∈ zT := zTm 723 (by decide +kernel) rfl
theorem zk_X4_160 : Cond.methodLink RX4 160 zm_X9_write.1 ∈ zT := zTm 727 (by decide +kernel) rfl
theorem zk_X4_164 : Cond.methodLink RX4 164 zm_X6_compare.1 ∈ zT := zTm 744 (by decide +kernel) rfl
theorem zk_X4_173 : Cond.methodLink RX4 173 zm_X5_has.1 ∈ zT := zTm 1069 (by decide +kernel) rfl
theorem zk_X4_177 : Cond.methodLink RX4 177 zm_X5_length.1 ∈ zT := zTm 1070 (by decide +kernel) rfl
set_option maxRecDepth 100000 in
theorem zk_X5_3 : Cond.methodLink RX5 3 objectInit ∈ zT ∧ Cond.instanceMethod objectInit ∈ zT ∧ Cond.code objectInit ⟨#[0xb1]⟩ 1 none ∈ zT := ⟨zTm 185 (by decide +kernel) rfl, zTm 127 (by decide +kernel) rfl, zTm 128 rfl rfl⟩
theorem zk_X5_29 : Cond.methodLink RX5 29 zm_X5_has.1 ∈ zT := zTm 601 (by decide +kernel) rfl
theorem zk_X5_33 : Cond.methodLink RX5 33 arraycopyName ∈ zT := zTm 577 (by decide +kernel) rfl
theorem zk_X5_39 : Cond.methodLink RX5 39 zm_X5_length.1 ∈ zT := zTm 658 (by decide +kernel) rfl
theorem zk_X5_43 : (RX5, 43, zm_X11_alike.1, "ClaimHall") ∈ zMN := by decide +kernel
theorem zk_X5_47 : Cond.methodLink RX5 47 zm_X5_isEqual.1 ∈ zT := zTm 767 (by decide +kernel) rfl
theorem zk_X5_50 : Cond.methodLink RX5 50 zm_X5_hasLikeSides.1 ∈ zT := zTm 768 (by decide +kernel) rfl
theorem zk_X5_54 : Cond.methodLink RX5 54 zm_X5_saysAlike.1 ∈ zT := zTm 769 (by decide +kernel) rfl
theorem zk_X5_58 : Cond.methodLink RX5 58 zm_X8_after.1 ∈ zT := zTm 652 (by decide +kernel) rfl
set_option maxRecDepth 100000 in
theorem zk_X6_3 : Cond.methodLink RX6 3 objectInit ∈ zT ∧ Cond.instanceMethod objectInit ∈ zT ∧ Cond.code objectInit ⟨#[0xb1]⟩ 1 none ∈ zT := ⟨zTm 238 (by decide +kernel) rfl, zTm 127 (by decide +kernel) rfl, zTm 128 rfl rfl⟩
theorem zk_X6_30 : Cond.methodLink RX6 30 zm_X8_weightOf.1 ∈ zT := zTm 626 (by decide +kernel) rfl
theorem zk_X6_37 : Cond.methodLink RX6 37 zm_X8_after.1 ∈ zT := zTm 618 (by decide +kernel) rfl
theorem zk_X6_41 : (RX6, 41, zm_X11_alike.1, "ClaimHall") ∈ zMN := by decide +kernel
theorem zk_X6_45 : Cond.methodLink RX6 45 zm_X6_tally.1 ∈ zT := zTm 622 (by decide +kernel) rfl
theorem zk_X6_49 : Cond.methodLink RX6 49 zm_X6_settleSurplus.1 ∈ zT := zTm 630 (by decide +kernel) rfl
theorem zk_X6_53 : Cond.methodLink RX6 53 zm_X6_settled.1 ∈ zT := zTm 634 (by decide +kernel) rfl
theorem zk_X6_57 : Cond.methodLink RX6 57 zm_X6_likeParts.1 ∈ zT := zTm 638 (by decide +kernel) rfl
theorem zk_X6_61 : Cond.methodLink RX6 61 zm_X8_partsOf.1 ∈ zT := zTm 642 (by decide +kernel) rfl
set_option maxRecDepth 100000 in
theorem zk_X7_3 : Cond.methodLink RX7 3 objectInit ∈ zT ∧ Cond.instanceMethod objectInit ∈ zT ∧ Cond.code objectInit ⟨#[0xb1]⟩ 1 none ∈ zT := ⟨zTm 156 (by decide +kernel) rfl, zTm 127 (by decide +kernel) rfl, zTm 128 rfl rfl⟩
theorem zk_X7_32 : (RX7, 32, zm_X1_init.1, "ClaimHall") ∈ zMN := by decide +kernel
theorem zk_X7_36 : Cond.methodLink RX7 36 zm_X7_at.1 ∈ zT := zTm 1083 (by decide +kernel) rfl
theorem zk_X7_52 : Cond.methodLink RX7 52 zm_X7_find.1 ∈ zT := zTm 1084 (by decide +kernel) rfl
theorem zk_X7_56 : Cond.methodLink RX7 56 zm_X7_findNamed.1 ∈ zT := zTm 1088 (by decide +kernel) rfl
theorem zk_X7_60 : Cond.methodLink RX7 60 zm_X1_kind.1 ∈ zT := zTm 1092 (by decide +kernel) rfl
set_option maxRecDepth 100000 in
theorem zk_X8_3 : Cond.methodLink RX8 3 objectInit ∈ zT ∧ Cond.instanceMethod objectInit ∈ zT ∧ Cond.code objectInit ⟨#[0xb1]⟩ 1 none ∈ zT := ⟨zTm 134 (by decide +kernel) rfl, zTm 127 (by decide +kernel) rfl, zTm 128 rfl rfl⟩
set_option maxRecDepth 100000 in
theorem zk_X9_3 : Cond.methodLink RX9 3 objectInit ∈ zT ∧ Cond.instanceMethod objectInit ∈ zT ∧ Cond.code objectInit ⟨#[0xb1]⟩ 1 none ∈ zT := ⟨zTm 260 (by decide +kernel) rfl, zTm 127 (by decide +kernel) rfl, zTm 128 rfl rfl⟩
theorem zk_X9_59 : Cond.methodLink RX9 59 zm_J7_fill_53178.1 ∈ zT := zTm 261 (by decide +kernel) rfl
theorem zk_X9_76 : Cond.methodLink RX9 76 arraycopyName ∈ zT := zTm 722 (by decide +kernel) rfl
theorem zk_X9_82 : Cond.methodLink RX9 82 zm_X9_forget.1 ∈ zT := zTm 988 (by decide +kernel) rfl
theorem zk_X9_87 : Cond.methodLink RX9 87 zm_X9_resting.1 ∈ zT := zTm 740 (by decide +kernel) rfl
theorem zk_X9_91 : Cond.methodLink RX9 91 zm_X8_partsOf.1 ∈ zT := zTm 707 (by decide +kernel) rfl
theorem zk_X9_96 : Cond.methodLink RX9 96 zm_X8_after.1 ∈ zT := zTm 708 (by decide +kernel) rfl
theorem zk_X9_100 : Cond.methodLink RX9 100 zm_X9_meet.1 ∈ zT := zTm 989 (by decide +kernel) rfl
theorem zk_X9_104 : Cond.methodLink RX9 104 zm_X9_isIn.1 ∈ zT := zTm 993 (by decide +kernel) rfl
theorem zk_X9_107 : Cond.methodLink RX9 107 zm_X9_tell.1 ∈ zT := zTm 709 (by decide +kernel) rfl
theorem zk_X9_111 : Cond.methodLink RX9 111 zm_X9_beginWay.1 ∈ zT := zTm 731 (by decide +kernel) rfl
theorem zk_X9_114 : Cond.methodLink RX9 114 zm_X9_nextOnWay.1 ∈ zT := zTm 736 (by decide +kernel) rfl
theorem zk_X9_118 : (RX9, 118, zm_X11_alike.1, "ClaimHall") ∈ zMN := by decide +kernel
set_option maxRecDepth 100000 in
theorem zk_X10_3 : Cond.methodLink RX10 3 objectInit ∈ zT ∧ Cond.instanceMethod objectInit ∈ zT ∧ Cond.code objectInit ⟨#[0xb1]⟩ 1 none ∈ zT := ⟨zTm 343 (by decide +kernel) rfl, zTm 127 (by decide +kernel) rfl, zTm 128 rfl rfl⟩
theorem zk_X10_35 : Cond.methodLink RX10 35 zm_X9_forget.1 ∈ zT := zTm 780 (by decide +kernel) rfl
theorem zk_X10_52 : Cond.methodLink RX10 52 zm_X9_matches.1 ∈ zT := zTm 782 (by decide +kernel) rfl
theorem zk_X10_64 : Cond.methodLink RX10 64 zm_X7_at.1 ∈ zT := zTm 774 (by decide +kernel) rfl
theorem zk_X10_68 : Cond.methodLink RX10 68 zm_X1_isThere.1 ∈ zT := zTm 775 (by decide +kernel) rfl
theorem zk_X10_78 : Cond.methodLink RX10 78 zm_X10_takes.1 ∈ zT := zTm 776 (by decide +kernel) rfl
set_option maxRecDepth 100000 in
theorem zk_X12_1 : Cond.methodLink RX12 1 objectInit ∈ zT ∧ Cond.instanceMethod objectInit ∈ zT ∧ Cond.code objectInit ⟨#[0xb1]⟩ 1 none ∈ zT := ⟨zTm 1136 (by decide +kernel) rfl, zTm 127 (by decide +kernel) rfl, zTm 128 rfl rfl⟩
theorem zk_X12_138 : Cond.methodLink RX12 138 zm_X12_in.1 ∈ zT := zTm 1325 (by decide +kernel) rfl
theorem zk_X12_148 : Cond.methodLink RX12 148 zm_X12_endOf.1 ∈ zT := zTm 1356 (by decide +kernel) rfl
theorem zk_X12_152 : Cond.methodLink RX12 152 zm_X12_isLike.1 ∈ zT := zTm 1376 (by decide +kernel) rfl
theorem zk_X12_156 : Cond.methodLink RX12 156 zm_X12_hasLetters.1 ∈ zT := zTm 1364 (by decide +kernel) rfl
theorem zk_X12_160 : Cond.methodLink RX12 160 zm_X12_weightOf.1 ∈ zT := zTm 1368 (by decide +kernel) rfl
theorem zk_X12_164 : Cond.methodLink RX12 164 zm_X12_areLike.1 ∈ zT := zTm 1372 (by decide +kernel) rfl
theorem zk_X12_170 : Cond.methodLink RX12 170 zm_X12_isGreater.1 ∈ zT := zTm 1360 (by decide +kernel) rfl
theorem zk_X12_173 : Cond.methodLink RX12 173 zm_X12_exchange.1 ∈ zT := zTm 1379 (by decide +kernel) rfl
theorem zk_X12_177 : Cond.methodLink RX12 177 zm_X12_hasLikeSides.1 ∈ zT := zTm 1383 (by decide +kernel) rfl
theorem zk_X12_181 : Cond.methodLink RX12 181 zm_X12_areAlike.1 ∈ zT := zTm 1387 (by decide +kernel) rfl
theorem zk_X12_188 : Cond.methodLink RX12 188 zm_X12_unbind.1 ∈ zT := zTm 1403 (by decide +kernel) rfl
theorem zk_X12_191 : Cond.methodLink RX12 191 zm_X12_save.1 ∈ zT := zTm 1435 (by decide +kernel) rfl
theorem zk_X12_194 : Cond.methodLink RX12 194 zm_X12_restore.1 ∈ zT := zTm 1439 (by decide +kernel) rfl
theorem zk_X12_197 : Cond.methodLink RX12 197 zm_X12_goesOnMatching.1 ∈ zT := zTm 1443 (by decide +kernel) rfl
theorem zk_X12_201 : Cond.methodLink RX12 201 zm_X12_takes.1 ∈ zT := zTm 1431 (by decide +kernel) rfl
theorem zk_X12_205 : Cond.methodLink RX12 205 zm_X12_matchesTerm.1 ∈ zT := zTm 1407 (by decide +kernel) rfl
theorem zk_X12_208 : Cond.methodLink RX12 208 zm_X12_makeOther.1 ∈ zT := zTm 1411 (by decide +kernel) rfl
theorem zk_X12_227 : Cond.methodLink RX12 227 zm_X12_isEquation.1 ∈ zT := zTm 1395 (by decide +kernel) rfl
theorem zk_X12_230 : Cond.methodLink RX12 230 zm_X12_rewrites.1 ∈ zT := zTm 1399 (by decide +kernel) rfl
theorem zk_X12_236 : Cond.methodLink RX12 236 zm_X12_clean.1 ∈ zT := zTm 1352 (by decide +kernel) rfl
theorem zk_X12_239 : Cond.methodLink RX12 239 zm_X12_findRewriting.1 ∈ zT := zTm 1391 (by decide +kernel) rfl
theorem zk_X12_243 : Cond.methodLink RX12 243 zm_X12_lays.1 ∈ zT := zTm 1415 (by decide +kernel) rfl
theorem zk_X12_249 : Cond.methodLink RX12 249 zm_X12_standsAt.1 ∈ zT := zTm 1519 (by decide +kernel) rfl
theorem zk_X12_253 : Cond.methodLink RX12 253 zm_X12_binds.1 ∈ zT := zTm 1523 (by decide +kernel) rfl
theorem zk_X12_256 : Cond.methodLink RX12 256 zm_X12_occurs.1 ∈ zT := zTm 1527 (by decide +kernel) rfl
theorem zk_X12_262 : Cond.methodLink RX12 262 zm_X12_put.1 ∈ zT := zTm 1539 (by decide +kernel) rfl
theorem zk_X12_265 : Cond.methodLink RX12 265 zm_X12_write.1 ∈ zT := zTm 1535 (by decide +kernel) rfl
theorem zk_X12_268 : Cond.methodLink RX12 268 zm_X12_comes.1 ∈ zT := zTm 1543 (by decide +kernel) rfl
theorem zk_X12_272 : Cond.methodLink RX12 272 zm_X12_chosenOf.1 ∈ zT := zTm 1503 (by decide +kernel) rfl
theorem zk_X12_275 : Cond.methodLink RX12 275 zm_X12_isPositive.1 ∈ zT := zTm 1499 (by decide +kernel) rfl
theorem zk_X12_278 : Cond.methodLink RX12 278 zm_X12_isLiteral.1 ∈ zT := zTm 1507 (by decide +kernel) rfl
theorem zk_X12_281 : Cond.methodLink RX12 281 zm_X12_take.1 ∈ zT := zTm 1511 (by decide +kernel) rfl
theorem zk_X12_285 : Cond.methodLink RX12 285 zm_X12_unites.1 ∈ zT := zTm 1515 (by decide +kernel) rfl
theorem zk_X12_288 : Cond.methodLink RX12 288 zm_X12_writesAll.1 ∈ zT := zTm 1531 (by decide +kernel) rfl
theorem zk_X12_291 : Cond.methodLink RX12 291 zm_X12_turnWrites.1 ∈ zT := zTm 1559 (by decide +kernel) rfl
theorem zk_X12_295 : Cond.methodLink RX12 295 zm_X12_writeTurned.1 ∈ zT := zTm 1563 (by decide +kernel) rfl
theorem zk_X12_299 : Cond.methodLink RX12 299 zm_X12_clash.1 ∈ zT := zTm 1495 (by decide +kernel) rfl
theorem zk_X12_303 : Cond.methodLink RX12 303 zm_X12_factor.1 ∈ zT := zTm 1547 (by decide +kernel) rfl
theorem zk_X12_306 : Cond.methodLink RX12 306 zm_X12_drop.1 ∈ zT := zTm 1551 (by decide +kernel) rfl
theorem zk_X12_309 : Cond.methodLink RX12 309 zm_X12_turn.1 ∈ zT := zTm 1555 (by decide +kernel) rfl
theorem zk_X12_313 : Cond.methodLink RX12 313 zm_X12_claimTakesWork.1 ∈ zT := zTm 1427 (by decide +kernel) rfl
theorem zk_X12_316 : Cond.methodLink RX12 316 zm_X12_finishes.1 ∈ zT := zTm 1348 (by decide +kernel) rfl
theorem zk_X12_322 : Cond.methodLink RX12 322 zm_X12_isTrivial.1 ∈ zT := zTm 1419 (by decide +kernel) rfl
theorem zk_X12_325 : Cond.methodLink RX12 325 zm_X12_isTakenIn.1 ∈ zT := zTm 1423 (by decide +kernel) rfl
theorem zk_X12_331 : Cond.methodLink RX12 331 zm_X12_layWork.1 ∈ zT := zTm 1447 (by decide +kernel) rfl
theorem zk_X12_334 : Cond.methodLink RX12 334 zm_X12_claimTakes.1 ∈ zT := zTm 1451 (by decide +kernel) rfl
theorem zk_X12_343 : Cond.methodLink RX12 343 zm_X12_reads.1 ∈ zT := zTm 1340 (by decide +kernel) rfl
theorem zk_X12_346 : Cond.methodLink RX12 346 zm_X12_ends.1 ∈ zT := zTm 1344 (by decide +kernel) rfl
theorem zk_X12_350 : Cond.methodLink RX12 350 zm_X12_makes.1 ∈ zT := zTm 1491 (by decide +kernel) rfl
theorem zk_X12_356 : Cond.methodLink RX12 356 zm_X12_goesOn.1 ∈ zT := zTm 1479 (by decide +kernel) rfl
theorem zk_X12_359 : Cond.methodLink RX12 359 zm_X12_tries.1 ∈ zT := zTm 1487 (by decide +kernel) rfl
theorem zk_X12_362 : Cond.methodLink RX12 362 zm_X12_clashes.1 ∈ zT := zTm 1483 (by decide +kernel) rfl
theorem zk_X12_365 : Cond.methodLink RX12 365 zm_X12_allTurns.1 ∈ zT := zTm 1567 (by decide +kernel) rfl
theorem zk_X12_371 : Cond.methodLink RX12 371 zm_X12_weightOfClaim.1 ∈ zT := zTm 1471 (by decide +kernel) rfl
theorem zk_X12_374 : Cond.methodLink RX12 374 zm_X12_pick.1 ∈ zT := zTm 1467 (by decide +kernel) rfl
theorem zk_X12_378 : Cond.methodLink RX12 378 zm_X12_works.1 ∈ zT := zTm 1475 (by decide +kernel) rfl
theorem zk_X12_380 : Cond.methodLink RX12 380 zm_X12_isClaim.1 ∈ zT := zTm 1579 (by decide +kernel) rfl
theorem zk_X12_384 : Cond.methodLink RX12 384 zm_X12_hasNumber.1 ∈ zT := zTm 1584 (by decide +kernel) rfl
theorem zk_X12_387 : Cond.methodLink RX12 387 zm_X12_namesEarlier.1 ∈ zT := zTm 1599 (by decide +kernel) rfl
theorem zk_X12_390 : Cond.methodLink RX12 390 zm_X12_makesAgain.1 ∈ zT := zTm 1595 (by decide +kernel) rfl
theorem zk_X12_393 : Cond.methodLink RX12 393 zm_X12_rewritesAgain.1 ∈ zT := zTm 1603 (by decide +kernel) rfl
theorem zk_X12_396 : Cond.methodLink RX12 396 zm_X12_isWork.1 ∈ zT := zTm 1607 (by decide +kernel) rfl
theorem zk_X12_403 : Cond.methodLink RX12 403 zm_X12_names.1 ∈ zT := zTm 1615 (by decide +kernel) rfl
theorem zk_X12_406 : Cond.methodLink RX12 406 zm_X12_lettersOf.1 ∈ zT := zTm 1623 (by decide +kernel) rfl
theorem zk_X12_409 : Cond.methodLink RX12 409 zm_X12_inStatus.1 ∈ zT := zTm 1643 (by decide +kernel) rfl
theorem zk_X12_416 : Cond.methodLink RX12 416 zm_X12_count.1 ∈ zT := zTm 1653 (by decide +kernel) rfl
theorem zk_X12_419 : Cond.methodLink RX12 419 zm_X12_claim.1 ∈ zT := zTm 1654 (by decide +kernel) rfl
theorem zk_X12_422 : Cond.methodLink RX12 422 zm_X12_literal.1 ∈ zT := zTm 1655 (by decide +kernel) rfl
theorem zk_X12_425 : Cond.methodLink RX12 425 zm_X12_step.1 ∈ zT := zTm 1656 (by decide +kernel) rfl
theorem zcopy : Cond.native arraycopyName ∈ zT ∧ Cond.static arraycopyName ∈ zT ∧ Cond.initialized "java/lang/System" ∈ zT := ⟨zTm 579 (by decide +kernel) rfl, zTm 578 (by decide +kernel) rfl, zTm 119 (by decide +kernel) rfl⟩
theorem zai : Cond.arrayClass .int ∈ zT := zTm 150 (by decide +kernel) rfl
theorem zaz : Cond.arrayClass .boolean ∈ zT := zTm 149 (by decide +kernel) rfl
theorem zq_X11_155 : Cond.constant RX11 155 (Int32.ofInt (1000000)) ∈ zT := zTm 927 (by decide +kernel) rfl
theorem zq_X11_201 : Cond.constant RX11 201 (Int32.ofInt (-2147483648)) ∈ zT := zTm 1044 (by decide +kernel) rfl
theorem zq_X11_267 : Cond.constantLong RX11 267 17 ∈ zT := zTm 1117 (by decide +kernel) rfl
theorem zq_X11_269 : Cond.constantLong RX11 269 31 ∈ zT := zTm 1118 (by decide +kernel) rfl
theorem zq_X0_58 : Cond.constant RX0 58 (Int32.ofInt (1000000)) ∈ zT := zTm 932 (by decide +kernel) rfl
theorem zq_X6_36 : Cond.constant RX6 36 (Int32.ofInt (1000000)) ∈ zT := zTm 617 (by decide +kernel) rfl
theorem zq_X9_86 : Cond.constant RX9 86 (Int32.ofInt (1000000)) ∈ zT := zTm 735 (by decide +kernel) rfl
theorem zq_X10_41 : Cond.constant RX10 41 (Int32.ofInt (1000000)) ∈ zT := zTm 781 (by decide +kernel) rfl
theorem zq_X12_383 : Cond.constant RX12 383 (Int32.ofInt (-2147483648)) ∈ zT := zTm 1583 (by decide +kernel) rfl
theorem zq_X12_412 : Cond.constantLong RX12 412 17 ∈ zT := zTm 1651 (by decide +kernel) rfl
theorem zq_X12_414 : Cond.constantLong RX12 414 31 ∈ zT := zTm 1652 (by decide +kernel) rfl
theorem zc_X11_9 : znw RX11 9 8 := ⟨(RX8, TX8, 4), rfl, zTm 129 (by decide +kernel) rfl, zTm 130 (by decide +kernel) rfl, zTm 106 (by decide +kernel) rfl⟩
theorem zc_X11_16 : znw RX11 16 7 := ⟨(RX7, TX7, 5), rfl, zTm 151 (by decide +kernel) rfl, zTm 152 (by decide +kernel) rfl, zTm 107 (by decide +kernel) rfl⟩
theorem zc_X11_27 : znw RX11 27 5 := ⟨(RX5, TX5, 5), rfl, zTm 180 (by decide +kernel) rfl, zTm 181 (by decide +kernel) rfl, zTm 108 (by decide +kernel) rfl⟩
theorem zc_X11_37 : znw RX11 37 6 := ⟨(RX6, TX6, 5), rfl, zTm 233 (by decide +kernel) rfl, zTm 234 (by decide +kernel) rfl, zTm 109 (by decide +kernel) rfl⟩
theorem zc_X11_46 : znw RX11 46 9 := ⟨(RX9, TX9, 15), rfl, zTm 255 (by decide +kernel) rfl, zTm 256 (by decide +kernel) rfl, zTm 110 (by decide +kernel) rfl⟩
theorem zc_X11_53 : znw RX11 53 2 := ⟨(RX2, TX2, 5), rfl, zTm 315 (by decide +kernel) rfl, zTm 316 (by decide +kernel) rfl, zTm 112 (by decide +kernel) rfl⟩
theorem zc_X11_62 : znw RX11 62 10 := ⟨(RX10, TX10, 4), rfl, zTm 338 (by decide +kernel) rfl, zTm 339 (by decide +kernel) rfl, zTm 113 (by decide +kernel) rfl⟩
theorem zc_X11_71 : znw RX11 71 4 := ⟨(RX4, TX4, 12), rfl, zTm 357 (by decide +kernel) rfl, zTm 358 (by decide +kernel) rfl, zTm 114 (by decide +kernel) rfl⟩
theorem zc_X11_80 : znw RX11 80 3 := ⟨(RX3, TX3, 4), rfl, zTm 403 (by decide +kernel) rfl, zTm 404 (by decide +kernel) rfl, zTm 115 (by decide +kernel) rfl⟩
theorem zc_X11_87 : znw RX11 87 0 := ⟨(RX0, TX0, 12), rfl, zTm 422 (by decide +kernel) rfl, zTm 423 (by decide +kernel) rfl, zTm 116 (by decide +kernel) rfl⟩
theorem zc_X1_9 : znw RX1 9 5 := ⟨(RX5, TX5, 5), rfl, zTm 796 (by decide +kernel) rfl, zTm 181 (by decide +kernel) rfl, zTm 108 (by decide +kernel) rfl⟩
theorem zc_X7_9 : Cond.classLink RX7 9 "ClaimHall$Claim" ∈ zT := zTm 157 (by decide +kernel) rfl
theorem zt_X11_226 : Cond.fieldLink RX11 226 "ClaimHall" (zsn 0) "[I" ∈ zT ∨ (RX11, 226, "ClaimHall", zsn 0, "[I", "ClaimHall") ∈ zFN := Or.inl (zTm 1058 (by decide +kernel) rfl)
theorem zt_X3_27 : Cond.fieldLink RX3 27 "ClaimHall" (zsn 1) "[I" ∈ zT ∨ (RX3, 27, "ClaimHall", zsn 1, "[I", "ClaimHall") ∈ zFN := Or.inr (by decide +kernel)
theorem zt_X3_31 : Cond.fieldLink RX3 31 "ClaimHall" (zsn 2) "[I" ∈ zT ∨ (RX3, 31, "ClaimHall", zsn 2, "[I", "ClaimHall") ∈ zFN := Or.inr (by decide +kernel)
theorem zt_X7_64 : Cond.fieldLink RX7 64 "ClaimHall" (zsn 1) "[I" ∈ zT ∨ (RX7, 64, "ClaimHall", zsn 1, "[I", "ClaimHall") ∈ zFN := Or.inr (by decide +kernel)
theorem zt_X7_70 : Cond.fieldLink RX7 70 "ClaimHall" (zsn 2) "[I" ∈ zT ∨ (RX7, 70, "ClaimHall", zsn 2, "[I", "ClaimHall") ∈ zFN := Or.inr (by decide +kernel)
def zXt : List (Nat × Int × Nat) := [(0, 0, 1), (0, 1, 5), (0, 2, 9), (0, 3, 10), (0, 4, 14), (0, 5, 18), (0, 6, 20), (0, 7, 30), (0, 8, 33), (0, 9, 36), (0, 10, 41), (0, 11, 42), (1, 0, 2), (1, 1, 3), (1, 2, 4), (5, 0, 6), (5, 1, 7), (5, 2, 8), (10, 0, 11), (10, 1, 12), (10, 2, 13), (14, 0, 15), (14, 1, 16), (14, 2, 17), (18, 0, 1), (18, 1, 19), (20, 0, 1), (20, 1, 21), (20, 2, 22), (20, 3, 23), (20, 5, 24), (20, 6, 25), (20, 7, 26), (20, 8, 27), (20, 9, 28), (20, 13, 29), (30, 0, 1), (30, 1, 18), (30, 2, 31), (30, 3, 32), (33, 0, 20), (33, 1, 5), (33, 2, 34), (33, 3, 35), (36, 0, 1), (36, 1, 18), (36, 2, 20), (36, 3, 5), (36, 4, 37), (36, 5, 38), (36, 6, 39), (36, 10, 40), (41, 0, 1), (41, 1, 18), (41, 2, 20), (41, 3, 5), (42, 0, 1), (42, 1, 5), (42, 2, 43)]
def zMt : List (Nat × Int × Nat) := [(50, 1, 52), (50, 2, 53), (50, 3, 54), (50, 5, 56), (50, 7, 58), (50, 8, 59), (50, 9, 60), (50, 10, 61), (50, 11, 62), (50, 12, 63), (50, 13, 64), (50, 14, 65), (50, 15, 66), (50, 16, 67), (50, 17, 68), (50, 18, 69), (50, 19, 70), (50, 20, 71), (50, 21, 72), (50, 22, 73), (50, 23, 74), (50, 25, 76), (50, 26, 77), (50, 27, 78), (50, 29, 80), (50, 30, 81), (50, 31, 82), (50, 32, 83), (50, 33, 84), (50, 34, 85), (50, 41, 92), (50, 46, 97), (50, 47, 98), (50, 48, 99), (50, 49, 100), (50, 50, 101), (50, 51, 102), (50, 53, 104), (50, 59, 110)]
theorem zX_0_0 {d : List Nat} {G : Nat → Int → Option Nat} (h : zK zXt d G) : G 0 0 = some 1 ∧ 0 ∈ d ∧ 1 ∈ d := zK_at h 0 rfl
theorem zX_0_1 {d : List Nat} {G : Nat → Int → Option Nat} (h : zK zXt d G) : G 0 1 = some 5 ∧ 0 ∈ d ∧ 5 ∈ d := zK_at h 1 rfl
theorem zX_0_2 {d : List Nat} {G : Nat → Int → Option Nat} (h : zK zXt d G) : G 0 2 = some 9 ∧ 0 ∈ d ∧ 9 ∈ d := zK_at h 2 rfl
theorem zX_0_3 {d : List Nat} {G : Nat → Int → Option Nat} (h : zK zXt d G) : G 0 3 = some 10 ∧ 0 ∈ d ∧ 10 ∈ d := zK_at h 3 rfl
theorem zX_0_4 {d : List Nat} {G : Nat → Int → Option Nat} (h : zK zXt d G) : G 0 4 = some 14 ∧ 0 ∈ d ∧ 14 ∈ d := zK_at h 4 rfl
theorem zX_0_5 {d : List Nat} {G : Nat → Int → Option Nat} (h : zK zXt d G) : G 0 5 = some 18 ∧ 0 ∈ d ∧ 18 ∈ d := zK_at h 5 rfl
theorem zX_0_6 {d : List Nat} {G : Nat → Int → Option Nat} (h : zK zXt d G) : G 0 6 = some 20 ∧ 0 ∈ d ∧ 20 ∈ d := zK_at h 6 rfl
theorem zX_0_7 {d : List Nat} {G : Nat → Int → Option Nat} (h : zK zXt d G) : G 0 7 = some 30 ∧ 0 ∈ d ∧ 30 ∈ d := zK_at h 7 rfl
theorem zX_0_8 {d : List Nat} {G : Nat → Int → Option Nat} (h : zK zXt d G) : G 0 8 = some 33 ∧ 0 ∈ d ∧ 33 ∈ d := zK_at h 8 rfl
theorem zX_0_9 {d : List Nat} {G : Nat → Int → Option Nat} (h : zK zXt d G) : G 0 9 = some 36 ∧ 0 ∈ d ∧ 36 ∈ d := zK_at h 9 rfl
theorem zX_0_10 {d : List Nat} {G : Nat → Int → Option Nat} (h : zK zXt d G) : G 0 10 = some 41 ∧ 0 ∈ d ∧ 41 ∈ d := zK_at h 10 rfl
theorem zX_0_11 {d : List Nat} {G : Nat → Int → Option Nat} (h : zK zXt d G) : G 0 11 = some 42 ∧ 0 ∈ d ∧ 42 ∈ d := zK_at h 11 rfl
theorem zX_1_0 {d : List Nat} {G : Nat → Int → Option Nat} (h : zK zXt d G) : G 1 0 = some 2 ∧ 1 ∈ d ∧ 2 ∈ d := zK_at h 12 rfl
theorem zX_1_1 {d : List Nat} {G : Nat → Int → Option Nat} (h : zK zXt d G) : G 1 1 = some 3 ∧ 1 ∈ d ∧ 3 ∈ d := zK_at h 13 rfl
theorem zX_1_2 {d : List Nat} {G : Nat → Int → Option Nat} (h : zK zXt d G) : G 1 2 = some 4 ∧ 1 ∈ d ∧ 4 ∈ d := zK_at h 14 rfl
theorem zX_5_0 {d : List Nat} {G : Nat → Int → Option Nat} (h : zK zXt d G) : G 5 0 = some 6 ∧ 5 ∈ d ∧ 6 ∈ d := zK_at h 15 rfl
theorem zX_5_1 {d : List Nat} {G : Nat → Int → Option Nat} (h : zK zXt d G) : G 5 1 = some 7 ∧ 5 ∈ d ∧ 7 ∈ d := zK_at h 16 rfl
theorem zX_5_2 {d : List Nat} {G : Nat → Int → Option Nat} (h : zK zXt d G) : G 5 2 = some 8 ∧ 5 ∈ d ∧ 8 ∈ d := zK_at h 17 rfl
theorem zX_10_0 {d : List Nat} {G : Nat → Int → Option Nat} (h : zK zXt d G) : G 10 0 = some 11 ∧ 10 ∈ d ∧ 11 ∈ d := zK_at h 18 rfl
theorem zX_10_1 {d : List Nat} {G : Nat → Int → Option Nat} (h : zK zXt d G) : G 10 1 = some 12 ∧ 10 ∈ d ∧ 12 ∈ d := zK_at h 19 rfl
theorem zX_10_2 {d : List Nat} {G : Nat → Int → Option Nat} (h : zK zXt d G) : G 10 2 = some 13 ∧ 10 ∈ d ∧ 13 ∈ d := zK_at h 20 rfl
theorem zX_14_0 {d : List Nat} {G : Nat → Int → Option Nat} (h : zK zXt d G) : G 14 0 = some 15 ∧ 14 ∈ d ∧ 15 ∈ d := zK_at h 21 rfl
theorem zX_14_1 {d : List Nat} {G : Nat → Int → Option Nat} (h : zK zXt d G) : G 14 1 = some 16 ∧ 14 ∈ d ∧ 16 ∈ d := zK_at h 22 rfl
theorem zX_14_2 {d : List Nat} {G : Nat → Int → Option Nat} (h : zK zXt d G) : G 14 2 = some 17 ∧ 14 ∈ d ∧ 17 ∈ d := zK_at h 23 rfl
theorem zX_18_0 {d : List Nat} {G : Nat → Int → Option Nat} (h : zK zXt d G) : G 18 0 = some 1 ∧ 18 ∈ d ∧ 1 ∈ d := zK_at h 24 rfl
theorem zX_18_1 {d : List Nat} {G : Nat → Int → Option Nat} (h : zK zXt d G) : G 18 1 = some 19 ∧ 18 ∈ d ∧ 19 ∈ d := zK_at h 25 rfl
theorem zX_20_0 {d : List Nat} {G : Nat → Int → Option Nat} (h : zK zXt d G) : G 20 0 = some 1 ∧ 20 ∈ d ∧ 1 ∈ d := zK_at h 26 rfl
theorem zX_20_1 {d : List Nat} {G : Nat → Int → Option Nat} (h : zK zXt d G) : G 20 1 = some 21 ∧ 20 ∈ d ∧ 21 ∈ d := zK_at h 27 rfl
theorem zX_20_2 {d : List Nat} {G : Nat → Int → Option Nat} (h : zK zXt d G) : G 20 2 = some 22 ∧ 20 ∈ d ∧ 22 ∈ d := zK_at h 28 rfl
theorem zX_20_3 {d : List Nat} {G : Nat → Int → Option Nat} (h : zK zXt d G) : G 20 3 = some 23 ∧ 20 ∈ d ∧ 23 ∈ d := zK_at h 29 rfl
theorem zX_20_5 {d : List Nat} {G : Nat → Int → Option Nat} (h : zK zXt d G) : G 20 5 = some 24 ∧ 20 ∈ d ∧ 24 ∈ d := zK_at h 30 rfl
theorem zX_20_6 {d : List Nat} {G : Nat → Int → Option Nat} (h : zK zXt d G) : G 20 6 = some 25 ∧ 20 ∈ d ∧ 25 ∈ d := zK_at h 31 rfl
theorem zX_20_7 {d : List Nat} {G : Nat → Int → Option Nat} (h : zK zXt d G) : G 20 7 = some 26 ∧ 20 ∈ d ∧ 26 ∈ d := zK_at h 32 rfl
theorem zX_20_8 {d : List Nat} {G : Nat → Int → Option Nat} (h : zK zXt d G) : G 20 8 = some 27 ∧ 20 ∈ d ∧ 27 ∈ d := zK_at h 33 rfl
theorem zX_20_9 {d : List Nat} {G : Nat → Int → Option Nat} (h : zK zXt d G) : G 20 9 = some 28 ∧ 20 ∈ d ∧ 28 ∈ d := zK_at h 34 rfl
theorem zX_20_13 {d : List Nat} {G : Nat → Int → Option Nat} (h : zK zXt d G) : G 20 13 = some 29 ∧ 20 ∈ d ∧ 29 ∈ d := zK_at h 35 rfl
theorem zX_30_0 {d : List Nat} {G : Nat → Int → Option Nat} (h : zK zXt d G) : G 30 0 = some 1 ∧ 30 ∈ d ∧ 1 ∈ d := zK_at h 36 rfl
theorem zX_30_1 {d : List Nat} {G : Nat → Int → Option Nat} (h : zK zXt d G) : G 30 1 = some 18 ∧ 30 ∈ d ∧ 18 ∈ d := zK_at h 37 rfl
theorem zX_30_2 {d : List Nat} {G : Nat → Int → Option Nat} (h : zK zXt d G) : G 30 2 = some 31 ∧ 30 ∈ d ∧ 31 ∈ d := zK_at h 38 rfl
theorem zX_30_3 {d : List Nat} {G : Nat → Int → Option Nat} (h : zK zXt d G) : G 30 3 = some 32 ∧ 30 ∈ d ∧ 32 ∈ d := zK_at h 39 rfl
theorem zX_33_0 {d : List Nat} {G : Nat → Int → Option Nat} (h : zK zXt d G) : G 33 0 = some 20 ∧ 33 ∈ d ∧ 20 ∈ d := zK_at h 40 rfl
theorem zX_33_1 {d : List Nat} {G : Nat → Int → Option Nat} (h : zK zXt d G) : G 33 1 = some 5 ∧ 33 ∈ d ∧ 5 ∈ d := zK_at h 41 rfl
theorem zX_33_2 {d : List Nat} {G : Nat → Int → Option Nat} (h : zK zXt d G) : G 33 2 = some 34 ∧ 33 ∈ d ∧ 34 ∈ d := zK_at h 42 rfl
theorem zX_33_3 {d : List Nat} {G : Nat → Int → Option Nat} (h : zK zXt d G) : G 33 3 = some 35 ∧ 33 ∈ d ∧ 35 ∈ d := zK_at h 43 rfl
theorem zX_36_0 {d : List Nat} {G : Nat → Int → Option Nat} (h : zK zXt d G) : G 36 0 = some 1 ∧ 36 ∈ d ∧ 1 ∈ d := zK_at h 44 rfl
theorem zX_36_1 {d : List Nat} {G : Nat → Int → Option Nat} (h : zK zXt d G) : G 36 1 = some 18 ∧ 36 ∈ d ∧ 18 ∈ d := zK_at h 45 rfl
theorem zX_36_2 {d : List Nat} {G : Nat → Int → Option Nat} (h : zK zXt d G) : G 36 2 = some 20 ∧ 36 ∈ d ∧ 20 ∈ d := zK_at h 46 rfl
theorem zX_36_3 {d : List Nat} {G : Nat → Int → Option Nat} (h : zK zXt d G) : G 36 3 = some 5 ∧ 36 ∈ d ∧ 5 ∈ d := zK_at h 47 rfl
theorem zX_36_4 {d : List Nat} {G : Nat → Int → Option Nat} (h : zK zXt d G) : G 36 4 = some 37 ∧ 36 ∈ d ∧ 37 ∈ d := zK_at h 48 rfl
theorem zX_36_5 {d : List Nat} {G : Nat → Int → Option Nat} (h : zK zXt d G) : G 36 5 = some 38 ∧ 36 ∈ d ∧ 38 ∈ d := zK_at h 49 rfl
theorem zX_36_6 {d : List Nat} {G : Nat → Int → Option Nat} (h : zK zXt d G) : G 36 6 = some 39 ∧ 36 ∈ d ∧ 39 ∈ d := zK_at h 50 rfl
theorem zX_36_10 {d : List Nat} {G : Nat → Int → Option Nat} (h : zK zXt d G) : G 36 10 = some 40 ∧ 36 ∈ d ∧ 40 ∈ d := zK_at h 51 rfl
theorem zX_41_0 {d : List Nat} {G : Nat → Int → Option Nat} (h : zK zXt d G) : G 41 0 = some 1 ∧ 41 ∈ d ∧ 1 ∈ d := zK_at h 52 rfl
theorem zX_41_1 {d : List Nat} {G : Nat → Int → Option Nat} (h : zK zXt d G) : G 41 1 = some 18 ∧ 41 ∈ d ∧ 18 ∈ d := zK_at h 53 rfl
theorem zX_41_2 {d : List Nat} {G : Nat → Int → Option Nat} (h : zK zXt d G) : G 41 2 = some 20 ∧ 41 ∈ d ∧ 20 ∈ d := zK_at h 54 rfl
theorem zX_41_3 {d : List Nat} {G : Nat → Int → Option Nat} (h : zK zXt d G) : G 41 3 = some 5 ∧ 41 ∈ d ∧ 5 ∈ d := zK_at h 55 rfl
theorem zX_42_0 {d : List Nat} {G : Nat → Int → Option Nat} (h : zK zXt d G) : G 42 0 = some 1 ∧ 42 ∈ d ∧ 1 ∈ d := zK_at h 56 rfl
theorem zX_42_1 {d : List Nat} {G : Nat → Int → Option Nat} (h : zK zXt d G) : G 42 1 = some 5 ∧ 42 ∈ d ∧ 5 ∈ d := zK_at h 57 rfl
theorem zX_42_2 {d : List Nat} {G : Nat → Int → Option Nat} (h : zK zXt d G) : G 42 2 = some 43 ∧ 42 ∈ d ∧ 43 ∈ d := zK_at h 58 rfl
theorem zM_1 {d : List Nat} {G : Nat → Int → Option Nat} (h : zK zMt d G) : G 50 1 = some 52 ∧ 50 ∈ d ∧ 52 ∈ d := zK_at h 0 rfl
theorem zM_2 {d : List Nat} {G : Nat → Int → Option Nat} (h : zK zMt d G) : G 50 2 = some 53 ∧ 50 ∈ d ∧ 53 ∈ d := zK_at h 1 rfl
theorem zM_3 {d : List Nat} {G : Nat → Int → Option Nat} (h : zK zMt d G) : G 50 3 = some 54 ∧ 50 ∈ d ∧ 54 ∈ d := zK_at h 2 rfl
theorem zM_5 {d : List Nat} {G : Nat → Int → Option Nat} (h : zK zMt d G) : G 50 5 = some 56 ∧ 50 ∈ d ∧ 56 ∈ d := zK_at h 3 rfl
theorem zM_7 {d : List Nat} {G : Nat → Int → Option Nat} (h : zK zMt d G) : G 50 7 = some 58 ∧ 50 ∈ d ∧ 58 ∈ d := zK_at h 4 rfl
theorem zM_8 {d : List Nat} {G : Nat → Int → Option Nat} (h : zK zMt d G) : G 50 8 = some 59 ∧ 50 ∈ d ∧ 59 ∈ d := zK_at h 5 rfl
theorem zM_9 {d : List Nat} {G : Nat → Int → Option Nat} (h : zK zMt d G) : G 50 9 = some 60 ∧ 50 ∈ d ∧ 60 ∈ d := zK_at h 6 rfl
theorem zM_10 {d : List Nat} {G : Nat → Int → Option Nat} (h : zK zMt d G) : G 50 10 = some 61 ∧ 50 ∈ d ∧ 61 ∈ d := zK_at h 7 rfl
theorem zM_11 {d : List Nat} {G : Nat → Int → Option Nat} (h : zK zMt d G) : G 50 11 = some 62 ∧ 50 ∈ d ∧ 62 ∈ d := zK_at h 8 rfl
theorem zM_12 {d : List Nat} {G : Nat → Int → Option Nat} (h : zK zMt d G) : G 50 12 = some 63 ∧ 50 ∈ d ∧ 63 ∈ d := zK_at h 9 rfl
theorem zM_13 {d : List Nat} {G : Nat → Int → Option Nat} (h : zK zMt d G) : G 50 13 = some 64 ∧ 50 ∈ d ∧ 64 ∈ d := zK_at h 10 rfl
theorem zM_14 {d : List Nat} {G : Nat → Int → Option Nat} (h : zK zMt d G) : G 50 14 = some 65 ∧ 50 ∈ d ∧ 65 ∈ d := zK_at h 11 rfl
theorem zM_15 {d : List Nat} {G : Nat → Int → Option Nat} (h : zK zMt d G) : G 50 15 = some 66 ∧ 50 ∈ d ∧ 66 ∈ d := zK_at h 12 rfl
theorem zM_16 {d : List Nat} {G : Nat → Int → Option Nat} (h : zK zMt d G) : G 50 16 = some 67 ∧ 50 ∈ d ∧ 67 ∈ d := zK_at h 13 rfl
theorem zM_17 {d : List Nat} {G : Nat → Int → Option Nat} (h : zK zMt d G) : G 50 17 = some 68 ∧ 50 ∈ d ∧ 68 ∈ d := zK_at h 14 rfl
theorem zM_18 {d : List Nat} {G : Nat → Int → Option Nat} (h : zK zMt d G) : G 50 18 = some 69 ∧ 50 ∈ d ∧ 69 ∈ d := zK_at h 15 rfl
theorem zM_19 {d : List Nat} {G : Nat → Int → Option Nat} (h : zK zMt d G) : G 50 19 = some 70 ∧ 50 ∈ d ∧ 70 ∈ d := zK_at h 16 rfl
theorem zM_20 {d : List Nat} {G : Nat → Int → Option Nat} (h : zK zMt d G) : G 50 20 = some 71 ∧ 50 ∈ d ∧ 71 ∈ d := zK_at h 17 rfl
theorem zM_21 {d : List Nat} {G : Nat → Int → Option Nat} (h : zK zMt d G) : G 50 21 = some 72 ∧ 50 ∈ d ∧ 72 ∈ d := zK_at h 18 rfl
theorem zM_22 {d : List Nat} {G : Nat → Int → Option Nat} (h : zK zMt d G) : G 50 22 = some 73 ∧ 50 ∈ d ∧ 73 ∈ d := zK_at h 19 rfl
theorem zM_23 {d : List Nat} {G : Nat → Int → Option Nat} (h : zK zMt d G) : G 50 23 = some 74 ∧ 50 ∈ d ∧ 74 ∈ d := zK_at h 20 rfl
theorem zM_25 {d : List Nat} {G : Nat → Int → Option Nat} (h : zK zMt d G) : G 50 25 = some 76 ∧ 50 ∈ d ∧ 76 ∈ d := zK_at h 21 rfl
theorem zM_26 {d : List Nat} {G : Nat → Int → Option Nat} (h : zK zMt d G) : G 50 26 = some 77 ∧ 50 ∈ d ∧ 77 ∈ d := zK_at h 22 rfl
theorem zM_27 {d : List Nat} {G : Nat → Int → Option Nat} (h : zK zMt d G) : G 50 27 = some 78 ∧ 50 ∈ d ∧ 78 ∈ d := zK_at h 23 rfl
theorem zM_29 {d : List Nat} {G : Nat → Int → Option Nat} (h : zK zMt d G) : G 50 29 = some 80 ∧ 50 ∈ d ∧ 80 ∈ d := zK_at h 24 rfl
theorem zM_30 {d : List Nat} {G : Nat → Int → Option Nat} (h : zK zMt d G) : G 50 30 = some 81 ∧ 50 ∈ d ∧ 81 ∈ d := zK_at h 25 rfl
theorem zM_31 {d : List Nat} {G : Nat → Int → Option Nat} (h : zK zMt d G) : G 50 31 = some 82 ∧ 50 ∈ d ∧ 82 ∈ d := zK_at h 26 rfl
theorem zM_32 {d : List Nat} {G : Nat → Int → Option Nat} (h : zK zMt d G) : G 50 32 = some 83 ∧ 50 ∈ d ∧ 83 ∈ d := zK_at h 27 rfl
theorem zM_33 {d : List Nat} {G : Nat → Int → Option Nat} (h : zK zMt d G) : G 50 33 = some 84 ∧ 50 ∈ d ∧ 84 ∈ d := zK_at h 28 rfl
theorem zM_34 {d : List Nat} {G : Nat → Int → Option Nat} (h : zK zMt d G) : G 50 34 = some 85 ∧ 50 ∈ d ∧ 85 ∈ d := zK_at h 29 rfl
theorem zM_41 {d : List Nat} {G : Nat → Int → Option Nat} (h : zK zMt d G) : G 50 41 = some 92 ∧ 50 ∈ d ∧ 92 ∈ d := zK_at h 30 rfl
theorem zM_46 {d : List Nat} {G : Nat → Int → Option Nat} (h : zK zMt d G) : G 50 46 = some 97 ∧ 50 ∈ d ∧ 97 ∈ d := zK_at h 31 rfl
theorem zM_47 {d : List Nat} {G : Nat → Int → Option Nat} (h : zK zMt d G) : G 50 47 = some 98 ∧ 50 ∈ d ∧ 98 ∈ d := zK_at h 32 rfl
theorem zM_48 {d : List Nat} {G : Nat → Int → Option Nat} (h : zK zMt d G) : G 50 48 = some 99 ∧ 50 ∈ d ∧ 99 ∈ d := zK_at h 33 rfl
theorem zM_49 {d : List Nat} {G : Nat → Int → Option Nat} (h : zK zMt d G) : G 50 49 = some 100 ∧ 50 ∈ d ∧ 100 ∈ d := zK_at h 34 rfl
theorem zM_50 {d : List Nat} {G : Nat → Int → Option Nat} (h : zK zMt d G) : G 50 50 = some 101 ∧ 50 ∈ d ∧ 101 ∈ d := zK_at h 35 rfl
theorem zM_51 {d : List Nat} {G : Nat → Int → Option Nat} (h : zK zMt d G) : G 50 51 = some 102 ∧ 50 ∈ d ∧ 102 ∈ d := zK_at h 36 rfl
theorem zM_53 {d : List Nat} {G : Nat → Int → Option Nat} (h : zK zMt d G) : G 50 53 = some 104 ∧ 50 ∈ d ∧ 104 ∈ d := zK_at h 37 rfl
theorem zM_59 {d : List Nat} {G : Nat → Int → Option Nat} (h : zK zMt d G) : G 50 59 = some 110 ∧ 50 ∈ d ∧ 110 ∈ d := zK_at h 38 rfl
