/-! METHODS, FIELD LINKS, CALL LINKS: by program out of the printed names and the words of the tables -/
abbrev m_X0_init : s_M := (yX0_init, cX0_init, 2, none)
abbrev m_X0_heatsBy : s_M := (yX0_heatsBy, cX0_heatsBy, 4, (some .int))
abbrev m_X0_coolsBy : s_M := (yX0_coolsBy, cX0_coolsBy, 4, (some .int))
abbrev m_X0_worthOf : s_M := (yX0_worthOf, cX0_worthOf, 3, (some .int))
abbrev m_X0_hindrance : s_M := (yX0_hindrance, cX0_hindrance, 4, (some .int))
abbrev m_X0_isOverWater : s_M := (yX0_isOverWater, cX0_isOverWater, 4, (some .boolean))
abbrev m_X0_askField : s_M := (yX0_askField, cX0_askField, 4, none)
abbrev m_X0_tellWords : s_M := (yX0_tellWords, cX0_tellWords, 6, none)
abbrev m_X0_toldBy : s_M := (yX0_toldBy, cX0_toldBy, 8, (some .int))
abbrev m_X1_init : s_M := (yX1_init, cX1_init, 3, none)
abbrev m_X1_chanceOf : s_M := (yX1_chanceOf, cX1_chanceOf, 4, (some .long))
abbrev m_X1_setChance : s_M := (yX1_setChance, cX1_setChance, 6, none)
abbrev m_X1_chanceAsTold : s_M := (yX1_chanceAsTold, cX1_chanceAsTold, 9, (some .long))
abbrev m_X1_drift : s_M := (yX1_drift, cX1_drift, 8, none)
abbrev m_X1_bestChance : s_M := (yX1_bestChance, cX1_bestChance, 5, (some .long))
abbrev m_X1_bestStep : s_M := (yX1_bestStep, cX1_bestStep, 6, (some .int))
abbrev m_X1_fought : s_M := (yX1_fought, cX1_fought, 7, (some .int))
abbrev m_X1_reckonBack : s_M := (yX1_reckonBack, cX1_reckonBack, 7, none)
abbrev m_X1_bestOf : s_M := (yX1_bestOf, cX1_bestOf, 9, (some .long))
abbrev m_X1_chanceBy : s_M := (yX1_chanceBy, cX1_chanceBy, 8, (some .long))
abbrev m_X1_worstBy : s_M := (yX1_worstBy, cX1_worstBy, 7, (some .long))
abbrev m_X2_init : s_M := (yX2_init, cX2_init, 3, none)
abbrev m_X2_take : s_M := (yX2_take, cX2_take, 2, none)
abbrev m_X2_slotOf : s_M := (yX2_slotOf, cX2_slotOf, 2, (some .int))
abbrev m_X2_markOf : s_M := (yX2_markOf, cX2_markOf, 4, (some .int))
abbrev m_X2_isReached : s_M := (yX2_isReached, cX2_isReached, 3, (some .boolean))
abbrev m_X2_strike : s_M := (yX2_strike, cX2_strike, 4, none)
abbrev m_X2_shades : s_M := (yX2_shades, cX2_shades, 3, (some .boolean))
abbrev m_X2_spread : s_M := (yX2_spread, cX2_spread, 13, none)
abbrev m_X2_reach : s_M := (yX2_reach, cX2_reach, 4, none)
abbrev m_X2_onward : s_M := (yX2_onward, cX2_onward, 8, (some .int))
abbrev m_X3_init : s_M := (yX3_init, cX3_init, 2, none)
abbrev m_X3_copyFrom : s_M := (yX3_copyFrom, cX3_copyFrom, 3, none)
abbrev m_X3_fits : s_M := (yX3_fits, cX3_fits, 2, (some .boolean))
abbrev m_X3_isTerm : s_M := (yX3_isTerm, cX3_isTerm, 2, (some .boolean))
abbrev m_X3_isShape : s_M := (yX3_isShape, cX3_isShape, 3, (some .boolean))
abbrev m_X3_isCloud : s_M := (yX3_isCloud, cX3_isCloud, 2, (some .boolean))
abbrev m_X3_fieldFact : s_M := (yX3_fieldFact, cX3_fieldFact, 3, (some .int))
abbrev m_X3_setField : s_M := (yX3_setField, cX3_setField, 4, none)
abbrev m_X3_cloudFact : s_M := (yX3_cloudFact, cX3_cloudFact, 3, (some .int))
abbrev m_X3_addCloud : s_M := (yX3_addCloud, cX3_addCloud, 7, none)
abbrev m_X3_startOf : s_M := (yX3_startOf, cX3_startOf, 2, (some .int))
abbrev m_X3_windXOf : s_M := (yX3_windXOf, cX3_windXOf, 3, (some .int))
abbrev m_X3_windYOf : s_M := (yX3_windYOf, cX3_windYOf, 3, (some .int))
abbrev m_X3_shadowCovers : s_M := (yX3_shadowCovers, cX3_shadowCovers, 4, (some .boolean))
abbrev m_X3_commonFields : s_M := (yX3_commonFields, cX3_commonFields, 7, (some .int))
abbrev m_X3_commonLength : s_M := (yX3_commonLength, cX3_commonLength, 6, (some .int))
abbrev m_X3_flagFact : s_M := (yX3_flagFact, cX3_flagFact, 3, (some .int))
abbrev m_X3_hasFlag : s_M := (yX3_hasFlag, cX3_hasFlag, 4, (some .boolean))
abbrev m_X3_whyNoFlag : s_M := (yX3_whyNoFlag, cX3_whyNoFlag, 4, (some .int))
abbrev m_X3_addFlag : s_M := (yX3_addFlag, cX3_addFlag, 5, none)
abbrev m_X3_contractFact : s_M := (yX3_contractFact, cX3_contractFact, 3, (some .int))
abbrev m_X3_addContract : s_M := (yX3_addContract, cX3_addContract, 7, none)
abbrev m_X3_sightFact : s_M := (yX3_sightFact, cX3_sightFact, 3, (some .int))
abbrev m_X3_addSight : s_M := (yX3_addSight, cX3_addSight, 5, none)
abbrev m_X3_addLaw : s_M := (yX3_addLaw, cX3_addLaw, 2, none)
abbrev m_X3_lawInForce : s_M := (yX3_lawInForce, cX3_lawInForce, 1, (some (.object "ShadowHerds$Script")))
abbrev m_X4_init : s_M := (yX4_init, cX4_init, 4, none)
abbrev m_X4_driven : s_M := (yX4_driven, cX4_driven, 9, (some .int))
abbrev m_X4_parted : s_M := (yX4_parted, cX4_parted, 8, (some .int))
abbrev m_X4_reckonCosts : s_M := (yX4_reckonCosts, cX4_reckonCosts, 5, none)
abbrev m_X4_cheapest : s_M := (yX4_cheapest, cX4_cheapest, 6, (some .int))
abbrev m_X4_costBy : s_M := (yX4_costBy, cX4_costBy, 5, (some .int))
abbrev m_X4_costOf : s_M := (yX4_costOf, cX4_costOf, 4, (some .int))
abbrev m_X4_cheapStepIn : s_M := (yX4_cheapStepIn, cX4_cheapStepIn, 6, (some .int))
abbrev m_X4_cheapStep : s_M := (yX4_cheapStep, cX4_cheapStep, 4, (some .int))
abbrev m_X4_grazed : s_M := (yX4_grazed, cX4_grazed, 7, (some .int))
abbrev m_X4_graze : s_M := (yX4_graze, cX4_graze, 11, none)
abbrev m_X4_worthUnder : s_M := (yX4_worthUnder, cX4_worthUnder, 9, (some .int))
abbrev m_X4_richStep : s_M := (yX4_richStep, cX4_richStep, 8, (some .int))
abbrev m_X4_yieldBy : s_M := (yX4_yieldBy, cX4_yieldBy, 6, (some .int))
abbrev m_X4_yieldSlot : s_M := (yX4_yieldSlot, cX4_yieldSlot, 3, (some .int))
abbrev m_X4_yieldOf : s_M := (yX4_yieldOf, cX4_yieldOf, 5, (some .int))
abbrev m_X4_grazeStepIn : s_M := (yX4_grazeStepIn, cX4_grazeStepIn, 11, (some .int))
abbrev m_X4_served : s_M := (yX4_served, cX4_served, 8, (some .int))
abbrev m_X4_drawStuckRows : s_M := (yX4_drawStuckRows, cX4_drawStuckRows, 5, none)
abbrev m_X4_feesOf : s_M := (yX4_feesOf, cX4_feesOf, 4, (some .int))
abbrev m_X4_canKeep : s_M := (yX4_canKeep, cX4_canKeep, 6, (some .boolean))
abbrev m_X4_lastHourOf : s_M := (yX4_lastHourOf, cX4_lastHourOf, 4, (some .int))
abbrev m_X4_isDue : s_M := (yX4_isDue, cX4_isDue, 3, (some .boolean))
abbrev m_X4_keepOver : s_M := (yX4_keepOver, cX4_keepOver, 8, none)
abbrev m_X4_rowsAreEmpty : s_M := (yX4_rowsAreEmpty, cX4_rowsAreEmpty, 3, (some .boolean))
abbrev m_X4_moveRows : s_M := (yX4_moveRows, cX4_moveRows, 6, none)
abbrev m_X4_moveRow : s_M := (yX4_moveRow, cX4_moveRow, 6, none)
abbrev m_X5_init : s_M := (yX5_init, cX5_init, 1, none)
abbrev m_X5_append : s_M := (yX5_append, cX5_append, 3, none)
abbrev m_X5_byteAt : s_M := (yX5_byteAt, cX5_byteAt, 2, (some .int))
abbrev m_X5_readText : s_M := (yX5_readText, cX5_readText, 5, (some .boolean))
abbrev m_X5_split : s_M := (yX5_split, cX5_split, 5, none)
abbrev m_X5_addToken : s_M := (yX5_addToken, cX5_addToken, 3, none)
abbrev m_X5_isLetter : s_M := (yX5_isLetter, cX5_isLetter, 1, (some .boolean))
abbrev m_X5_isDigit : s_M := (yX5_isDigit, cX5_isDigit, 1, (some .boolean))
abbrev m_X5_behindLetters : s_M := (yX5_behindLetters, cX5_behindLetters, 4, (some .int))
abbrev m_X5_behindDigits : s_M := (yX5_behindDigits, cX5_behindDigits, 4, (some .int))
abbrev m_X5_numberOf : s_M := (yX5_numberOf, cX5_numberOf, 5, (some .int))
abbrev m_X5_wordOf : s_M := (yX5_wordOf, cX5_wordOf, 6, (some .int))
abbrev m_X5_isWordAt : s_M := (yX5_isWordAt, cX5_isWordAt, 5, (some .boolean))
abbrev m_X5_token : s_M := (yX5_token, cX5_token, 1, (some .int))
abbrev m_X5_placeOfNext : s_M := (yX5_placeOfNext, cX5_placeOfNext, 1, (some .int))
abbrev m_X5_take : s_M := (yX5_take, cX5_take, 3, (some .boolean))
abbrev m_X5_pass : s_M := (yX5_pass, cX5_pass, 1, none)
abbrev m_X5_readLawHead : s_M := (yX5_readLawHead, cX5_readLawHead, 3, (some .boolean))
abbrev m_X5_readDriveHead : s_M := (yX5_readDriveHead, cX5_readDriveHead, 2, (some .boolean))
abbrev m_X5_readTimes : s_M := (yX5_readTimes, cX5_readTimes, 3, (some .boolean))
abbrev m_X5_readSumOf : s_M := (yX5_readSumOf, cX5_readSumOf, 4, (some .boolean))
abbrev m_X5_readTest : s_M := (yX5_readTest, cX5_readTest, 6, (some .boolean))
abbrev m_X5_readPlain : s_M := (yX5_readPlain, cX5_readPlain, 5, (some .boolean))
abbrev m_X5_relationOf : s_M := (yX5_relationOf, cX5_relationOf, 1, (some .int))
abbrev m_X5_readSum : s_M := (yX5_readSum, cX5_readSum, 6, (some .boolean))
abbrev m_X5_orderOf : s_M := (yX5_orderOf, cX5_orderOf, 1, (some .int))
abbrev m_X5_readPart : s_M := (yX5_readPart, cX5_readPart, 3, (some .boolean))
abbrev m_X5_readWord : s_M := (yX5_readWord, cX5_readWord, 5, (some .boolean))
abbrev m_X6_init : s_M := (yX6_init, cX6_init, 1, none)
abbrev m_X6_valueOf : s_M := (yX6_valueOf, cX6_valueOf, 10, (some .int))
abbrev m_X6_fetched : s_M := (yX6_fetched, cX6_fetched, 4, (some .int))
abbrev m_X6_joined : s_M := (yX6_joined, cX6_joined, 7, (some .int))
abbrev m_X7_init : s_M := (yX7_init, cX7_init, 3, none)
abbrev m_X7_clear : s_M := (yX7_clear, cX7_clear, 1, none)
abbrev m_X7_exactCopy : s_M := (yX7_exactCopy, cX7_exactCopy, 2, (some (.object "ShadowHerds$Script")))
abbrev m_X7_head : s_M := (yX7_head, cX7_head, 4, (some .int))
abbrev m_X7_setHead : s_M := (yX7_setHead, cX7_setHead, 5, none)
abbrev m_X7_addClause : s_M := (yX7_addClause, cX7_addClause, 2, none)
abbrev m_X7_emit : s_M := (yX7_emit, cX7_emit, 3, none)
abbrev m_X7_landHere : s_M := (yX7_landHere, cX7_landHere, 2, none)
abbrev m_X8_init : s_M := (yX8_init, cX8_init, 3, none)
abbrev m_X8_spotAt : s_M := (yX8_spotAt, cX8_spotAt, 2, (some .int))
abbrev m_X8_xOf : s_M := (yX8_xOf, cX8_xOf, 1, (some .int))
abbrev m_X8_yOf : s_M := (yX8_yOf, cX8_yOf, 1, (some .int))
abbrev m_X8_movedBy : s_M := (yX8_movedBy, cX8_movedBy, 5, (some .int))
abbrev m_X8_covers : s_M := (yX8_covers, cX8_covers, 6, (some .boolean))
abbrev m_X8_cornerSlot : s_M := (yX8_cornerSlot, cX8_cornerSlot, 3, (some .int))
abbrev m_X8_stepX : s_M := (yX8_stepX, cX8_stepX, 1, (some .int))
abbrev m_X8_stepY : s_M := (yX8_stepY, cX8_stepY, 1, (some .int))
abbrev m_X8_look : s_M := (yX8_look, cX8_look, 3, none)
abbrev m_X8_follow : s_M := (yX8_follow, cX8_follow, 3, none)
abbrev m_X8_hearFlags : s_M := (yX8_hearFlags, cX8_hearFlags, 3, none)
abbrev m_X8_tell : s_M := (yX8_tell, cX8_tell, 4, none)
abbrev m_X8_flagOf : s_M := (yX8_flagOf, cX8_flagOf, 3, (some .int))
abbrev m_X8_goOn : s_M := (yX8_goOn, cX8_goOn, 10, none)
abbrev m_X8_place : s_M := (yX8_place, cX8_place, 4, none)
abbrev m_X8_spotOf : s_M := (yX8_spotOf, cX8_spotOf, 3, (some .int))
abbrev m_X8_shadeOf : s_M := (yX8_shadeOf, cX8_shadeOf, 5, (some .int))
abbrev m_X8_breakOf : s_M := (yX8_breakOf, cX8_breakOf, 6, (some .int))
abbrev m_X8_sightsAreSo : s_M := (yX8_sightsAreSo, cX8_sightsAreSo, 4, (some .boolean))
abbrev m_X8_tellCorners : s_M := (yX8_tellCorners, cX8_tellCorners, 7, none)
abbrev m_X9_init : s_M := (yX9_init, cX9_init, 3, none)
abbrev m_X9_begin : s_M := (yX9_begin, cX9_begin, 2, none)
abbrev m_X9_heatOf : s_M := (yX9_heatOf, cX9_heatOf, 6, (some .int))
abbrev m_X9_isScorched : s_M := (yX9_isScorched, cX9_isScorched, 6, (some .boolean))
abbrev m_X9_changeOf : s_M := (yX9_changeOf, cX9_changeOf, 7, (some .int))
abbrev m_X9_daysOf : s_M := (yX9_daysOf, cX9_daysOf, 2, (some .int))
abbrev m_X9_lastSummer : s_M := (yX9_lastSummer, cX9_lastSummer, 6, (some .int))
abbrev m_X9_drawDay : s_M := (yX9_drawDay, cX9_drawDay, 4, none)
abbrev m_X9_drawOfTen : s_M := (yX9_drawOfTen, cX9_drawOfTen, 1, (some .int))
abbrev m_X10_init : s_M := (yX10_init, cX10_init, 2, none)
abbrev m_X10_strayed : s_M := (yX10_strayed, cX10_strayed, 7, (some .int))
abbrev m_X10_drift : s_M := (yX10_drift, cX10_drift, 7, none)
abbrev m_X10_isAsSeen : s_M := (yX10_isAsSeen, cX10_isAsSeen, 7, (some .boolean))
abbrev m_X10_rustlings : s_M := (yX10_rustlings, cX10_rustlings, 8, (some .int))
abbrev m_X10_fewestMen : s_M := (yX10_fewestMen, cX10_fewestMen, 6, (some .int))
abbrev m_X10_findNext : s_M := (yX10_findNext, cX10_findNext, 6, (some .boolean))
abbrev m_X10_canFollow : s_M := (yX10_canFollow, cX10_canFollow, 6, (some .boolean))
abbrev m_X11_init : s_M := (yX11_init, cX11_init, 1, none)
abbrev m_X11_put : s_M := (yX11_put, cX11_put, 5, (some .int))
abbrev m_X11_fact : s_M := (yX11_fact, cX11_fact, 3, (some .int))
abbrev m_X11_wind : s_M := (yX11_wind, cX11_wind, 4, (some .int))
abbrev m_X11_cloud : s_M := (yX11_cloud, cX11_cloud, 6, (some .int))
abbrev m_X11_of : s_M := (yX11_of, cX11_of, 3, (some .int))
abbrev m_X11_flag : s_M := (yX11_flag, cX11_flag, 5, (some .int))
abbrev m_X11_undo : s_M := (yX11_undo, cX11_undo, 1, (some .int))
abbrev m_X11_contract : s_M := (yX11_contract, cX11_contract, 6, (some .int))
abbrev m_X11_cancel : s_M := (yX11_cancel, cX11_cancel, 2, (some .int))
abbrev m_X11_terms : s_M := (yX11_terms, cX11_terms, 4, (some .int))
abbrev m_X11_sight : s_M := (yX11_sight, cX11_sight, 4, (some .int))
abbrev m_X11_forget : s_M := (yX11_forget, cX11_forget, 2, (some .int))
abbrev m_X11_image : s_M := (yX11_image, cX11_image, 2, (some .int))
abbrev m_X11_back : s_M := (yX11_back, cX11_back, 2, (some .int))
abbrev m_X11_count : s_M := (yX11_count, cX11_count, 2, (some .int))
abbrev m_X11_status : s_M := (yX11_status, cX11_status, 1, (some .int))
abbrev m_X11_feed : s_M := (yX11_feed, cX11_feed, 6, (some .int))
abbrev m_X11_end : s_M := (yX11_end, cX11_end, 2, (some .int))
abbrev m_X11_row : s_M := (yX11_row, cX11_row, 6, (some .int))
abbrev m_X11_haze : s_M := (yX11_haze, cX11_haze, 1, (some .int))
abbrev m_X11_law : s_M := (yX11_law, cX11_law, 2, (some .int))
abbrev m_X11_drives : s_M := (yX11_drives, cX11_drives, 5, (some .int))
abbrev m_X11_fault : s_M := (yX11_fault, cX11_fault, 1, (some .int))
abbrev m_X11_stopped : s_M := (yX11_stopped, cX11_stopped, 1, (some .int))
abbrev m_X11_force : s_M := (yX11_force, cX11_force, 3, (some .int))
abbrev m_X11_asks : s_M := (yX11_asks, cX11_asks, 5, (some .int))
abbrev m_X11_at : s_M := (yX11_at, cX11_at, 5, (some .int))
abbrev m_X11_dark : s_M := (yX11_dark, cX11_dark, 4, (some .int))
abbrev m_X11_heat : s_M := (yX11_heat, cX11_heat, 3, (some .int))
abbrev m_X11_scorched : s_M := (yX11_scorched, cX11_scorched, 4, (some .int))
abbrev m_X11_broken : s_M := (yX11_broken, cX11_broken, 2, (some .int))
abbrev m_X11_judge : s_M := (yX11_judge, cX11_judge, 7, (some .int))
abbrev m_X11_cross : s_M := (yX11_cross, cX11_cross, 6, (some .int))
abbrev m_X11_drive : s_M := (yX11_drive, cX11_drive, 6, (some .int))
abbrev m_X11_pasture : s_M := (yX11_pasture, cX11_pasture, 4, (some .int))
abbrev m_X11_serve : s_M := (yX11_serve, cX11_serve, 3, (some .int))
abbrev m_X11_part : s_M := (yX11_part, cX11_part, 3, (some .int))
abbrev m_X11_likely : s_M := (yX11_likely, cX11_likely, 4, (some .long))
abbrev m_X11_surest : s_M := (yX11_surest, cX11_surest, 4, (some .long))
abbrev m_X11_steer : s_M := (yX11_steer, cX11_steer, 7, (some .int))
abbrev m_X11_stray : s_M := (yX11_stray, cX11_stray, 5, (some .int))
abbrev m_X11_rustled : s_M := (yX11_rustled, cX11_rustled, 2, (some .int))
abbrev m_X11_men : s_M := (yX11_men, cX11_men, 1, (some .int))
abbrev m_X11_duel : s_M := (yX11_duel, cX11_duel, 5, (some .int))
abbrev m_X11_summer : s_M := (yX11_summer, cX11_summer, 3, (some .int))
abbrev m_X11_drawn : s_M := (yX11_drawn, cX11_drawn, 2, (some .int))
abbrev m_X11_refuse : s_M := (yX11_refuse, cX11_refuse, 3, (some .int))
abbrev m_X11_grant : s_M := (yX11_grant, cX11_grant, 2, (some .int))
abbrev m_X11_isOver : s_M := (yX11_isOver, cX11_isOver, 3, (some .boolean))
abbrev m_X11_within : s_M := (yX11_within, cX11_within, 3, (some .boolean))
abbrev m_X11_isHour : s_M := (yX11_isHour, cX11_isHour, 1, (some .boolean))
abbrev m_X11_isSpan : s_M := (yX11_isSpan, cX11_isSpan, 2, (some .boolean))
abbrev m_X11_runClause : s_M := (yX11_runClause, cX11_runClause, 8, (some .int))
abbrev m_X11_runOnce : s_M := (yX11_runOnce, cX11_runOnce, 12, (some .int))
abbrev m_X11_tellWords : s_M := (yX11_tellWords, cX11_tellWords, 3, none)
abbrev m_X12_init : s_M := (yX12_init, cX12_init, 2, none)
abbrev m_X12_in : s_M := (yX12_in, cX12_in, 6, (some .boolean))
abbrev m_X12_is : s_M := (yX12_is, cX12_is, 2, (some .boolean))
abbrev m_X12_within : s_M := (yX12_within, cX12_within, 4, (some .int))
abbrev m_X12_tell : s_M := (yX12_tell, cX12_tell, 2, (some .int))
abbrev m_X12_change : s_M := (yX12_change, cX12_change, 4, (some .int))
abbrev m_X12_image : s_M := (yX12_image, cX12_image, 3, (some .int))
abbrev m_X12_back : s_M := (yX12_back, cX12_back, 3, (some .int))
abbrev m_X12_isField : s_M := (yX12_isField, cX12_isField, 1, (some .boolean))
abbrev m_X12_isHour : s_M := (yX12_isHour, cX12_isHour, 1, (some .boolean))
abbrev m_X12_isPlace : s_M := (yX12_isPlace, cX12_isPlace, 1, (some .boolean))
abbrev m_X12_isCloud : s_M := (yX12_isCloud, cX12_isCloud, 2, (some .boolean))
abbrev m_X12_ofCloud : s_M := (yX12_ofCloud, cX12_ofCloud, 3, (some .int))
abbrev m_X12_ofField : s_M := (yX12_ofField, cX12_ofField, 3, (some .int))
abbrev m_X12_put : s_M := (yX12_put, cX12_put, 5, (some .int))
abbrev m_X12_fact : s_M := (yX12_fact, cX12_fact, 3, (some .int))
abbrev m_X12_wind : s_M := (yX12_wind, cX12_wind, 4, (some .int))
abbrev m_X12_isShape : s_M := (yX12_isShape, cX12_isShape, 3, (some .boolean))
abbrev m_X12_cloud : s_M := (yX12_cloud, cX12_cloud, 8, (some .int))
abbrev m_X12_of : s_M := (yX12_of, cX12_of, 3, (some .int))
abbrev m_X12_flagOf : s_M := (yX12_flagOf, cX12_flagOf, 5, (some .int))
abbrev m_X12_flag1 : s_M := (yX12_flag1, cX12_flag1, 5, (some .int))
abbrev m_X12_flag : s_M := (yX12_flag, cX12_flag, 4, (some .int))
abbrev m_X12_undo : s_M := (yX12_undo, cX12_undo, 1, (some .int))
abbrev m_X12_contract : s_M := (yX12_contract, cX12_contract, 8, (some .int))
abbrev m_X12_cancel : s_M := (yX12_cancel, cX12_cancel, 2, (some .int))
abbrev m_X12_terms : s_M := (yX12_terms, cX12_terms, 4, (some .int))
abbrev m_X12_row : s_M := (yX12_row, cX12_row, 4, (some .int))
abbrev m_X12_haze : s_M := (yX12_haze, cX12_haze, 1, (some .int))
abbrev m_X12_four : s_M := (yX12_four, cX12_four, 3, none)
abbrev m_X12_feed : s_M := (yX12_feed, cX12_feed, 6, (some .int))
abbrev m_X12_end : s_M := (yX12_end, cX12_end, 2, (some .int))
abbrev m_X12_isSmall : s_M := (yX12_isSmall, cX12_isSmall, 1, (some .boolean))
abbrev m_X12_isDigit : s_M := (yX12_isDigit, cX12_isDigit, 1, (some .boolean))
abbrev m_X12_begin : s_M := (yX12_begin, cX12_begin, 1, none)
abbrev m_X12_next : s_M := (yX12_next, cX12_next, 1, none)
abbrev m_X12_isWord : s_M := (yX12_isWord, cX12_isWord, 3, (some .boolean))
abbrev m_X12_isSign : s_M := (yX12_isSign, cX12_isSign, 2, (some .boolean))
abbrev m_X12_must : s_M := (yX12_must, cX12_must, 2, none)
abbrev m_X12_number : s_M := (yX12_number, cX12_number, 6, (some .int))
abbrev m_X12_fault : s_M := (yX12_fault, cX12_fault, 1, (some .int))
abbrev m_X12_emit : s_M := (yX12_emit, cX12_emit, 3, none)
abbrev m_X12_push : s_M := (yX12_push, cX12_push, 3, none)
abbrev m_X12_binds : s_M := (yX12_binds, cX12_binds, 1, (some .int))
abbrev m_X12_settle : s_M := (yX12_settle, cX12_settle, 2, none)
abbrev m_X12_inner : s_M := (yX12_inner, cX12_inner, 3, (some .int))
abbrev m_X12_isCompared : s_M := (yX12_isCompared, cX12_isCompared, 2, (some .boolean))
abbrev m_X12_partAt : s_M := (yX12_partAt, cX12_partAt, 3, (some .int))
abbrev m_X12_orderPartAt : s_M := (yX12_orderPartAt, cX12_orderPartAt, 3, (some .int))
abbrev m_X12_openBracket : s_M := (yX12_openBracket, cX12_openBracket, 2, none)
abbrev m_X12_leaf : s_M := (yX12_leaf, cX12_leaf, 4, none)
abbrev m_X12_readPart : s_M := (yX12_readPart, cX12_readPart, 5, (some .int))
abbrev m_X12_readPlain : s_M := (yX12_readPlain, cX12_readPlain, 1, (some .int))
abbrev m_X12_behindSum : s_M := (yX12_behindSum, cX12_behindSum, 4, (some .int))
abbrev m_X12_behindTest : s_M := (yX12_behindTest, cX12_behindTest, 2, (some .int))
abbrev m_X12_readExpression : s_M := (yX12_readExpression, cX12_readExpression, 3, none)
abbrev m_X12_beginText : s_M := (yX12_beginText, cX12_beginText, 2, none)
abbrev m_X12_endText : s_M := (yX12_endText, cX12_endText, 1, none)
abbrev m_X12_readLaw : s_M := (yX12_readLaw, cX12_readLaw, 4, none)
abbrev m_X12_law : s_M := (yX12_law, cX12_law, 3, (some .int))
abbrev m_X12_force : s_M := (yX12_force, cX12_force, 2, (some .int))
abbrev m_X12_reckon : s_M := (yX12_reckon, cX12_reckon, 6, (some .long))
abbrev m_X12_reckonAll : s_M := (yX12_reckonAll, cX12_reckonAll, 7, none)
abbrev m_X12_toldOf : s_M := (yX12_toldOf, cX12_toldOf, 5, (some .long))
abbrev m_X12_isSo : s_M := (yX12_isSo, cX12_isSo, 2, (some .boolean))
abbrev m_X12_tells : s_M := (yX12_tells, cX12_tells, 14, (some .long))
abbrev m_X12_fieldTells : s_M := (yX12_fieldTells, cX12_fieldTells, 7, (some .int))
abbrev m_X12_cornerAt : s_M := (yX12_cornerAt, cX12_cornerAt, 2, (some .int))
abbrev m_X12_xOf : s_M := (yX12_xOf, cX12_xOf, 1, (some .int))
abbrev m_X12_yOf : s_M := (yX12_yOf, cX12_yOf, 1, (some .int))
abbrev m_X12_stepX : s_M := (yX12_stepX, cX12_stepX, 1, (some .int))
abbrev m_X12_stepY : s_M := (yX12_stepY, cX12_stepY, 1, (some .int))
abbrev m_X12_isWet : s_M := (yX12_isWet, cX12_isWet, 4, (some .boolean))
abbrev m_X12_isBarred : s_M := (yX12_isBarred, cX12_isBarred, 4, (some .boolean))
abbrev m_X12_helps : s_M := (yX12_helps, cX12_helps, 4, (some .boolean))
abbrev m_X12_goes : s_M := (yX12_goes, cX12_goes, 10, (some .int))
abbrev m_X12_goOn : s_M := (yX12_goOn, cX12_goOn, 7, (some .int))
abbrev m_X12_beginsAt : s_M := (yX12_beginsAt, cX12_beginsAt, 2, (some .int))
abbrev m_X12_cornerOf : s_M := (yX12_cornerOf, cX12_cornerOf, 5, (some .int))
abbrev m_X12_covers : s_M := (yX12_covers, cX12_covers, 6, (some .boolean))
abbrev m_X12_shades : s_M := (yX12_shades, cX12_shades, 4, (some .boolean))
abbrev m_X12_layCorners : s_M := (yX12_layCorners, cX12_layCorners, 4, none)
abbrev m_X12_shadeOf : s_M := (yX12_shadeOf, cX12_shadeOf, 5, (some .int))
abbrev m_X12_asks : s_M := (yX12_asks, cX12_asks, 5, (some .int))
abbrev m_X12_at : s_M := (yX12_at, cX12_at, 5, (some .int))
abbrev m_X12_dark : s_M := (yX12_dark, cX12_dark, 4, (some .int))
abbrev m_X12_layHeat : s_M := (yX12_layHeat, cX12_layHeat, 5, none)
abbrev m_X12_isScorched : s_M := (yX12_isScorched, cX12_isScorched, 4, (some .boolean))
abbrev m_X12_heat : s_M := (yX12_heat, cX12_heat, 3, (some .int))
abbrev m_X12_scorched : s_M := (yX12_scorched, cX12_scorched, 4, (some .int))
abbrev m_X12_ofContract : s_M := (yX12_ofContract, cX12_ofContract, 3, (some .int))
abbrev m_X12_brokenIn : s_M := (yX12_brokenIn, cX12_brokenIn, 3, (some .int))
abbrev m_X12_broken : s_M := (yX12_broken, cX12_broken, 2, (some .int))
abbrev m_X12_judge : s_M := (yX12_judge, cX12_judge, 7, (some .int))
abbrev m_X12_layWorks : s_M := (yX12_layWorks, cX12_layWorks, 4, none)
abbrev m_X12_nextOf : s_M := (yX12_nextOf, cX12_nextOf, 6, (some .int))
abbrev m_X12_fewestBy : s_M := (yX12_fewestBy, cX12_fewestBy, 7, (some .int))
abbrev m_X12_findDrive : s_M := (yX12_findDrive, cX12_findDrive, 10, none)
abbrev m_X12_drive : s_M := (yX12_drive, cX12_drive, 9, (some .int))
abbrev m_X12_worthAt : s_M := (yX12_worthAt, cX12_worthAt, 9, (some .int))
abbrev m_X12_pastureBy : s_M := (yX12_pastureBy, cX12_pastureBy, 8, (some .int))
abbrev m_X12_findPasture : s_M := (yX12_findPasture, cX12_findPasture, 9, none)
abbrev m_X12_pasture : s_M := (yX12_pasture, cX12_pasture, 9, (some .int))
abbrev m_X12_serves : s_M := (yX12_serves, cX12_serves, 7, (some .boolean))
abbrev m_X12_isOver : s_M := (yX12_isOver, cX12_isOver, 5, (some .boolean))
abbrev m_X12_canServe : s_M := (yX12_canServe, cX12_canServe, 8, (some .boolean))
abbrev m_X12_serve : s_M := (yX12_serve, cX12_serve, 9, (some .int))
abbrev m_X12_common : s_M := (yX12_common, cX12_common, 7, (some .int))
abbrev m_X12_cross : s_M := (yX12_cross, cX12_cross, 6, (some .int))
abbrev m_X12_part : s_M := (yX12_part, cX12_part, 9, (some .int))
abbrev m_X12_likely : s_M := (yX12_likely, cX12_likely, 12, (some .long))
abbrev m_X12_chanceBy : s_M := (yX12_chanceBy, cX12_chanceBy, 8, (some .long))
abbrev m_X12_findSurest : s_M := (yX12_findSurest, cX12_findSurest, 11, none)
abbrev m_X12_surest : s_M := (yX12_surest, cX12_surest, 7, (some .long))
abbrev m_X12_steer : s_M := (yX12_steer, cX12_steer, 9, (some .int))
abbrev m_X12_sight : s_M := (yX12_sight, cX12_sight, 5, (some .int))
abbrev m_X12_forget : s_M := (yX12_forget, cX12_forget, 2, (some .int))
abbrev m_X12_isStray : s_M := (yX12_isStray, cX12_isStray, 9, (some .boolean))
abbrev m_X12_stray : s_M := (yX12_stray, cX12_stray, 7, (some .int))
abbrev m_X12_areSo : s_M := (yX12_areSo, cX12_areSo, 4, (some .boolean))
abbrev m_X12_layWith : s_M := (yX12_layWith, cX12_layWith, 6, none)
abbrev m_X12_rustled : s_M := (yX12_rustled, cX12_rustled, 7, (some .int))
abbrev m_X12_away : s_M := (yX12_away, cX12_away, 1, (some .int))
abbrev m_X12_canGoOn : s_M := (yX12_canGoOn, cX12_canGoOn, 4, (some .boolean))
abbrev m_X12_augment : s_M := (yX12_augment, cX12_augment, 5, (some .boolean))
abbrev m_X12_men : s_M := (yX12_men, cX12_men, 4, (some .int))
abbrev m_X12_isWon : s_M := (yX12_isWon, cX12_isWon, 9, (some .boolean))
abbrev m_X12_duel : s_M := (yX12_duel, cX12_duel, 9, (some .int))
abbrev m_X12_readSum : s_M := (yX12_readSum, cX12_readSum, 2, none)
abbrev m_X12_readBehind : s_M := (yX12_readBehind, cX12_readBehind, 4, none)
abbrev m_X12_readDrive : s_M := (yX12_readDrive, cX12_readDrive, 3, none)
abbrev m_X12_sumOf : s_M := (yX12_sumOf, cX12_sumOf, 2, (some .long))
abbrev m_X12_run : s_M := (yX12_run, cX12_run, 8, (some .int))
abbrev m_X12_drives : s_M := (yX12_drives, cX12_drives, 5, (some .int))
abbrev m_X12_stopped : s_M := (yX12_stopped, cX12_stopped, 1, (some .int))
abbrev m_X12_draw : s_M := (yX12_draw, cX12_draw, 2, (some .int))
abbrev m_X12_drawDay : s_M := (yX12_drawDay, cX12_drawDay, 4, none)
abbrev m_X12_summer : s_M := (yX12_summer, cX12_summer, 7, (some .int))
abbrev m_X12_drawn : s_M := (yX12_drawn, cX12_drawn, 2, (some .int))
abbrev m_X12_count : s_M := (yX12_count, cX12_count, 2, (some .int))
abbrev m_X12_status : s_M := (yX12_status, cX12_status, 1, (some .int))
theorem cl_L_7 : s_Nw RL 7 11 18 [.null, .null, .null, .null, .null, .null, .null, .null, .null, .null, .null, .null, .null, .int 0, .int 0, .int 0, .int 0, .int 0] := ⟨RX11, TX11, tyX11, rfl, tyX11_ok, by decide +kernel, wd_164, wd_165, wd_145⟩
theorem ck_L_7 : Cond.classLink RL 7 "ShadowHerds" ∈ s_tb := wd_164
theorem md_X11_init : (m_X11_init.1.cls ≠ "java/lang/invoke/MethodHandle" ∧ m_X11_init.1.cls ≠ "java/lang/invoke/VarHandle" ∧ (parseMethodDescriptor m_X11_init.1.desc).map (fun d => d.parameters.length) = some 0) ∧ m_X11_init.2.2.1 ≤ 22 := ⟨⟨by decide +kernel, by decide +kernel, by decide +kernel⟩, by decide⟩
theorem ml_L_9 : s_MI RL 9 m_X11_init 0 := ⟨Or.inl (wd_166), wd_167, wd_145, wd_168, rfl, rfl, md_X11_init.1, md_X11_init.2⟩
theorem ml_X11_3 : Cond.methodLink RX11 3 objectInit ∈ s_tb ∧ Cond.instanceMethod objectInit ∈ s_tb ∧ Cond.code objectInit ⟨#[0xb1]⟩ 1 none ∈ s_tb := ⟨wd_169, wd_170, wd_171⟩
theorem cl_X11_9 : s_Nw RX11 9 3 15 [.null, .null, .null, .null, .null, .null, .null, .null, .null, .int 0, .int 0, .int 0, .int 0, .int 0, .int 0] := ⟨RX3, TX3, tyX3, rfl, tyX3_ok, by decide +kernel, wd_172, wd_173, wd_146⟩
theorem ck_X11_9 : Cond.classLink RX11 9 "ShadowHerds$Plain" ∈ s_tb := wd_172
theorem md_X3_init : (m_X3_init.1.cls ≠ "java/lang/invoke/MethodHandle" ∧ m_X3_init.1.cls ≠ "java/lang/invoke/VarHandle" ∧ (parseMethodDescriptor m_X3_init.1.desc).map (fun d => d.parameters.length) = some 0) ∧ m_X3_init.2.2.1 ≤ 22 := ⟨⟨by decide +kernel, by decide +kernel, by decide +kernel⟩, by decide⟩
theorem ml_X11_11 : s_MI RX11 11 m_X3_init 0 := ⟨Or.inl (wd_174), wd_175, wd_146, wd_176, rfl, rfl, md_X3_init.1, md_X3_init.2⟩
theorem ml_X3_3 : Cond.methodLink RX3 3 objectInit ∈ s_tb ∧ Cond.instanceMethod objectInit ∈ s_tb ∧ Cond.code objectInit ⟨#[0xb1]⟩ 1 none ∈ s_tb := ⟨wd_177, wd_170, wd_171⟩
theorem cl_X3_36 : s_Nw RX3 36 7 5 [.null, .null, .int 0, .int 0, .int 0] := ⟨RX7, TX7, tyX7, rfl, tyX7_ok, by decide +kernel, wd_178, wd_256, wd_148⟩
theorem ck_X3_36 : Cond.classLink RX3 36 "ShadowHerds$Script" ∈ s_tb := wd_178
theorem fl_X3_9 : s_Fl RX3 9 3 0 (.array .int) true := ⟨_, _, _, rfl, by decide, by decide +kernel, rfl, wd_180, rfl⟩
theorem fl_X3_15 : s_Fl RX3 15 3 1 (.array .int) true := ⟨_, _, _, rfl, by decide, by decide +kernel, rfl, wd_181, rfl⟩
theorem fl_X10_43 : s_Fl RX10 43 3 1 (.array .int) true := ⟨_, _, _, rfl, by decide, by decide +kernel, rfl, wd_182, rfl⟩
theorem fl_X11_138 : s_Fl RX11 138 3 1 (.array .int) true := ⟨_, _, _, rfl, by decide, by decide +kernel, rfl, wd_183, rfl⟩
theorem fl_X3_18 : s_Fl RX3 18 3 2 (.array .int) true := ⟨_, _, _, rfl, by decide, by decide +kernel, rfl, wd_184, rfl⟩
theorem fl_X10_48 : s_Fl RX10 48 3 2 (.array .int) true := ⟨_, _, _, rfl, by decide, by decide +kernel, rfl, wd_185, rfl⟩
theorem fl_X11_141 : s_Fl RX11 141 3 2 (.array .int) true := ⟨_, _, _, rfl, by decide, by decide +kernel, rfl, wd_186, rfl⟩
theorem fl_X3_21 : s_Fl RX3 21 3 3 (.array .int) true := ⟨_, _, _, rfl, by decide, by decide +kernel, rfl, wd_187, rfl⟩
theorem fl_X3_24 : s_Fl RX3 24 3 4 (.array .int) true := ⟨_, _, _, rfl, by decide, by decide +kernel, rfl, wd_188, rfl⟩
theorem fl_X3_27 : s_Fl RX3 27 3 5 (.array .int) true := ⟨_, _, _, rfl, by decide, by decide +kernel, rfl, wd_189, rfl⟩
theorem fl_X3_30 : s_Fl RX3 30 3 6 (.array .int) true := ⟨_, _, _, rfl, by decide, by decide +kernel, rfl, wd_190, rfl⟩
theorem fl_X3_33 : s_Fl RX3 33 3 7 (.array .int) true := ⟨_, _, _, rfl, by decide, by decide +kernel, rfl, wd_191, rfl⟩
theorem fl_X1_36 : s_Fl RX1 36 3 7 (.array .int) true := ⟨_, _, _, rfl, by decide, by decide +kernel, rfl, wd_192, rfl⟩
theorem fl_X0_65 : s_Fl RX0 65 3 7 (.array .int) true := ⟨_, _, _, rfl, by decide, by decide +kernel, rfl, wd_193, rfl⟩
theorem fl_X9_108 : s_Fl RX9 108 3 7 (.array .int) true := ⟨_, _, _, rfl, by decide, by decide +kernel, rfl, wd_194, rfl⟩
theorem fl_X11_182 : s_Fl RX11 182 3 7 (.array .int) true := ⟨_, _, _, rfl, by decide, by decide +kernel, rfl, wd_195, rfl⟩
theorem fl_X3_38 : s_Fl RX3 38 3 8 (.array (.object "ShadowHerds$Script")) true := ⟨_, _, _, rfl, by decide, by decide +kernel, rfl, wd_196, rfl⟩
theorem fl_X3_42 : s_Fl RX3 42 3 9 .int false := ⟨_, _, _, rfl, by decide, by decide +kernel, rfl, wd_197, rfl⟩
theorem fl_X11_147 : s_Fl RX11 147 3 9 .int false := ⟨_, _, _, rfl, by decide, by decide +kernel, rfl, wd_198, rfl⟩
theorem fl_X9_90 : s_Fl RX9 90 3 9 .int false := ⟨_, _, _, rfl, by decide, by decide +kernel, rfl, wd_199, rfl⟩
theorem fl_X8_46 : s_Fl RX8 46 3 9 .int false := ⟨_, _, _, rfl, by decide, by decide +kernel, rfl, wd_200, rfl⟩
theorem fl_X3_46 : s_Fl RX3 46 3 10 .int false := ⟨_, _, _, rfl, by decide, by decide +kernel, rfl, wd_201, rfl⟩
theorem fl_X10_91 : s_Fl RX10 91 3 10 .int false := ⟨_, _, _, rfl, by decide, by decide +kernel, rfl, wd_202, rfl⟩
theorem fl_X11_164 : s_Fl RX11 164 3 10 .int false := ⟨_, _, _, rfl, by decide, by decide +kernel, rfl, wd_203, rfl⟩
theorem fl_X8_63 : s_Fl RX8 63 3 10 .int false := ⟨_, _, _, rfl, by decide, by decide +kernel, rfl, wd_204, rfl⟩
theorem fl_X3_49 : s_Fl RX3 49 3 11 .int false := ⟨_, _, _, rfl, by decide, by decide +kernel, rfl, wd_205, rfl⟩
theorem fl_X11_173 : s_Fl RX11 173 3 11 .int false := ⟨_, _, _, rfl, by decide, by decide +kernel, rfl, wd_206, rfl⟩
theorem fl_X4_160 : s_Fl RX4 160 3 11 .int false := ⟨_, _, _, rfl, by decide, by decide +kernel, rfl, wd_207, rfl⟩
theorem fl_X3_52 : s_Fl RX3 52 3 12 .int false := ⟨_, _, _, rfl, by decide, by decide +kernel, rfl, wd_208, rfl⟩
theorem fl_X10_57 : s_Fl RX10 57 3 12 .int false := ⟨_, _, _, rfl, by decide, by decide +kernel, rfl, wd_209, rfl⟩
theorem fl_X11_189 : s_Fl RX11 189 3 12 .int false := ⟨_, _, _, rfl, by decide, by decide +kernel, rfl, wd_210, rfl⟩
theorem fl_X8_113 : s_Fl RX8 113 3 12 .int false := ⟨_, _, _, rfl, by decide, by decide +kernel, rfl, wd_211, rfl⟩
theorem fl_X3_55 : s_Fl RX3 55 3 13 .int false := ⟨_, _, _, rfl, by decide, by decide +kernel, rfl, wd_212, rfl⟩
theorem fl_X11_198 : s_Fl RX11 198 3 13 .int false := ⟨_, _, _, rfl, by decide, by decide +kernel, rfl, wd_213, rfl⟩
theorem fl_X3_58 : s_Fl RX3 58 3 14 .int false := ⟨_, _, _, rfl, by decide, by decide +kernel, rfl, wd_214, rfl⟩
theorem fl_X11_204 : s_Fl RX11 204 3 14 .int false := ⟨_, _, _, rfl, by decide, by decide +kernel, rfl, wd_215, rfl⟩
theorem cl_X11_24 : s_Nw RX11 24 5 10 [.null, .null, .null, .null, .int 0, .int 0, .int 0, .int 0, .int 0, .int 0] := ⟨RX5, TX5, tyX5, rfl, tyX5_ok, by decide +kernel, wd_249, wd_250, wd_147⟩
theorem ck_X11_24 : Cond.classLink RX11 24 "ShadowHerds$Reader" ∈ s_tb := wd_249
theorem md_X5_init : (m_X5_init.1.cls ≠ "java/lang/invoke/MethodHandle" ∧ m_X5_init.1.cls ≠ "java/lang/invoke/VarHandle" ∧ (parseMethodDescriptor m_X5_init.1.desc).map (fun d => d.parameters.length) = some 0) ∧ m_X5_init.2.2.1 ≤ 22 := ⟨⟨by decide +kernel, by decide +kernel, by decide +kernel⟩, by decide⟩
theorem ml_X11_26 : s_MI RX11 26 m_X5_init 0 := ⟨Or.inr ⟨_, wn_251⟩, wd_252, wd_147, wd_253, rfl, rfl, md_X5_init.1, md_X5_init.2⟩
theorem ml_X5_3 : Cond.methodLink RX5 3 objectInit ∈ s_tb ∧ Cond.instanceMethod objectInit ∈ s_tb ∧ Cond.code objectInit ⟨#[0xb1]⟩ 1 none ∈ s_tb := ⟨wd_254, wd_170, wd_171⟩
theorem cl_X5_21 : s_Nw RX5 21 7 5 [.null, .null, .int 0, .int 0, .int 0] := ⟨RX7, TX7, tyX7, rfl, tyX7_ok, by decide +kernel, wd_255, wd_256, wd_148⟩
theorem ck_X5_21 : Cond.classLink RX5 21 "ShadowHerds$Script" ∈ s_tb := wd_255
theorem md_X7_init : (m_X7_init.1.cls ≠ "java/lang/invoke/MethodHandle" ∧ m_X7_init.1.cls ≠ "java/lang/invoke/VarHandle" ∧ (parseMethodDescriptor m_X7_init.1.desc).map (fun d => d.parameters.length) = some 2) ∧ m_X7_init.2.2.1 ≤ 22 := ⟨⟨by decide +kernel, by decide +kernel, by decide +kernel⟩, by decide⟩
theorem ml_X5_23 : s_MI RX5 23 m_X7_init 2 := ⟨Or.inl (wd_257), wd_258, wd_148, wd_259, rfl, rfl, md_X7_init.1, md_X7_init.2⟩
theorem ml_X7_3 : Cond.methodLink RX7 3 objectInit ∈ s_tb ∧ Cond.instanceMethod objectInit ∈ s_tb ∧ Cond.code objectInit ⟨#[0xb1]⟩ 1 none ∈ s_tb := ⟨wd_260, wd_170, wd_171⟩
theorem ml_X7_9 : s_J_max RX7 9 := ⟨wd_261, wd_262, wd_149, wd_263⟩
theorem fl_X7_17 : s_Fl RX7 17 7 0 (.array .int) true := ⟨_, _, _, rfl, by decide, by decide +kernel, rfl, wd_264, rfl⟩
theorem fl_X7_21 : s_Fl RX7 21 7 1 (.array .int) true := ⟨_, _, _, rfl, by decide, by decide +kernel, rfl, wd_265, rfl⟩
theorem fl_X6_23 : s_Fl RX6 23 7 1 (.array .int) true := ⟨_, _, _, rfl, by decide, by decide +kernel, rfl, wd_266, rfl⟩
theorem fl_X7_24 : s_Fl RX7 24 7 2 .int false := ⟨_, _, _, rfl, by decide, by decide +kernel, rfl, wd_267, rfl⟩
theorem fl_X0_72 : s_Fl RX0 72 7 2 .int false := ⟨_, _, _, rfl, by decide, by decide +kernel, rfl, wd_268, rfl⟩
theorem fl_X11_232 : s_Fl RX11 232 7 2 .int false := ⟨_, _, _, rfl, by decide, by decide +kernel, rfl, wd_269, rfl⟩
theorem fl_X7_28 : s_Fl RX7 28 7 3 .int false := ⟨_, _, _, rfl, by decide, by decide +kernel, rfl, wd_270, rfl⟩
theorem fl_X5_69 : s_Fl RX5 69 7 3 .int false := ⟨_, _, _, rfl, by decide, by decide +kernel, rfl, wd_271, rfl⟩
theorem fl_X7_31 : s_Fl RX7 31 7 4 .boolean false := ⟨_, _, _, rfl, by decide, by decide +kernel, rfl, wd_272, rfl⟩
theorem fl_X5_171 : s_Fl RX5 171 7 4 .boolean false := ⟨_, _, _, rfl, by decide, by decide +kernel, rfl, wd_273, rfl⟩
theorem fl_X11_353 : s_Fl RX11 353 7 4 .boolean false := ⟨_, _, _, rfl, by decide, by decide +kernel, rfl, wd_274, rfl⟩
theorem fl_X5_9 : s_Fl RX5 9 5 0 (.array .int) true := ⟨_, _, _, rfl, by decide, by decide +kernel, rfl, wd_287, rfl⟩
theorem fl_X5_15 : s_Fl RX5 15 5 1 (.array .int) true := ⟨_, _, _, rfl, by decide, by decide +kernel, rfl, wd_288, rfl⟩
theorem fl_X5_18 : s_Fl RX5 18 5 2 (.array .int) true := ⟨_, _, _, rfl, by decide, by decide +kernel, rfl, wd_289, rfl⟩
theorem fl_X5_26 : s_Fl RX5 26 5 3 (.object "ShadowHerds$Script") true := ⟨_, _, _, rfl, by decide, by decide +kernel, rfl, wd_290, rfl⟩
theorem fl_X11_218 : s_Fl RX11 218 5 3 (.object "ShadowHerds$Script") true := ⟨_, _, _, rfl, by decide, by decide +kernel, rfl, wd_291, rfl⟩
theorem fl_X5_30 : s_Fl RX5 30 5 4 .int false := ⟨_, _, _, rfl, by decide, by decide +kernel, rfl, wd_292, rfl⟩
theorem fl_X11_201 : s_Fl RX11 201 5 4 .int false := ⟨_, _, _, rfl, by decide, by decide +kernel, rfl, wd_293, rfl⟩
theorem fl_X5_34 : s_Fl RX5 34 5 5 .int false := ⟨_, _, _, rfl, by decide, by decide +kernel, rfl, wd_294, rfl⟩
theorem fl_X5_37 : s_Fl RX5 37 5 6 .int false := ⟨_, _, _, rfl, by decide, by decide +kernel, rfl, wd_295, rfl⟩
theorem fl_X5_40 : s_Fl RX5 40 5 7 .int false := ⟨_, _, _, rfl, by decide, by decide +kernel, rfl, wd_296, rfl⟩
theorem fl_X5_43 : s_Fl RX5 43 5 8 .int false := ⟨_, _, _, rfl, by decide, by decide +kernel, rfl, wd_297, rfl⟩
theorem fl_X11_239 : s_Fl RX11 239 5 8 .int false := ⟨_, _, _, rfl, by decide, by decide +kernel, rfl, wd_298, rfl⟩
theorem fl_X5_46 : s_Fl RX5 46 5 9 .boolean false := ⟨_, _, _, rfl, by decide, by decide +kernel, rfl, wd_299, rfl⟩
theorem cl_X11_31 : s_Nw RX11 31 6 3 [.null, .null, .null] := ⟨RX6, TX6, tyX6, rfl, tyX6_ok, by decide +kernel, wd_321, wd_322, wd_150⟩
theorem ck_X11_31 : Cond.classLink RX11 31 "ShadowHerds$Reckoner" ∈ s_tb := wd_321
theorem md_X6_init : (m_X6_init.1.cls ≠ "java/lang/invoke/MethodHandle" ∧ m_X6_init.1.cls ≠ "java/lang/invoke/VarHandle" ∧ (parseMethodDescriptor m_X6_init.1.desc).map (fun d => d.parameters.length) = some 0) ∧ m_X6_init.2.2.1 ≤ 22 := ⟨⟨by decide +kernel, by decide +kernel, by decide +kernel⟩, by decide⟩
theorem ml_X11_33 : s_MI RX11 33 m_X6_init 0 := ⟨Or.inr ⟨_, wn_323⟩, wd_324, wd_150, wd_325, rfl, rfl, md_X6_init.1, md_X6_init.2⟩
theorem ml_X6_5 : Cond.methodLink RX6 5 objectInit ∈ s_tb ∧ Cond.instanceMethod objectInit ∈ s_tb ∧ Cond.code objectInit ⟨#[0xb1]⟩ 1 none ∈ s_tb := ⟨wd_326, wd_170, wd_171⟩
theorem fl_X6_11 : s_Fl RX6 11 6 0 (.array .int) true := ⟨_, _, _, rfl, by decide, by decide +kernel, rfl, wd_327, rfl⟩
theorem fl_X0_45 : s_Fl RX0 45 6 0 (.array .int) true := ⟨_, _, _, rfl, by decide, by decide +kernel, rfl, wd_328, rfl⟩
theorem fl_X11_374 : s_Fl RX11 374 6 0 (.array .int) true := ⟨_, _, _, rfl, by decide, by decide +kernel, rfl, wd_329, rfl⟩
theorem fl_X6_17 : s_Fl RX6 17 6 1 (.array .int) true := ⟨_, _, _, rfl, by decide, by decide +kernel, rfl, wd_330, rfl⟩
theorem fl_X11_357 : s_Fl RX11 357 6 1 (.array .int) true := ⟨_, _, _, rfl, by decide, by decide +kernel, rfl, wd_331, rfl⟩
theorem fl_X6_20 : s_Fl RX6 20 6 2 (.array .int) true := ⟨_, _, _, rfl, by decide, by decide +kernel, rfl, wd_332, rfl⟩
theorem cl_X11_38 : s_Nw RX11 38 0 2 [.null, .null] := ⟨RX0, TX0, tyX0, rfl, tyX0_ok, by decide +kernel, wd_340, wd_341, wd_151⟩
theorem ck_X11_38 : Cond.classLink RX11 38 "ShadowHerds$Climate" ∈ s_tb := wd_340
theorem md_X0_init : (m_X0_init.1.cls ≠ "java/lang/invoke/MethodHandle" ∧ m_X0_init.1.cls ≠ "java/lang/invoke/VarHandle" ∧ (parseMethodDescriptor m_X0_init.1.desc).map (fun d => d.parameters.length) = some 1) ∧ m_X0_init.2.2.1 ≤ 22 := ⟨⟨by decide +kernel, by decide +kernel, by decide +kernel⟩, by decide⟩
theorem ml_X11_40 : s_MI RX11 40 m_X0_init 1 := ⟨Or.inl (wd_342), wd_343, wd_151, wd_344, rfl, rfl, md_X0_init.1, md_X0_init.2⟩
theorem ml_X0_3 : Cond.methodLink RX0 3 objectInit ∈ s_tb ∧ Cond.instanceMethod objectInit ∈ s_tb ∧ Cond.code objectInit ⟨#[0xb1]⟩ 1 none ∈ s_tb := ⟨wd_345, wd_170, wd_171⟩
theorem cl_X0_9 : s_Nw RX0 9 6 3 [.null, .null, .null] := ⟨RX6, TX6, tyX6, rfl, tyX6_ok, by decide +kernel, wd_346, wd_322, wd_150⟩
theorem ck_X0_9 : Cond.classLink RX0 9 "ShadowHerds$Reckoner" ∈ s_tb := wd_346
theorem ml_X0_11 : s_MI RX0 11 m_X6_init 0 := ⟨Or.inr ⟨_, wn_347⟩, wd_324, wd_150, wd_325, rfl, rfl, md_X6_init.1, md_X6_init.2⟩
theorem fl_X0_18 : s_Fl RX0 18 0 0 (.object "ShadowHerds$Plain") true := ⟨_, _, _, rfl, by decide, by decide +kernel, rfl, wd_348, rfl⟩
theorem fl_X0_12 : s_Fl RX0 12 0 1 (.object "ShadowHerds$Reckoner") true := ⟨_, _, _, rfl, by decide, by decide +kernel, rfl, wd_349, rfl⟩
theorem cl_X11_47 : s_Nw RX11 47 8 4 [.null, .null, .null, .null] := ⟨RX8, TX8, tyX8, rfl, tyX8_ok, by decide +kernel, wd_355, wd_356, wd_152⟩
theorem ck_X11_47 : Cond.classLink RX11 47 "ShadowHerds$Sky" ∈ s_tb := wd_355
theorem md_X8_init : (m_X8_init.1.cls ≠ "java/lang/invoke/MethodHandle" ∧ m_X8_init.1.cls ≠ "java/lang/invoke/VarHandle" ∧ (parseMethodDescriptor m_X8_init.1.desc).map (fun d => d.parameters.length) = some 2) ∧ m_X8_init.2.2.1 ≤ 22 := ⟨⟨by decide +kernel, by decide +kernel, by decide +kernel⟩, by decide⟩
theorem ml_X11_49 : s_MI RX11 49 m_X8_init 2 := ⟨Or.inl (wd_357), wd_358, wd_152, wd_359, rfl, rfl, md_X8_init.1, md_X8_init.2⟩
theorem ml_X8_3 : Cond.methodLink RX8 3 objectInit ∈ s_tb ∧ Cond.instanceMethod objectInit ∈ s_tb ∧ Cond.code objectInit ⟨#[0xb1]⟩ 1 none ∈ s_tb := ⟨wd_360, wd_170, wd_171⟩
theorem fl_X8_18 : s_Fl RX8 18 8 0 (.object "ShadowHerds$Plain") true := ⟨_, _, _, rfl, by decide, by decide +kernel, rfl, wd_361, rfl⟩
theorem fl_X8_22 : s_Fl RX8 22 8 1 (.object "ShadowHerds$Climate") true := ⟨_, _, _, rfl, by decide, by decide +kernel, rfl, wd_362, rfl⟩
theorem fl_X8_9 : s_Fl RX8 9 8 2 (.array .int) true := ⟨_, _, _, rfl, by decide, by decide +kernel, rfl, wd_363, rfl⟩
theorem fl_X8_15 : s_Fl RX8 15 8 3 (.array .int) true := ⟨_, _, _, rfl, by decide, by decide +kernel, rfl, wd_364, rfl⟩
theorem cl_X11_56 : s_Nw RX11 56 9 7 [.null, .null, .null, .null, .null, .int 0, .int 0] := ⟨RX9, TX9, tyX9, rfl, tyX9_ok, by decide +kernel, wd_374, wd_375, wd_153⟩
theorem ck_X11_56 : Cond.classLink RX11 56 "ShadowHerds$Warmth" ∈ s_tb := wd_374
theorem md_X9_init : (m_X9_init.1.cls ≠ "java/lang/invoke/MethodHandle" ∧ m_X9_init.1.cls ≠ "java/lang/invoke/VarHandle" ∧ (parseMethodDescriptor m_X9_init.1.desc).map (fun d => d.parameters.length) = some 2) ∧ m_X9_init.2.2.1 ≤ 22 := ⟨⟨by decide +kernel, by decide +kernel, by decide +kernel⟩, by decide⟩
theorem ml_X11_58 : s_MI RX11 58 m_X9_init 2 := ⟨Or.inl (wd_376), wd_377, wd_153, wd_378, rfl, rfl, md_X9_init.1, md_X9_init.2⟩
theorem ml_X9_5 : Cond.methodLink RX9 5 objectInit ∈ s_tb ∧ Cond.instanceMethod objectInit ∈ s_tb ∧ Cond.code objectInit ⟨#[0xb1]⟩ 1 none ∈ s_tb := ⟨wd_379, wd_170, wd_171⟩
theorem cl_X9_36 : s_Nw RX9 36 8 4 [.null, .null, .null, .null] := ⟨RX8, TX8, tyX8, rfl, tyX8_ok, by decide +kernel, wd_380, wd_356, wd_152⟩
theorem ck_X9_36 : Cond.classLink RX9 36 "ShadowHerds$Sky" ∈ s_tb := wd_380
theorem ml_X9_38 : s_MI RX9 38 m_X8_init 2 := ⟨Or.inl (wd_381), wd_358, wd_152, wd_359, rfl, rfl, md_X8_init.1, md_X8_init.2⟩
theorem fl_X9_28 : s_Fl RX9 28 9 0 (.object "ShadowHerds$Plain") true := ⟨_, _, _, rfl, by decide, by decide +kernel, rfl, wd_382, rfl⟩
theorem fl_X9_32 : s_Fl RX9 32 9 1 (.object "ShadowHerds$Climate") true := ⟨_, _, _, rfl, by decide, by decide +kernel, rfl, wd_383, rfl⟩
theorem fl_X9_41 : s_Fl RX9 41 9 2 (.object "ShadowHerds$Sky") true := ⟨_, _, _, rfl, by decide, by decide +kernel, rfl, wd_384, rfl⟩
theorem fl_X9_13 : s_Fl RX9 13 9 3 (.array .int) true := ⟨_, _, _, rfl, by decide, by decide +kernel, rfl, wd_385, rfl⟩
theorem fl_X9_17 : s_Fl RX9 17 9 4 (.array .int) true := ⟨_, _, _, rfl, by decide, by decide +kernel, rfl, wd_386, rfl⟩
theorem fl_X9_20 : s_Fl RX9 20 9 5 .boolean false := ⟨_, _, _, rfl, by decide, by decide +kernel, rfl, wd_387, rfl⟩
theorem fl_X9_24 : s_Fl RX9 24 9 6 .int false := ⟨_, _, _, rfl, by decide, by decide +kernel, rfl, wd_388, rfl⟩
theorem cl_X11_63 : s_Nw RX11 63 2 6 [.null, .null, .null, .int 0, .int 0, .int 0] := ⟨RX2, TX2, tyX2, rfl, tyX2_ok, by decide +kernel, wd_404, wd_405, wd_154⟩
theorem ck_X11_63 : Cond.classLink RX11 63 "ShadowHerds$Paper" ∈ s_tb := wd_404
theorem md_X2_init : (m_X2_init.1.cls ≠ "java/lang/invoke/MethodHandle" ∧ m_X2_init.1.cls ≠ "java/lang/invoke/VarHandle" ∧ (parseMethodDescriptor m_X2_init.1.desc).map (fun d => d.parameters.length) = some 2) ∧ m_X2_init.2.2.1 ≤ 22 := ⟨⟨by decide +kernel, by decide +kernel, by decide +kernel⟩, by decide⟩
theorem ml_X11_65 : s_MI RX11 65 m_X2_init 2 := ⟨Or.inl (wd_406), wd_407, wd_154, wd_408, rfl, rfl, md_X2_init.1, md_X2_init.2⟩
theorem ml_X2_3 : Cond.methodLink RX2 3 objectInit ∈ s_tb ∧ Cond.instanceMethod objectInit ∈ s_tb ∧ Cond.code objectInit ⟨#[0xb1]⟩ 1 none ∈ s_tb := ⟨wd_409, wd_170, wd_171⟩
theorem fl_X2_25 : s_Fl RX2 25 2 0 (.object "ShadowHerds$Plain") true := ⟨_, _, _, rfl, by decide, by decide +kernel, rfl, wd_410, rfl⟩
theorem fl_X2_29 : s_Fl RX2 29 2 1 (.object "ShadowHerds$Climate") true := ⟨_, _, _, rfl, by decide, by decide +kernel, rfl, wd_411, rfl⟩
theorem fl_X2_9 : s_Fl RX2 9 2 2 (.array .int) true := ⟨_, _, _, rfl, by decide, by decide +kernel, rfl, wd_412, rfl⟩
theorem fl_X2_15 : s_Fl RX2 15 2 3 .int false := ⟨_, _, _, rfl, by decide, by decide +kernel, rfl, wd_413, rfl⟩
theorem fl_X4_150 : s_Fl RX4 150 2 3 .int false := ⟨_, _, _, rfl, by decide, by decide +kernel, rfl, wd_414, rfl⟩
theorem fl_X2_19 : s_Fl RX2 19 2 4 .int false := ⟨_, _, _, rfl, by decide, by decide +kernel, rfl, wd_415, rfl⟩
theorem fl_X4_211 : s_Fl RX4 211 2 4 .int false := ⟨_, _, _, rfl, by decide, by decide +kernel, rfl, wd_416, rfl⟩
theorem fl_X2_22 : s_Fl RX2 22 2 5 .int false := ⟨_, _, _, rfl, by decide, by decide +kernel, rfl, wd_417, rfl⟩
theorem fl_X4_205 : s_Fl RX4 205 2 5 .int false := ⟨_, _, _, rfl, by decide, by decide +kernel, rfl, wd_418, rfl⟩
theorem cl_X11_70 : s_Nw RX11 70 4 10 [.null, .null, .null, .null, .null, .null, .null, .null, .null, .null] := ⟨RX4, TX4, tyX4, rfl, tyX4_ok, by decide +kernel, wd_432, wd_433, wd_155⟩
theorem ck_X11_70 : Cond.classLink RX11 70 "ShadowHerds$Planner" ∈ s_tb := wd_432
theorem md_X4_init : (m_X4_init.1.cls ≠ "java/lang/invoke/MethodHandle" ∧ m_X4_init.1.cls ≠ "java/lang/invoke/VarHandle" ∧ (parseMethodDescriptor m_X4_init.1.desc).map (fun d => d.parameters.length) = some 3) ∧ m_X4_init.2.2.1 ≤ 22 := ⟨⟨by decide +kernel, by decide +kernel, by decide +kernel⟩, by decide⟩
theorem ml_X11_72 : s_MI RX11 72 m_X4_init 3 := ⟨Or.inl (wd_434), wd_435, wd_155, wd_436, rfl, rfl, md_X4_init.1, md_X4_init.2⟩
theorem ml_X4_5 : Cond.methodLink RX4 5 objectInit ∈ s_tb ∧ Cond.instanceMethod objectInit ∈ s_tb ∧ Cond.code objectInit ⟨#[0xb1]⟩ 1 none ∈ s_tb := ⟨wd_437, wd_170, wd_171⟩
theorem fl_X4_34 : s_Fl RX4 34 4 0 (.object "ShadowHerds$Plain") true := ⟨_, _, _, rfl, by decide, by decide +kernel, rfl, wd_438, rfl⟩
theorem fl_X4_38 : s_Fl RX4 38 4 1 (.object "ShadowHerds$Climate") true := ⟨_, _, _, rfl, by decide, by decide +kernel, rfl, wd_439, rfl⟩
theorem fl_X4_42 : s_Fl RX4 42 4 2 (.object "ShadowHerds$Paper") true := ⟨_, _, _, rfl, by decide, by decide +kernel, rfl, wd_440, rfl⟩
theorem fl_X4_11 : s_Fl RX4 11 4 3 (.array .int) true := ⟨_, _, _, rfl, by decide, by decide +kernel, rfl, wd_441, rfl⟩
theorem fl_X4_15 : s_Fl RX4 15 4 4 (.array .int) true := ⟨_, _, _, rfl, by decide, by decide +kernel, rfl, wd_442, rfl⟩
theorem fl_X4_18 : s_Fl RX4 18 4 5 (.array .long) true := ⟨_, _, _, rfl, by decide, by decide +kernel, rfl, wd_443, rfl⟩
theorem fl_X4_22 : s_Fl RX4 22 4 6 (.array .int) true := ⟨_, _, _, rfl, by decide, by decide +kernel, rfl, wd_444, rfl⟩
theorem fl_X4_25 : s_Fl RX4 25 4 7 (.array .int) true := ⟨_, _, _, rfl, by decide, by decide +kernel, rfl, wd_445, rfl⟩
theorem fl_X4_28 : s_Fl RX4 28 4 8 (.array .int) true := ⟨_, _, _, rfl, by decide, by decide +kernel, rfl, wd_446, rfl⟩
theorem fl_X4_31 : s_Fl RX4 31 4 9 (.array .int) true := ⟨_, _, _, rfl, by decide, by decide +kernel, rfl, wd_447, rfl⟩
theorem cl_X11_79 : s_Nw RX11 79 1 5 [.null, .null, .null, .int 0, .int 0] := ⟨RX1, TX1, tyX1, rfl, tyX1_ok, by decide +kernel, wd_470, wd_471, wd_156⟩
theorem ck_X11_79 : Cond.classLink RX11 79 "ShadowHerds$Odds" ∈ s_tb := wd_470
theorem md_X1_init : (m_X1_init.1.cls ≠ "java/lang/invoke/MethodHandle" ∧ m_X1_init.1.cls ≠ "java/lang/invoke/VarHandle" ∧ (parseMethodDescriptor m_X1_init.1.desc).map (fun d => d.parameters.length) = some 2) ∧ m_X1_init.2.2.1 ≤ 22 := ⟨⟨by decide +kernel, by decide +kernel, by decide +kernel⟩, by decide⟩
theorem ml_X11_81 : s_MI RX11 81 m_X1_init 2 := ⟨Or.inl (wd_472), wd_473, wd_156, wd_474, rfl, rfl, md_X1_init.1, md_X1_init.2⟩
theorem ml_X1_3 : Cond.methodLink RX1 3 objectInit ∈ s_tb ∧ Cond.instanceMethod objectInit ∈ s_tb ∧ Cond.code objectInit ⟨#[0xb1]⟩ 1 none ∈ s_tb := ⟨wd_475, wd_170, wd_171⟩
theorem fl_X1_22 : s_Fl RX1 22 1 0 (.object "ShadowHerds$Plain") true := ⟨_, _, _, rfl, by decide, by decide +kernel, rfl, wd_476, rfl⟩
theorem fl_X1_26 : s_Fl RX1 26 1 1 (.object "ShadowHerds$Paper") true := ⟨_, _, _, rfl, by decide, by decide +kernel, rfl, wd_477, rfl⟩
theorem fl_X1_9 : s_Fl RX1 9 1 2 (.array .long) true := ⟨_, _, _, rfl, by decide, by decide +kernel, rfl, wd_478, rfl⟩
theorem fl_X1_15 : s_Fl RX1 15 1 3 .int false := ⟨_, _, _, rfl, by decide, by decide +kernel, rfl, wd_479, rfl⟩
theorem fl_X1_19 : s_Fl RX1 19 1 4 .int false := ⟨_, _, _, rfl, by decide, by decide +kernel, rfl, wd_480, rfl⟩
theorem cl_X11_88 : s_Nw RX11 88 10 6 [.null, .null, .null, .null, .null, .null] := ⟨RX10, TX10, tyX10, rfl, tyX10_ok, by decide +kernel, wd_492, wd_493, wd_157⟩
theorem ck_X11_88 : Cond.classLink RX11 88 "ShadowHerds$Watch" ∈ s_tb := wd_492
theorem md_X10_init : (m_X10_init.1.cls ≠ "java/lang/invoke/MethodHandle" ∧ m_X10_init.1.cls ≠ "java/lang/invoke/VarHandle" ∧ (parseMethodDescriptor m_X10_init.1.desc).map (fun d => d.parameters.length) = some 1) ∧ m_X10_init.2.2.1 ≤ 22 := ⟨⟨by decide +kernel, by decide +kernel, by decide +kernel⟩, by decide⟩
theorem ml_X11_90 : s_MI RX11 90 m_X10_init 1 := ⟨Or.inl (wd_494), wd_495, wd_157, wd_496, rfl, rfl, md_X10_init.1, md_X10_init.2⟩
theorem ml_X10_3 : Cond.methodLink RX10 3 objectInit ∈ s_tb ∧ Cond.instanceMethod objectInit ∈ s_tb ∧ Cond.code objectInit ⟨#[0xb1]⟩ 1 none ∈ s_tb := ⟨wd_497, wd_170, wd_171⟩
theorem fl_X10_27 : s_Fl RX10 27 10 0 (.object "ShadowHerds$Plain") true := ⟨_, _, _, rfl, by decide, by decide +kernel, rfl, wd_498, rfl⟩
theorem fl_X10_9 : s_Fl RX10 9 10 1 (.array .int) true := ⟨_, _, _, rfl, by decide, by decide +kernel, rfl, wd_499, rfl⟩
theorem fl_X10_15 : s_Fl RX10 15 10 2 (.array .int) true := ⟨_, _, _, rfl, by decide, by decide +kernel, rfl, wd_500, rfl⟩
theorem fl_X10_18 : s_Fl RX10 18 10 3 (.array .int) true := ⟨_, _, _, rfl, by decide, by decide +kernel, rfl, wd_501, rfl⟩
theorem fl_X10_21 : s_Fl RX10 21 10 4 (.array .int) true := ⟨_, _, _, rfl, by decide, by decide +kernel, rfl, wd_502, rfl⟩
theorem fl_X10_24 : s_Fl RX10 24 10 5 (.array .int) true := ⟨_, _, _, rfl, by decide, by decide +kernel, rfl, wd_503, rfl⟩
theorem fl_X11_12 : s_Fl RX11 12 11 0 (.object "ShadowHerds$Plain") true := ⟨_, _, _, rfl, by decide, by decide +kernel, rfl, wd_517, rfl⟩
theorem fl_X11_16 : s_Fl RX11 16 11 1 (.array (.object "ShadowHerds$Plain")) true := ⟨_, _, _, rfl, by decide, by decide +kernel, rfl, wd_518, rfl⟩
theorem fl_X11_20 : s_Fl RX11 20 11 2 (.array .boolean) true := ⟨_, _, _, rfl, by decide, by decide +kernel, rfl, wd_519, rfl⟩
theorem fl_X11_27 : s_Fl RX11 27 11 3 (.object "ShadowHerds$Reader") true := ⟨_, _, _, rfl, by decide, by decide +kernel, rfl, wd_520, rfl⟩
theorem fl_X11_34 : s_Fl RX11 34 11 4 (.object "ShadowHerds$Reckoner") true := ⟨_, _, _, rfl, by decide, by decide +kernel, rfl, wd_521, rfl⟩
theorem fl_X11_43 : s_Fl RX11 43 11 5 (.object "ShadowHerds$Climate") true := ⟨_, _, _, rfl, by decide, by decide +kernel, rfl, wd_522, rfl⟩
theorem fl_X11_52 : s_Fl RX11 52 11 6 (.object "ShadowHerds$Sky") true := ⟨_, _, _, rfl, by decide, by decide +kernel, rfl, wd_523, rfl⟩
theorem fl_X11_59 : s_Fl RX11 59 11 7 (.object "ShadowHerds$Warmth") true := ⟨_, _, _, rfl, by decide, by decide +kernel, rfl, wd_524, rfl⟩
theorem fl_X11_66 : s_Fl RX11 66 11 8 (.object "ShadowHerds$Paper") true := ⟨_, _, _, rfl, by decide, by decide +kernel, rfl, wd_525, rfl⟩
theorem fl_X11_75 : s_Fl RX11 75 11 9 (.object "ShadowHerds$Planner") true := ⟨_, _, _, rfl, by decide, by decide +kernel, rfl, wd_526, rfl⟩
theorem fl_X11_84 : s_Fl RX11 84 11 10 (.object "ShadowHerds$Odds") true := ⟨_, _, _, rfl, by decide, by decide +kernel, rfl, wd_527, rfl⟩
theorem fl_X11_91 : s_Fl RX11 91 11 11 (.object "ShadowHerds$Watch") true := ⟨_, _, _, rfl, by decide, by decide +kernel, rfl, wd_528, rfl⟩
theorem fl_X11_95 : s_Fl RX11 95 11 12 (.array .int) true := ⟨_, _, _, rfl, by decide, by decide +kernel, rfl, wd_529, rfl⟩
theorem fl_X11_99 : s_Fl RX11 99 11 13 .int false := ⟨_, _, _, rfl, by decide, by decide +kernel, rfl, wd_530, rfl⟩
theorem fl_X11_103 : s_Fl RX11 103 11 14 .int false := ⟨_, _, _, rfl, by decide, by decide +kernel, rfl, wd_531, rfl⟩
theorem fl_X11_106 : s_Fl RX11 106 11 15 .int false := ⟨_, _, _, rfl, by decide, by decide +kernel, rfl, wd_532, rfl⟩
theorem fl_X11_109 : s_Fl RX11 109 11 16 .int false := ⟨_, _, _, rfl, by decide, by decide +kernel, rfl, wd_533, rfl⟩
theorem fl_X11_112 : s_Fl RX11 112 11 17 .int false := ⟨_, _, _, rfl, by decide, by decide +kernel, rfl, wd_534, rfl⟩
theorem md_X11_put : (m_X11_put.1.cls ≠ "java/lang/invoke/MethodHandle" ∧ m_X11_put.1.cls ≠ "java/lang/invoke/VarHandle" ∧ (parseMethodDescriptor m_X11_put.1.desc).map (fun d => d.parameters.length) = some 3) ∧ m_X11_put.2.2.1 ≤ 22 := ⟨⟨by decide +kernel, by decide +kernel, by decide +kernel⟩, by decide⟩
theorem ml_L_13 : s_MV RL 13 m_X11_put 3 := ⟨wd_572, wd_573, wd_574, wd_145, wd_575, md_X11_put.1, md_X11_put.2⟩
theorem md_X11_within : (m_X11_within.1.cls ≠ "java/lang/invoke/MethodHandle" ∧ m_X11_within.1.cls ≠ "java/lang/invoke/VarHandle" ∧ (parseMethodDescriptor m_X11_within.1.desc).map (fun d => d.parameters.length) = some 3) ∧ m_X11_within.2.2.1 ≤ 22 := ⟨⟨by decide +kernel, by decide +kernel, by decide +kernel⟩, by decide⟩
theorem ml_X11_115 : s_MS RX11 115 m_X11_within 3 := ⟨Or.inl (wd_576), wd_577, wd_145, wd_578, md_X11_within.1, md_X11_within.2⟩
theorem md_X3_fits : (m_X3_fits.1.cls ≠ "java/lang/invoke/MethodHandle" ∧ m_X3_fits.1.cls ≠ "java/lang/invoke/VarHandle" ∧ (parseMethodDescriptor m_X3_fits.1.desc).map (fun d => d.parameters.length) = some 2) ∧ m_X3_fits.2.2.1 ≤ 22 := ⟨⟨by decide +kernel, by decide +kernel, by decide +kernel⟩, by decide⟩
theorem ml_X11_119 : s_MS RX11 119 m_X3_fits 2 := ⟨Or.inl (wd_579), wd_580, wd_146, wd_581, md_X3_fits.1, md_X3_fits.2⟩
theorem ml_X3_67 : s_MS RX3 67 m_X11_within 3 := ⟨Or.inr ⟨_, wn_582⟩, wd_577, wd_145, wd_578, md_X11_within.1, md_X11_within.2⟩
theorem md_X11_refuse : (m_X11_refuse.1.cls ≠ "java/lang/invoke/MethodHandle" ∧ m_X11_refuse.1.cls ≠ "java/lang/invoke/VarHandle" ∧ (parseMethodDescriptor m_X11_refuse.1.desc).map (fun d => d.parameters.length) = some 1) ∧ m_X11_refuse.2.2.1 ≤ 22 := ⟨⟨by decide +kernel, by decide +kernel, by decide +kernel⟩, by decide⟩
theorem ml_X11_123 : s_MV RX11 123 m_X11_refuse 1 := ⟨wd_583, wd_585, wd_0, wd_145, wd_586, md_X11_refuse.1, md_X11_refuse.2⟩
theorem md_X3_fieldFact : (m_X3_fieldFact.1.cls ≠ "java/lang/invoke/MethodHandle" ∧ m_X3_fieldFact.1.cls ≠ "java/lang/invoke/VarHandle" ∧ (parseMethodDescriptor m_X3_fieldFact.1.desc).map (fun d => d.parameters.length) = some 2) ∧ m_X3_fieldFact.2.2.1 ≤ 22 := ⟨⟨by decide +kernel, by decide +kernel, by decide +kernel⟩, by decide⟩
theorem ml_X11_127 : s_MV RX11 127 m_X3_fieldFact 2 := ⟨wd_587, wd_588, wd_589, wd_146, wd_590, md_X3_fieldFact.1, md_X3_fieldFact.2⟩
theorem md_X3_setField : (m_X3_setField.1.cls ≠ "java/lang/invoke/MethodHandle" ∧ m_X3_setField.1.cls ≠ "java/lang/invoke/VarHandle" ∧ (parseMethodDescriptor m_X3_setField.1.desc).map (fun d => d.parameters.length) = some 3) ∧ m_X3_setField.2.2.1 ≤ 22 := ⟨⟨by decide +kernel, by decide +kernel, by decide +kernel⟩, by decide⟩
theorem ml_X11_131 : s_MV RX11 131 m_X3_setField 3 := ⟨wd_591, wd_592, wd_593, wd_146, wd_594, md_X3_setField.1, md_X3_setField.2⟩
theorem md_X11_grant : (m_X11_grant.1.cls ≠ "java/lang/invoke/MethodHandle" ∧ m_X11_grant.1.cls ≠ "java/lang/invoke/VarHandle" ∧ (parseMethodDescriptor m_X11_grant.1.desc).map (fun d => d.parameters.length) = some 1) ∧ m_X11_grant.2.2.1 ≤ 22 := ⟨⟨by decide +kernel, by decide +kernel, by decide +kernel⟩, by decide⟩
theorem ml_X11_135 : s_MV RX11 135 m_X11_grant 1 := ⟨wd_595, wd_597, wd_1, wd_145, wd_598, md_X11_grant.1, md_X11_grant.2⟩
theorem md_X11_fact : (m_X11_fact.1.cls ≠ "java/lang/invoke/MethodHandle" ∧ m_X11_fact.1.cls ≠ "java/lang/invoke/VarHandle" ∧ (parseMethodDescriptor m_X11_fact.1.desc).map (fun d => d.parameters.length) = some 2) ∧ m_X11_fact.2.2.1 ≤ 22 := ⟨⟨by decide +kernel, by decide +kernel, by decide +kernel⟩, by decide⟩
theorem ml_L_18 : s_MV RL 18 m_X11_fact 2 := ⟨wd_599, wd_600, wd_601, wd_145, wd_602, md_X11_fact.1, md_X11_fact.2⟩
theorem md_X11_wind : (m_X11_wind.1.cls ≠ "java/lang/invoke/MethodHandle" ∧ m_X11_wind.1.cls ≠ "java/lang/invoke/VarHandle" ∧ (parseMethodDescriptor m_X11_wind.1.desc).map (fun d => d.parameters.length) = some 3) ∧ m_X11_wind.2.2.1 ≤ 22 := ⟨⟨by decide +kernel, by decide +kernel, by decide +kernel⟩, by decide⟩
theorem ml_L_23 : s_MV RL 23 m_X11_wind 3 := ⟨wd_603, wd_604, wd_605, wd_145, wd_606, md_X11_wind.1, md_X11_wind.2⟩
theorem md_X11_cloud : (m_X11_cloud.1.cls ≠ "java/lang/invoke/MethodHandle" ∧ m_X11_cloud.1.cls ≠ "java/lang/invoke/VarHandle" ∧ (parseMethodDescriptor m_X11_cloud.1.desc).map (fun d => d.parameters.length) = some 5) ∧ m_X11_cloud.2.2.1 ≤ 22 := ⟨⟨by decide +kernel, by decide +kernel, by decide +kernel⟩, by decide⟩
theorem ml_L_27 : s_MV RL 27 m_X11_cloud 5 := ⟨wd_607, wd_608, wd_609, wd_145, wd_610, md_X11_cloud.1, md_X11_cloud.2⟩
theorem md_X3_isShape : (m_X3_isShape.1.cls ≠ "java/lang/invoke/MethodHandle" ∧ m_X3_isShape.1.cls ≠ "java/lang/invoke/VarHandle" ∧ (parseMethodDescriptor m_X3_isShape.1.desc).map (fun d => d.parameters.length) = some 3) ∧ m_X3_isShape.2.2.1 ≤ 22 := ⟨⟨by decide +kernel, by decide +kernel, by decide +kernel⟩, by decide⟩
theorem ml_X11_144 : s_MS RX11 144 m_X3_isShape 3 := ⟨Or.inl (wd_611), wd_612, wd_146, wd_613, md_X3_isShape.1, md_X3_isShape.2⟩
theorem md_X3_addCloud : (m_X3_addCloud.1.cls ≠ "java/lang/invoke/MethodHandle" ∧ m_X3_addCloud.1.cls ≠ "java/lang/invoke/VarHandle" ∧ (parseMethodDescriptor m_X3_addCloud.1.desc).map (fun d => d.parameters.length) = some 5) ∧ m_X3_addCloud.2.2.1 ≤ 22 := ⟨⟨by decide +kernel, by decide +kernel, by decide +kernel⟩, by decide⟩
theorem ml_X11_150 : s_MV RX11 150 m_X3_addCloud 5 := ⟨wd_614, wd_615, wd_616, wd_146, wd_617, md_X3_addCloud.1, md_X3_addCloud.2⟩
theorem md_X11_of : (m_X11_of.1.cls ≠ "java/lang/invoke/MethodHandle" ∧ m_X11_of.1.cls ≠ "java/lang/invoke/VarHandle" ∧ (parseMethodDescriptor m_X11_of.1.desc).map (fun d => d.parameters.length) = some 2) ∧ m_X11_of.2.2.1 ≤ 22 := ⟨⟨by decide +kernel, by decide +kernel, by decide +kernel⟩, by decide⟩
theorem ml_L_32 : s_MV RL 32 m_X11_of 2 := ⟨wd_618, wd_619, wd_620, wd_145, wd_621, md_X11_of.1, md_X11_of.2⟩
theorem md_X3_cloudFact : (m_X3_cloudFact.1.cls ≠ "java/lang/invoke/MethodHandle" ∧ m_X3_cloudFact.1.cls ≠ "java/lang/invoke/VarHandle" ∧ (parseMethodDescriptor m_X3_cloudFact.1.desc).map (fun d => d.parameters.length) = some 2) ∧ m_X3_cloudFact.2.2.1 ≤ 22 := ⟨⟨by decide +kernel, by decide +kernel, by decide +kernel⟩, by decide⟩
theorem ml_X11_154 : s_MV RX11 154 m_X3_cloudFact 2 := ⟨wd_622, wd_623, wd_624, wd_146, wd_625, md_X3_cloudFact.1, md_X3_cloudFact.2⟩
theorem md_X3_isCloud : (m_X3_isCloud.1.cls ≠ "java/lang/invoke/MethodHandle" ∧ m_X3_isCloud.1.cls ≠ "java/lang/invoke/VarHandle" ∧ (parseMethodDescriptor m_X3_isCloud.1.desc).map (fun d => d.parameters.length) = some 1) ∧ m_X3_isCloud.2.2.1 ≤ 22 := ⟨⟨by decide +kernel, by decide +kernel, by decide +kernel⟩, by decide⟩
theorem ml_X3_71 : s_MV RX3 71 m_X3_isCloud 1 := ⟨wd_626, wd_627, wd_628, wd_146, wd_629, md_X3_isCloud.1, md_X3_isCloud.2⟩
theorem md_X11_flag : (m_X11_flag.1.cls ≠ "java/lang/invoke/MethodHandle" ∧ m_X11_flag.1.cls ≠ "java/lang/invoke/VarHandle" ∧ (parseMethodDescriptor m_X11_flag.1.desc).map (fun d => d.parameters.length) = some 3) ∧ m_X11_flag.2.2.1 ≤ 22 := ⟨⟨by decide +kernel, by decide +kernel, by decide +kernel⟩, by decide⟩
theorem ml_L_36 : s_MV RL 36 m_X11_flag 3 := ⟨wd_630, wd_631, wd_632, wd_145, wd_633, md_X11_flag.1, md_X11_flag.2⟩
theorem md_X3_whyNoFlag : (m_X3_whyNoFlag.1.cls ≠ "java/lang/invoke/MethodHandle" ∧ m_X3_whyNoFlag.1.cls ≠ "java/lang/invoke/VarHandle" ∧ (parseMethodDescriptor m_X3_whyNoFlag.1.desc).map (fun d => d.parameters.length) = some 3) ∧ m_X3_whyNoFlag.2.2.1 ≤ 22 := ⟨⟨by decide +kernel, by decide +kernel, by decide +kernel⟩, by decide⟩
theorem ml_X11_157 : s_MV RX11 157 m_X3_whyNoFlag 3 := ⟨wd_634, wd_635, wd_636, wd_146, wd_637, md_X3_whyNoFlag.1, md_X3_whyNoFlag.2⟩
theorem md_X3_hasFlag : (m_X3_hasFlag.1.cls ≠ "java/lang/invoke/MethodHandle" ∧ m_X3_hasFlag.1.cls ≠ "java/lang/invoke/VarHandle" ∧ (parseMethodDescriptor m_X3_hasFlag.1.desc).map (fun d => d.parameters.length) = some 2) ∧ m_X3_hasFlag.2.2.1 ≤ 22 := ⟨⟨by decide +kernel, by decide +kernel, by decide +kernel⟩, by decide⟩
theorem ml_X3_110 : s_MV RX3 110 m_X3_hasFlag 2 := ⟨wd_638, wd_639, wd_640, wd_146, wd_641, md_X3_hasFlag.1, md_X3_hasFlag.2⟩
theorem md_X3_flagFact : (m_X3_flagFact.1.cls ≠ "java/lang/invoke/MethodHandle" ∧ m_X3_flagFact.1.cls ≠ "java/lang/invoke/VarHandle" ∧ (parseMethodDescriptor m_X3_flagFact.1.desc).map (fun d => d.parameters.length) = some 2) ∧ m_X3_flagFact.2.2.1 ≤ 22 := ⟨⟨by decide +kernel, by decide +kernel, by decide +kernel⟩, by decide⟩
theorem ml_X3_107 : s_MV RX3 107 m_X3_flagFact 2 := ⟨wd_642, wd_643, wd_644, wd_146, wd_645, md_X3_flagFact.1, md_X3_flagFact.2⟩
theorem md_X3_addFlag : (m_X3_addFlag.1.cls ≠ "java/lang/invoke/MethodHandle" ∧ m_X3_addFlag.1.cls ≠ "java/lang/invoke/VarHandle" ∧ (parseMethodDescriptor m_X3_addFlag.1.desc).map (fun d => d.parameters.length) = some 3) ∧ m_X3_addFlag.2.2.1 ≤ 22 := ⟨⟨by decide +kernel, by decide +kernel, by decide +kernel⟩, by decide⟩
theorem ml_X11_161 : s_MV RX11 161 m_X3_addFlag 3 := ⟨wd_646, wd_647, wd_648, wd_146, wd_649, md_X3_addFlag.1, md_X3_addFlag.2⟩
theorem md_X11_undo : (m_X11_undo.1.cls ≠ "java/lang/invoke/MethodHandle" ∧ m_X11_undo.1.cls ≠ "java/lang/invoke/VarHandle" ∧ (parseMethodDescriptor m_X11_undo.1.desc).map (fun d => d.parameters.length) = some 0) ∧ m_X11_undo.2.2.1 ≤ 22 := ⟨⟨by decide +kernel, by decide +kernel, by decide +kernel⟩, by decide⟩
theorem ml_L_40 : s_MV RL 40 m_X11_undo 0 := ⟨wd_650, wd_651, wd_652, wd_145, wd_653, md_X11_undo.1, md_X11_undo.2⟩
theorem ml_X11_167 : s_MV RX11 167 m_X3_flagFact 2 := ⟨wd_654, wd_643, wd_644, wd_146, wd_645, md_X3_flagFact.1, md_X3_flagFact.2⟩
theorem md_X11_contract : (m_X11_contract.1.cls ≠ "java/lang/invoke/MethodHandle" ∧ m_X11_contract.1.cls ≠ "java/lang/invoke/VarHandle" ∧ (parseMethodDescriptor m_X11_contract.1.desc).map (fun d => d.parameters.length) = some 5) ∧ m_X11_contract.2.2.1 ≤ 22 := ⟨⟨by decide +kernel, by decide +kernel, by decide +kernel⟩, by decide⟩
theorem ml_L_45 : s_MV RL 45 m_X11_contract 5 := ⟨wd_655, wd_656, wd_657, wd_145, wd_658, md_X11_contract.1, md_X11_contract.2⟩
theorem md_X11_isSpan : (m_X11_isSpan.1.cls ≠ "java/lang/invoke/MethodHandle" ∧ m_X11_isSpan.1.cls ≠ "java/lang/invoke/VarHandle" ∧ (parseMethodDescriptor m_X11_isSpan.1.desc).map (fun d => d.parameters.length) = some 2) ∧ m_X11_isSpan.2.2.1 ≤ 22 := ⟨⟨by decide +kernel, by decide +kernel, by decide +kernel⟩, by decide⟩
theorem ml_X11_170 : s_MS RX11 170 m_X11_isSpan 2 := ⟨Or.inl (wd_659), wd_660, wd_145, wd_661, md_X11_isSpan.1, md_X11_isSpan.2⟩
theorem md_X11_isHour : (m_X11_isHour.1.cls ≠ "java/lang/invoke/MethodHandle" ∧ m_X11_isHour.1.cls ≠ "java/lang/invoke/VarHandle" ∧ (parseMethodDescriptor m_X11_isHour.1.desc).map (fun d => d.parameters.length) = some 1) ∧ m_X11_isHour.2.2.1 ≤ 22 := ⟨⟨by decide +kernel, by decide +kernel, by decide +kernel⟩, by decide⟩
theorem ml_X11_185 : s_MS RX11 185 m_X11_isHour 1 := ⟨Or.inl (wd_662), wd_663, wd_145, wd_664, md_X11_isHour.1, md_X11_isHour.2⟩
theorem md_X3_addContract : (m_X3_addContract.1.cls ≠ "java/lang/invoke/MethodHandle" ∧ m_X3_addContract.1.cls ≠ "java/lang/invoke/VarHandle" ∧ (parseMethodDescriptor m_X3_addContract.1.desc).map (fun d => d.parameters.length) = some 5) ∧ m_X3_addContract.2.2.1 ≤ 22 := ⟨⟨by decide +kernel, by decide +kernel, by decide +kernel⟩, by decide⟩
theorem ml_X11_176 : s_MV RX11 176 m_X3_addContract 5 := ⟨wd_665, wd_666, wd_667, wd_146, wd_668, md_X3_addContract.1, md_X3_addContract.2⟩
theorem md_X11_cancel : (m_X11_cancel.1.cls ≠ "java/lang/invoke/MethodHandle" ∧ m_X11_cancel.1.cls ≠ "java/lang/invoke/VarHandle" ∧ (parseMethodDescriptor m_X11_cancel.1.desc).map (fun d => d.parameters.length) = some 0) ∧ m_X11_cancel.2.2.1 ≤ 22 := ⟨⟨by decide +kernel, by decide +kernel, by decide +kernel⟩, by decide⟩
theorem ml_L_49 : s_MV RL 49 m_X11_cancel 0 := ⟨wd_669, wd_670, wd_671, wd_145, wd_672, md_X11_cancel.1, md_X11_cancel.2⟩
theorem md_X11_terms : (m_X11_terms.1.cls ≠ "java/lang/invoke/MethodHandle" ∧ m_X11_terms.1.cls ≠ "java/lang/invoke/VarHandle" ∧ (parseMethodDescriptor m_X11_terms.1.desc).map (fun d => d.parameters.length) = some 2) ∧ m_X11_terms.2.2.1 ≤ 22 := ⟨⟨by decide +kernel, by decide +kernel, by decide +kernel⟩, by decide⟩
theorem ml_L_53 : s_MV RL 53 m_X11_terms 2 := ⟨wd_673, wd_674, wd_675, wd_145, wd_676, md_X11_terms.1, md_X11_terms.2⟩
theorem md_X3_isTerm : (m_X3_isTerm.1.cls ≠ "java/lang/invoke/MethodHandle" ∧ m_X3_isTerm.1.cls ≠ "java/lang/invoke/VarHandle" ∧ (parseMethodDescriptor m_X3_isTerm.1.desc).map (fun d => d.parameters.length) = some 2) ∧ m_X3_isTerm.2.2.1 ≤ 22 := ⟨⟨by decide +kernel, by decide +kernel, by decide +kernel⟩, by decide⟩
theorem ml_X11_179 : s_MS RX11 179 m_X3_isTerm 2 := ⟨Or.inl (wd_677), wd_678, wd_146, wd_679, md_X3_isTerm.1, md_X3_isTerm.2⟩
theorem md_X11_sight : (m_X11_sight.1.cls ≠ "java/lang/invoke/MethodHandle" ∧ m_X11_sight.1.cls ≠ "java/lang/invoke/VarHandle" ∧ (parseMethodDescriptor m_X11_sight.1.desc).map (fun d => d.parameters.length) = some 3) ∧ m_X11_sight.2.2.1 ≤ 22 := ⟨⟨by decide +kernel, by decide +kernel, by decide +kernel⟩, by decide⟩
theorem ml_L_156 : s_MV RL 156 m_X11_sight 3 := ⟨wd_680, wd_681, wd_682, wd_145, wd_683, md_X11_sight.1, md_X11_sight.2⟩
theorem md_X3_addSight : (m_X3_addSight.1.cls ≠ "java/lang/invoke/MethodHandle" ∧ m_X3_addSight.1.cls ≠ "java/lang/invoke/VarHandle" ∧ (parseMethodDescriptor m_X3_addSight.1.desc).map (fun d => d.parameters.length) = some 3) ∧ m_X3_addSight.2.2.1 ≤ 22 := ⟨⟨by decide +kernel, by decide +kernel, by decide +kernel⟩, by decide⟩
theorem ml_X11_192 : s_MV RX11 192 m_X3_addSight 3 := ⟨wd_684, wd_685, wd_686, wd_146, wd_687, md_X3_addSight.1, md_X3_addSight.2⟩
theorem md_X11_forget : (m_X11_forget.1.cls ≠ "java/lang/invoke/MethodHandle" ∧ m_X11_forget.1.cls ≠ "java/lang/invoke/VarHandle" ∧ (parseMethodDescriptor m_X11_forget.1.desc).map (fun d => d.parameters.length) = some 0) ∧ m_X11_forget.2.2.1 ≤ 22 := ⟨⟨by decide +kernel, by decide +kernel, by decide +kernel⟩, by decide⟩
theorem ml_L_160 : s_MV RL 160 m_X11_forget 0 := ⟨wd_688, wd_689, wd_690, wd_145, wd_691, md_X11_forget.1, md_X11_forget.2⟩
theorem md_X11_image : (m_X11_image.1.cls ≠ "java/lang/invoke/MethodHandle" ∧ m_X11_image.1.cls ≠ "java/lang/invoke/VarHandle" ∧ (parseMethodDescriptor m_X11_image.1.desc).map (fun d => d.parameters.length) = some 1) ∧ m_X11_image.2.2.1 ≤ 22 := ⟨⟨by decide +kernel, by decide +kernel, by decide +kernel⟩, by decide⟩
theorem ml_L_189 : s_MV RL 189 m_X11_image 1 := ⟨wd_692, wd_693, wd_694, wd_145, wd_695, md_X11_image.1, md_X11_image.2⟩
theorem md_X3_copyFrom : (m_X3_copyFrom.1.cls ≠ "java/lang/invoke/MethodHandle" ∧ m_X3_copyFrom.1.cls ≠ "java/lang/invoke/VarHandle" ∧ (parseMethodDescriptor m_X3_copyFrom.1.desc).map (fun d => d.parameters.length) = some 1) ∧ m_X3_copyFrom.2.2.1 ≤ 22 := ⟨⟨by decide +kernel, by decide +kernel, by decide +kernel⟩, by decide⟩
theorem ml_X11_195 : s_MV RX11 195 m_X3_copyFrom 1 := ⟨wd_696, wd_697, wd_698, wd_146, wd_699, md_X3_copyFrom.1, md_X3_copyFrom.2⟩
theorem ml_X3_61 : s_J_copy RX3 61 := ⟨wd_700, wd_702, wd_701, wd_163⟩
theorem md_X11_back : (m_X11_back.1.cls ≠ "java/lang/invoke/MethodHandle" ∧ m_X11_back.1.cls ≠ "java/lang/invoke/VarHandle" ∧ (parseMethodDescriptor m_X11_back.1.desc).map (fun d => d.parameters.length) = some 1) ∧ m_X11_back.2.2.1 ≤ 22 := ⟨⟨by decide +kernel, by decide +kernel, by decide +kernel⟩, by decide⟩
theorem ml_L_193 : s_MV RL 193 m_X11_back 1 := ⟨wd_703, wd_704, wd_705, wd_145, wd_706, md_X11_back.1, md_X11_back.2⟩
theorem md_X11_count : (m_X11_count.1.cls ≠ "java/lang/invoke/MethodHandle" ∧ m_X11_count.1.cls ≠ "java/lang/invoke/VarHandle" ∧ (parseMethodDescriptor m_X11_count.1.desc).map (fun d => d.parameters.length) = some 1) ∧ m_X11_count.2.2.1 ≤ 22 := ⟨⟨by decide +kernel, by decide +kernel, by decide +kernel⟩, by decide⟩
theorem ml_L_197 : s_MV RL 197 m_X11_count 1 := ⟨wd_707, wd_708, wd_709, wd_145, wd_710, md_X11_count.1, md_X11_count.2⟩
theorem md_X11_status : (m_X11_status.1.cls ≠ "java/lang/invoke/MethodHandle" ∧ m_X11_status.1.cls ≠ "java/lang/invoke/VarHandle" ∧ (parseMethodDescriptor m_X11_status.1.desc).map (fun d => d.parameters.length) = some 0) ∧ m_X11_status.2.2.1 ≤ 22 := ⟨⟨by decide +kernel, by decide +kernel, by decide +kernel⟩, by decide⟩
theorem ml_L_201 : s_MV RL 201 m_X11_status 0 := ⟨wd_711, wd_712, wd_713, wd_145, wd_714, md_X11_status.1, md_X11_status.2⟩
theorem md_X11_feed : (m_X11_feed.1.cls ≠ "java/lang/invoke/MethodHandle" ∧ m_X11_feed.1.cls ≠ "java/lang/invoke/VarHandle" ∧ (parseMethodDescriptor m_X11_feed.1.desc).map (fun d => d.parameters.length) = some 5) ∧ m_X11_feed.2.2.1 ≤ 22 := ⟨⟨by decide +kernel, by decide +kernel, by decide +kernel⟩, by decide⟩
theorem ml_L_57 : s_MV RL 57 m_X11_feed 5 := ⟨wd_715, wd_716, wd_717, wd_145, wd_718, md_X11_feed.1, md_X11_feed.2⟩
theorem md_X5_append : (m_X5_append.1.cls ≠ "java/lang/invoke/MethodHandle" ∧ m_X5_append.1.cls ≠ "java/lang/invoke/VarHandle" ∧ (parseMethodDescriptor m_X5_append.1.desc).map (fun d => d.parameters.length) = some 1) ∧ m_X5_append.2.2.1 ≤ 22 := ⟨⟨by decide +kernel, by decide +kernel, by decide +kernel⟩, by decide⟩
theorem ml_X11_207 : s_MV RX11 207 m_X5_append 1 := ⟨wd_719, wd_720, wd_721, wd_147, wd_722, md_X5_append.1, md_X5_append.2⟩
theorem md_X11_end : (m_X11_end.1.cls ≠ "java/lang/invoke/MethodHandle" ∧ m_X11_end.1.cls ≠ "java/lang/invoke/VarHandle" ∧ (parseMethodDescriptor m_X11_end.1.desc).map (fun d => d.parameters.length) = some 1) ∧ m_X11_end.2.2.1 ≤ 22 := ⟨⟨by decide +kernel, by decide +kernel, by decide +kernel⟩, by decide⟩
theorem ml_L_61 : s_MV RL 61 m_X11_end 1 := ⟨wd_723, wd_724, wd_725, wd_145, wd_726, md_X11_end.1, md_X11_end.2⟩
theorem md_X11_row : (m_X11_row.1.cls ≠ "java/lang/invoke/MethodHandle" ∧ m_X11_row.1.cls ≠ "java/lang/invoke/VarHandle" ∧ (parseMethodDescriptor m_X11_row.1.desc).map (fun d => d.parameters.length) = some 0) ∧ m_X11_row.2.2.1 ≤ 22 := ⟨⟨by decide +kernel, by decide +kernel, by decide +kernel⟩, by decide⟩
theorem ml_L_66 : s_MV RL 66 m_X11_row 0 := ⟨wd_727, wd_728, wd_729, wd_145, wd_730, md_X11_row.1, md_X11_row.2⟩
theorem md_X5_byteAt : (m_X5_byteAt.1.cls ≠ "java/lang/invoke/MethodHandle" ∧ m_X5_byteAt.1.cls ≠ "java/lang/invoke/VarHandle" ∧ (parseMethodDescriptor m_X5_byteAt.1.desc).map (fun d => d.parameters.length) = some 1) ∧ m_X5_byteAt.2.2.1 ≤ 22 := ⟨⟨by decide +kernel, by decide +kernel, by decide +kernel⟩, by decide⟩
theorem ml_X11_211 : s_MV RX11 211 m_X5_byteAt 1 := ⟨wd_731, wd_732, wd_733, wd_147, wd_734, md_X5_byteAt.1, md_X5_byteAt.2⟩
theorem md_X11_haze : (m_X11_haze.1.cls ≠ "java/lang/invoke/MethodHandle" ∧ m_X11_haze.1.cls ≠ "java/lang/invoke/VarHandle" ∧ (parseMethodDescriptor m_X11_haze.1.desc).map (fun d => d.parameters.length) = some 0) ∧ m_X11_haze.2.2.1 ≤ 22 := ⟨⟨by decide +kernel, by decide +kernel, by decide +kernel⟩, by decide⟩
theorem ml_L_70 : s_MV RL 70 m_X11_haze 0 := ⟨wd_735, wd_736, wd_737, wd_145, wd_738, md_X11_haze.1, md_X11_haze.2⟩
theorem md_X11_law : (m_X11_law.1.cls ≠ "java/lang/invoke/MethodHandle" ∧ m_X11_law.1.cls ≠ "java/lang/invoke/VarHandle" ∧ (parseMethodDescriptor m_X11_law.1.desc).map (fun d => d.parameters.length) = some 0) ∧ m_X11_law.2.2.1 ≤ 22 := ⟨⟨by decide +kernel, by decide +kernel, by decide +kernel⟩, by decide⟩
theorem ml_L_74 : s_MV RL 74 m_X11_law 0 := ⟨wd_739, wd_740, wd_741, wd_145, wd_742, md_X11_law.1, md_X11_law.2⟩
theorem md_X5_readText : (m_X5_readText.1.cls ≠ "java/lang/invoke/MethodHandle" ∧ m_X5_readText.1.cls ≠ "java/lang/invoke/VarHandle" ∧ (parseMethodDescriptor m_X5_readText.1.desc).map (fun d => d.parameters.length) = some 1) ∧ m_X5_readText.2.2.1 ≤ 22 := ⟨⟨by decide +kernel, by decide +kernel, by decide +kernel⟩, by decide⟩
theorem ml_X11_214 : s_MV RX11 214 m_X5_readText 1 := ⟨wd_743, wd_744, wd_745, wd_147, wd_746, md_X5_readText.1, md_X5_readText.2⟩
theorem md_X5_split : (m_X5_split.1.cls ≠ "java/lang/invoke/MethodHandle" ∧ m_X5_split.1.cls ≠ "java/lang/invoke/VarHandle" ∧ (parseMethodDescriptor m_X5_split.1.desc).map (fun d => d.parameters.length) = some 0) ∧ m_X5_split.2.2.1 ≤ 22 := ⟨⟨by decide +kernel, by decide +kernel, by decide +kernel⟩, by decide⟩
theorem ml_X5_50 : s_MV RX5 50 m_X5_split 0 := ⟨wd_747, wd_749, wd_2, wd_147, wd_750, md_X5_split.1, md_X5_split.2⟩
theorem ml_X5_91 : s_MV RX5 91 m_X5_byteAt 1 := ⟨wd_751, wd_732, wd_733, wd_147, wd_734, md_X5_byteAt.1, md_X5_byteAt.2⟩
theorem md_X5_isLetter : (m_X5_isLetter.1.cls ≠ "java/lang/invoke/MethodHandle" ∧ m_X5_isLetter.1.cls ≠ "java/lang/invoke/VarHandle" ∧ (parseMethodDescriptor m_X5_isLetter.1.desc).map (fun d => d.parameters.length) = some 1) ∧ m_X5_isLetter.2.2.1 ≤ 22 := ⟨⟨by decide +kernel, by decide +kernel, by decide +kernel⟩, by decide⟩
theorem ml_X5_95 : s_MS RX5 95 m_X5_isLetter 1 := ⟨Or.inl (wd_752), wd_753, wd_147, wd_754, md_X5_isLetter.1, md_X5_isLetter.2⟩
theorem md_X5_behindLetters : (m_X5_behindLetters.1.cls ≠ "java/lang/invoke/MethodHandle" ∧ m_X5_behindLetters.1.cls ≠ "java/lang/invoke/VarHandle" ∧ (parseMethodDescriptor m_X5_behindLetters.1.desc).map (fun d => d.parameters.length) = some 1) ∧ m_X5_behindLetters.2.2.1 ≤ 22 := ⟨⟨by decide +kernel, by decide +kernel, by decide +kernel⟩, by decide⟩
theorem ml_X5_98 : s_MV RX5 98 m_X5_behindLetters 1 := ⟨wd_755, wd_757, wd_3, wd_147, wd_758, md_X5_behindLetters.1, md_X5_behindLetters.2⟩
theorem md_X5_wordOf : (m_X5_wordOf.1.cls ≠ "java/lang/invoke/MethodHandle" ∧ m_X5_wordOf.1.cls ≠ "java/lang/invoke/VarHandle" ∧ (parseMethodDescriptor m_X5_wordOf.1.desc).map (fun d => d.parameters.length) = some 2) ∧ m_X5_wordOf.2.2.1 ≤ 22 := ⟨⟨by decide +kernel, by decide +kernel, by decide +kernel⟩, by decide⟩
theorem ml_X5_101 : s_MV RX5 101 m_X5_wordOf 2 := ⟨wd_759, wd_761, wd_4, wd_147, wd_762, md_X5_wordOf.1, md_X5_wordOf.2⟩
theorem md_X5_isWordAt : (m_X5_isWordAt.1.cls ≠ "java/lang/invoke/MethodHandle" ∧ m_X5_isWordAt.1.cls ≠ "java/lang/invoke/VarHandle" ∧ (parseMethodDescriptor m_X5_isWordAt.1.desc).map (fun d => d.parameters.length) = some 3) ∧ m_X5_isWordAt.2.2.1 ≤ 22 := ⟨⟨by decide +kernel, by decide +kernel, by decide +kernel⟩, by decide⟩
theorem ml_X5_132 : s_MV RX5 132 m_X5_isWordAt 3 := ⟨wd_812, wd_814, wd_5, wd_147, wd_815, md_X5_isWordAt.1, md_X5_isWordAt.2⟩
theorem md_X5_addToken : (m_X5_addToken.1.cls ≠ "java/lang/invoke/MethodHandle" ∧ m_X5_addToken.1.cls ≠ "java/lang/invoke/VarHandle" ∧ (parseMethodDescriptor m_X5_addToken.1.desc).map (fun d => d.parameters.length) = some 2) ∧ m_X5_addToken.2.2.1 ≤ 22 := ⟨⟨by decide +kernel, by decide +kernel, by decide +kernel⟩, by decide⟩
theorem ml_X5_105 : s_MV RX5 105 m_X5_addToken 2 := ⟨wd_816, wd_818, wd_6, wd_147, wd_819, md_X5_addToken.1, md_X5_addToken.2⟩
theorem md_X5_isDigit : (m_X5_isDigit.1.cls ≠ "java/lang/invoke/MethodHandle" ∧ m_X5_isDigit.1.cls ≠ "java/lang/invoke/VarHandle" ∧ (parseMethodDescriptor m_X5_isDigit.1.desc).map (fun d => d.parameters.length) = some 1) ∧ m_X5_isDigit.2.2.1 ≤ 22 := ⟨⟨by decide +kernel, by decide +kernel, by decide +kernel⟩, by decide⟩
theorem ml_X5_108 : s_MS RX5 108 m_X5_isDigit 1 := ⟨Or.inl (wd_820), wd_821, wd_147, wd_822, md_X5_isDigit.1, md_X5_isDigit.2⟩
theorem md_X5_behindDigits : (m_X5_behindDigits.1.cls ≠ "java/lang/invoke/MethodHandle" ∧ m_X5_behindDigits.1.cls ≠ "java/lang/invoke/VarHandle" ∧ (parseMethodDescriptor m_X5_behindDigits.1.desc).map (fun d => d.parameters.length) = some 1) ∧ m_X5_behindDigits.2.2.1 ≤ 22 := ⟨⟨by decide +kernel, by decide +kernel, by decide +kernel⟩, by decide⟩
theorem ml_X5_111 : s_MV RX5 111 m_X5_behindDigits 1 := ⟨wd_823, wd_825, wd_7, wd_147, wd_826, md_X5_behindDigits.1, md_X5_behindDigits.2⟩
theorem md_X5_numberOf : (m_X5_numberOf.1.cls ≠ "java/lang/invoke/MethodHandle" ∧ m_X5_numberOf.1.cls ≠ "java/lang/invoke/VarHandle" ∧ (parseMethodDescriptor m_X5_numberOf.1.desc).map (fun d => d.parameters.length) = some 2) ∧ m_X5_numberOf.2.2.1 ≤ 22 := ⟨⟨by decide +kernel, by decide +kernel, by decide +kernel⟩, by decide⟩
theorem ml_X5_114 : s_MV RX5 114 m_X5_numberOf 2 := ⟨wd_827, wd_829, wd_8, wd_147, wd_830, md_X5_numberOf.1, md_X5_numberOf.2⟩
theorem ml_X5_117 : s_J_min RX5 117 := ⟨wd_831, wd_832, wd_149, wd_833⟩
theorem md_X7_clear : (m_X7_clear.1.cls ≠ "java/lang/invoke/MethodHandle" ∧ m_X7_clear.1.cls ≠ "java/lang/invoke/VarHandle" ∧ (parseMethodDescriptor m_X7_clear.1.desc).map (fun d => d.parameters.length) = some 0) ∧ m_X7_clear.2.2.1 ≤ 22 := ⟨⟨by decide +kernel, by decide +kernel, by decide +kernel⟩, by decide⟩
theorem ml_X5_53 : s_MV RX5 53 m_X7_clear 0 := ⟨wd_834, wd_835, wd_836, wd_148, wd_837, md_X7_clear.1, md_X7_clear.2⟩
theorem md_X7_addClause : (m_X7_addClause.1.cls ≠ "java/lang/invoke/MethodHandle" ∧ m_X7_addClause.1.cls ≠ "java/lang/invoke/VarHandle" ∧ (parseMethodDescriptor m_X7_addClause.1.desc).map (fun d => d.parameters.length) = some 0) ∧ m_X7_addClause.2.2.1 ≤ 22 := ⟨⟨by decide +kernel, by decide +kernel, by decide +kernel⟩, by decide⟩
theorem ml_X5_56 : s_MV RX5 56 m_X7_addClause 0 := ⟨wd_838, wd_839, wd_840, wd_148, wd_841, md_X7_addClause.1, md_X7_addClause.2⟩
theorem md_X7_setHead : (m_X7_setHead.1.cls ≠ "java/lang/invoke/MethodHandle" ∧ m_X7_setHead.1.cls ≠ "java/lang/invoke/VarHandle" ∧ (parseMethodDescriptor m_X7_setHead.1.desc).map (fun d => d.parameters.length) = some 3) ∧ m_X7_setHead.2.2.1 ≤ 22 := ⟨⟨by decide +kernel, by decide +kernel, by decide +kernel⟩, by decide⟩
theorem ml_X7_47 : s_MV RX7 47 m_X7_setHead 3 := ⟨wd_842, wd_843, wd_844, wd_148, wd_845, md_X7_setHead.1, md_X7_setHead.2⟩
theorem md_X5_readLawHead : (m_X5_readLawHead.1.cls ≠ "java/lang/invoke/MethodHandle" ∧ m_X5_readLawHead.1.cls ≠ "java/lang/invoke/VarHandle" ∧ (parseMethodDescriptor m_X5_readLawHead.1.desc).map (fun d => d.parameters.length) = some 1) ∧ m_X5_readLawHead.2.2.1 ≤ 22 := ⟨⟨by decide +kernel, by decide +kernel, by decide +kernel⟩, by decide⟩
theorem ml_X5_59 : s_MV RX5 59 m_X5_readLawHead 1 := ⟨wd_846, wd_848, wd_9, wd_147, wd_849, md_X5_readLawHead.1, md_X5_readLawHead.2⟩
theorem md_X5_token : (m_X5_token.1.cls ≠ "java/lang/invoke/MethodHandle" ∧ m_X5_token.1.cls ≠ "java/lang/invoke/VarHandle" ∧ (parseMethodDescriptor m_X5_token.1.desc).map (fun d => d.parameters.length) = some 0) ∧ m_X5_token.2.2.1 ≤ 22 := ⟨⟨by decide +kernel, by decide +kernel, by decide +kernel⟩, by decide⟩
theorem ml_X5_84 : s_MV RX5 84 m_X5_token 0 := ⟨wd_850, wd_852, wd_10, wd_147, wd_853, md_X5_token.1, md_X5_token.2⟩
theorem md_X5_pass : (m_X5_pass.1.cls ≠ "java/lang/invoke/MethodHandle" ∧ m_X5_pass.1.cls ≠ "java/lang/invoke/VarHandle" ∧ (parseMethodDescriptor m_X5_pass.1.desc).map (fun d => d.parameters.length) = some 0) ∧ m_X5_pass.2.2.1 ≤ 22 := ⟨⟨by decide +kernel, by decide +kernel, by decide +kernel⟩, by decide⟩
theorem ml_X5_136 : s_MV RX5 136 m_X5_pass 0 := ⟨wd_854, wd_856, wd_11, wd_147, wd_857, md_X5_pass.1, md_X5_pass.2⟩
theorem ml_X5_72 : s_MV RX5 72 m_X7_setHead 3 := ⟨wd_858, wd_843, wd_844, wd_148, wd_845, md_X7_setHead.1, md_X7_setHead.2⟩
theorem md_X5_readSumOf : (m_X5_readSumOf.1.cls ≠ "java/lang/invoke/MethodHandle" ∧ m_X5_readSumOf.1.cls ≠ "java/lang/invoke/VarHandle" ∧ (parseMethodDescriptor m_X5_readSumOf.1.desc).map (fun d => d.parameters.length) = some 2) ∧ m_X5_readSumOf.2.2.1 ≤ 22 := ⟨⟨by decide +kernel, by decide +kernel, by decide +kernel⟩, by decide⟩
theorem ml_X5_139 : s_MV RX5 139 m_X5_readSumOf 2 := ⟨wd_859, wd_861, wd_12, wd_147, wd_862, md_X5_readSumOf.1, md_X5_readSumOf.2⟩
theorem md_X5_readSum : (m_X5_readSum.1.cls ≠ "java/lang/invoke/MethodHandle" ∧ m_X5_readSum.1.cls ≠ "java/lang/invoke/VarHandle" ∧ (parseMethodDescriptor m_X5_readSum.1.desc).map (fun d => d.parameters.length) = some 1) ∧ m_X5_readSum.2.2.1 ≤ 22 := ⟨⟨by decide +kernel, by decide +kernel, by decide +kernel⟩, by decide⟩
theorem ml_X5_146 : s_MV RX5 146 m_X5_readSum 1 := ⟨wd_863, wd_865, wd_13, wd_147, wd_866, md_X5_readSum.1, md_X5_readSum.2⟩
theorem md_X5_readPart : (m_X5_readPart.1.cls ≠ "java/lang/invoke/MethodHandle" ∧ m_X5_readPart.1.cls ≠ "java/lang/invoke/VarHandle" ∧ (parseMethodDescriptor m_X5_readPart.1.desc).map (fun d => d.parameters.length) = some 1) ∧ m_X5_readPart.2.2.1 ≤ 22 := ⟨⟨by decide +kernel, by decide +kernel, by decide +kernel⟩, by decide⟩
theorem ml_X5_159 : s_MV RX5 159 m_X5_readPart 1 := ⟨wd_867, wd_869, wd_14, wd_147, wd_870, md_X5_readPart.1, md_X5_readPart.2⟩
theorem md_X5_take : (m_X5_take.1.cls ≠ "java/lang/invoke/MethodHandle" ∧ m_X5_take.1.cls ≠ "java/lang/invoke/VarHandle" ∧ (parseMethodDescriptor m_X5_take.1.desc).map (fun d => d.parameters.length) = some 1) ∧ m_X5_take.2.2.1 ≤ 22 := ⟨⟨by decide +kernel, by decide +kernel, by decide +kernel⟩, by decide⟩
theorem ml_X5_66 : s_MV RX5 66 m_X5_take 1 := ⟨wd_871, wd_873, wd_15, wd_147, wd_874, md_X5_take.1, md_X5_take.2⟩
theorem md_X7_emit : (m_X7_emit.1.cls ≠ "java/lang/invoke/MethodHandle" ∧ m_X7_emit.1.cls ≠ "java/lang/invoke/VarHandle" ∧ (parseMethodDescriptor m_X7_emit.1.desc).map (fun d => d.parameters.length) = some 2) ∧ m_X7_emit.2.2.1 ≤ 22 := ⟨⟨by decide +kernel, by decide +kernel, by decide +kernel⟩, by decide⟩
theorem ml_X5_81 : s_MV RX5 81 m_X7_emit 2 := ⟨wd_875, wd_876, wd_877, wd_148, wd_878, md_X7_emit.1, md_X7_emit.2⟩
theorem md_X5_readWord : (m_X5_readWord.1.cls ≠ "java/lang/invoke/MethodHandle" ∧ m_X5_readWord.1.cls ≠ "java/lang/invoke/VarHandle" ∧ (parseMethodDescriptor m_X5_readWord.1.desc).map (fun d => d.parameters.length) = some 1) ∧ m_X5_readWord.2.2.1 ≤ 22 := ⟨⟨by decide +kernel, by decide +kernel, by decide +kernel⟩, by decide⟩
theorem ml_X5_165 : s_MV RX5 165 m_X5_readWord 1 := ⟨wd_879, wd_881, wd_16, wd_147, wd_882, md_X5_readWord.1, md_X5_readWord.2⟩
theorem ml_X5_168 : s_MS RX5 168 m_X11_within 3 := ⟨Or.inr ⟨_, wn_883⟩, wd_577, wd_145, wd_578, md_X11_within.1, md_X11_within.2⟩
theorem md_X8_cornerSlot : (m_X8_cornerSlot.1.cls ≠ "java/lang/invoke/MethodHandle" ∧ m_X8_cornerSlot.1.cls ≠ "java/lang/invoke/VarHandle" ∧ (parseMethodDescriptor m_X8_cornerSlot.1.desc).map (fun d => d.parameters.length) = some 3) ∧ m_X8_cornerSlot.2.2.1 ≤ 22 := ⟨⟨by decide +kernel, by decide +kernel, by decide +kernel⟩, by decide⟩
theorem ml_X5_174 : s_MS RX5 174 m_X8_cornerSlot 3 := ⟨Or.inl (wd_884), wd_885, wd_152, wd_886, md_X8_cornerSlot.1, md_X8_cornerSlot.2⟩
theorem md_X5_orderOf : (m_X5_orderOf.1.cls ≠ "java/lang/invoke/MethodHandle" ∧ m_X5_orderOf.1.cls ≠ "java/lang/invoke/VarHandle" ∧ (parseMethodDescriptor m_X5_orderOf.1.desc).map (fun d => d.parameters.length) = some 1) ∧ m_X5_orderOf.2.2.1 ≤ 22 := ⟨⟨by decide +kernel, by decide +kernel, by decide +kernel⟩, by decide⟩
theorem ml_X5_162 : s_MS RX5 162 m_X5_orderOf 1 := ⟨Or.inl (wd_887), wd_888, wd_147, wd_889, md_X5_orderOf.1, md_X5_orderOf.2⟩
theorem md_X5_readDriveHead : (m_X5_readDriveHead.1.cls ≠ "java/lang/invoke/MethodHandle" ∧ m_X5_readDriveHead.1.cls ≠ "java/lang/invoke/VarHandle" ∧ (parseMethodDescriptor m_X5_readDriveHead.1.desc).map (fun d => d.parameters.length) = some 1) ∧ m_X5_readDriveHead.2.2.1 ≤ 22 := ⟨⟨by decide +kernel, by decide +kernel, by decide +kernel⟩, by decide⟩
theorem ml_X5_63 : s_MV RX5 63 m_X5_readDriveHead 1 := ⟨wd_890, wd_892, wd_17, wd_147, wd_893, md_X5_readDriveHead.1, md_X5_readDriveHead.2⟩
theorem md_X5_readTimes : (m_X5_readTimes.1.cls ≠ "java/lang/invoke/MethodHandle" ∧ m_X5_readTimes.1.cls ≠ "java/lang/invoke/VarHandle" ∧ (parseMethodDescriptor m_X5_readTimes.1.desc).map (fun d => d.parameters.length) = some 1) ∧ m_X5_readTimes.2.2.1 ≤ 22 := ⟨⟨by decide +kernel, by decide +kernel, by decide +kernel⟩, by decide⟩
theorem ml_X5_143 : s_MV RX5 143 m_X5_readTimes 1 := ⟨wd_894, wd_896, wd_18, wd_147, wd_897, md_X5_readTimes.1, md_X5_readTimes.2⟩
theorem md_X5_readTest : (m_X5_readTest.1.cls ≠ "java/lang/invoke/MethodHandle" ∧ m_X5_readTest.1.cls ≠ "java/lang/invoke/VarHandle" ∧ (parseMethodDescriptor m_X5_readTest.1.desc).map (fun d => d.parameters.length) = some 1) ∧ m_X5_readTest.2.2.1 ≤ 22 := ⟨⟨by decide +kernel, by decide +kernel, by decide +kernel⟩, by decide⟩
theorem ml_X5_76 : s_MV RX5 76 m_X5_readTest 1 := ⟨wd_898, wd_900, wd_19, wd_147, wd_901, md_X5_readTest.1, md_X5_readTest.2⟩
theorem md_X5_readPlain : (m_X5_readPlain.1.cls ≠ "java/lang/invoke/MethodHandle" ∧ m_X5_readPlain.1.cls ≠ "java/lang/invoke/VarHandle" ∧ (parseMethodDescriptor m_X5_readPlain.1.desc).map (fun d => d.parameters.length) = some 1) ∧ m_X5_readPlain.2.2.1 ≤ 22 := ⟨⟨by decide +kernel, by decide +kernel, by decide +kernel⟩, by decide⟩
theorem ml_X5_149 : s_MV RX5 149 m_X5_readPlain 1 := ⟨wd_902, wd_904, wd_20, wd_147, wd_905, md_X5_readPlain.1, md_X5_readPlain.2⟩
theorem md_X5_relationOf : (m_X5_relationOf.1.cls ≠ "java/lang/invoke/MethodHandle" ∧ m_X5_relationOf.1.cls ≠ "java/lang/invoke/VarHandle" ∧ (parseMethodDescriptor m_X5_relationOf.1.desc).map (fun d => d.parameters.length) = some 1) ∧ m_X5_relationOf.2.2.1 ≤ 22 := ⟨⟨by decide +kernel, by decide +kernel, by decide +kernel⟩, by decide⟩
theorem ml_X5_156 : s_MS RX5 156 m_X5_relationOf 1 := ⟨Or.inl (wd_906), wd_907, wd_147, wd_908, md_X5_relationOf.1, md_X5_relationOf.2⟩
theorem md_X7_landHere : (m_X7_landHere.1.cls ≠ "java/lang/invoke/MethodHandle" ∧ m_X7_landHere.1.cls ≠ "java/lang/invoke/VarHandle" ∧ (parseMethodDescriptor m_X7_landHere.1.desc).map (fun d => d.parameters.length) = some 1) ∧ m_X7_landHere.2.2.1 ≤ 22 := ⟨⟨by decide +kernel, by decide +kernel, by decide +kernel⟩, by decide⟩
theorem ml_X5_152 : s_MV RX5 152 m_X7_landHere 1 := ⟨wd_909, wd_910, wd_911, wd_148, wd_912, md_X7_landHere.1, md_X7_landHere.2⟩
theorem md_X5_placeOfNext : (m_X5_placeOfNext.1.cls ≠ "java/lang/invoke/MethodHandle" ∧ m_X5_placeOfNext.1.cls ≠ "java/lang/invoke/VarHandle" ∧ (parseMethodDescriptor m_X5_placeOfNext.1.desc).map (fun d => d.parameters.length) = some 0) ∧ m_X5_placeOfNext.2.2.1 ≤ 22 := ⟨⟨by decide +kernel, by decide +kernel, by decide +kernel⟩, by decide⟩
theorem ml_X5_88 : s_MV RX5 88 m_X5_placeOfNext 0 := ⟨wd_913, wd_915, wd_21, wd_147, wd_916, md_X5_placeOfNext.1, md_X5_placeOfNext.2⟩
theorem md_X7_exactCopy : (m_X7_exactCopy.1.cls ≠ "java/lang/invoke/MethodHandle" ∧ m_X7_exactCopy.1.cls ≠ "java/lang/invoke/VarHandle" ∧ (parseMethodDescriptor m_X7_exactCopy.1.desc).map (fun d => d.parameters.length) = some 0) ∧ m_X7_exactCopy.2.2.1 ≤ 22 := ⟨⟨by decide +kernel, by decide +kernel, by decide +kernel⟩, by decide⟩
theorem ml_X11_222 : s_MV RX11 222 m_X7_exactCopy 0 := ⟨wd_917, wd_918, wd_919, wd_148, wd_920, md_X7_exactCopy.1, md_X7_exactCopy.2⟩
theorem cl_X7_15 : s_Nw RX7 15 7 5 [.null, .null, .int 0, .int 0, .int 0] := ⟨RX7, TX7, tyX7, rfl, tyX7_ok, by decide +kernel, wd_921, wd_256, wd_148⟩
theorem ck_X7_15 : Cond.classLink RX7 15 "ShadowHerds$Script" ∈ s_tb := wd_921
theorem ml_X7_35 : s_MI RX7 35 m_X7_init 2 := ⟨Or.inl (wd_922), wd_258, wd_148, wd_259, rfl, rfl, md_X7_init.1, md_X7_init.2⟩
theorem ml_X7_38 : s_J_min RX7 38 := ⟨wd_923, wd_832, wd_149, wd_833⟩
theorem ml_X7_41 : s_J_copy RX7 41 := ⟨wd_924, wd_702, wd_701, wd_163⟩
theorem md_X3_addLaw : (m_X3_addLaw.1.cls ≠ "java/lang/invoke/MethodHandle" ∧ m_X3_addLaw.1.cls ≠ "java/lang/invoke/VarHandle" ∧ (parseMethodDescriptor m_X3_addLaw.1.desc).map (fun d => d.parameters.length) = some 1) ∧ m_X3_addLaw.2.2.1 ≤ 22 := ⟨⟨by decide +kernel, by decide +kernel, by decide +kernel⟩, by decide⟩
theorem ml_X11_228 : s_MV RX11 228 m_X3_addLaw 1 := ⟨wd_925, wd_926, wd_927, wd_146, wd_928, md_X3_addLaw.1, md_X3_addLaw.2⟩
theorem md_X11_drives : (m_X11_drives.1.cls ≠ "java/lang/invoke/MethodHandle" ∧ m_X11_drives.1.cls ≠ "java/lang/invoke/VarHandle" ∧ (parseMethodDescriptor m_X11_drives.1.desc).map (fun d => d.parameters.length) = some 0) ∧ m_X11_drives.2.2.1 ≤ 22 := ⟨⟨by decide +kernel, by decide +kernel, by decide +kernel⟩, by decide⟩
theorem ml_L_78 : s_MV RL 78 m_X11_drives 0 := ⟨wd_930, wd_931, wd_932, wd_145, wd_933, md_X11_drives.1, md_X11_drives.2⟩
theorem md_X11_runClause : (m_X11_runClause.1.cls ≠ "java/lang/invoke/MethodHandle" ∧ m_X11_runClause.1.cls ≠ "java/lang/invoke/VarHandle" ∧ (parseMethodDescriptor m_X11_runClause.1.desc).map (fun d => d.parameters.length) = some 2) ∧ m_X11_runClause.2.2.1 ≤ 22 := ⟨⟨by decide +kernel, by decide +kernel, by decide +kernel⟩, by decide⟩
theorem ml_X11_235 : s_MV RX11 235 m_X11_runClause 2 := ⟨wd_934, wd_936, wd_22, wd_145, wd_937, md_X11_runClause.1, md_X11_runClause.2⟩
theorem md_X7_head : (m_X7_head.1.cls ≠ "java/lang/invoke/MethodHandle" ∧ m_X7_head.1.cls ≠ "java/lang/invoke/VarHandle" ∧ (parseMethodDescriptor m_X7_head.1.desc).map (fun d => d.parameters.length) = some 2) ∧ m_X7_head.2.2.1 ≤ 22 := ⟨⟨by decide +kernel, by decide +kernel, by decide +kernel⟩, by decide⟩
theorem ml_X11_347 : s_MV RX11 347 m_X7_head 2 := ⟨wd_938, wd_939, wd_940, wd_148, wd_941, md_X7_head.1, md_X7_head.2⟩
theorem md_X11_tellWords : (m_X11_tellWords.1.cls ≠ "java/lang/invoke/MethodHandle" ∧ m_X11_tellWords.1.cls ≠ "java/lang/invoke/VarHandle" ∧ (parseMethodDescriptor m_X11_tellWords.1.desc).map (fun d => d.parameters.length) = some 1) ∧ m_X11_tellWords.2.2.1 ≤ 22 := ⟨⟨by decide +kernel, by decide +kernel, by decide +kernel⟩, by decide⟩
theorem ml_X11_350 : s_MV RX11 350 m_X11_tellWords 1 := ⟨wd_942, wd_944, wd_23, wd_145, wd_945, md_X11_tellWords.1, md_X11_tellWords.2⟩
theorem md_X8_look : (m_X8_look.1.cls ≠ "java/lang/invoke/MethodHandle" ∧ m_X8_look.1.cls ≠ "java/lang/invoke/VarHandle" ∧ (parseMethodDescriptor m_X8_look.1.desc).map (fun d => d.parameters.length) = some 0) ∧ m_X8_look.2.2.1 ≤ 22 := ⟨⟨by decide +kernel, by decide +kernel, by decide +kernel⟩, by decide⟩
theorem ml_X11_245 : s_MV RX11 245 m_X8_look 0 := ⟨wd_946, wd_947, wd_948, wd_152, wd_949, md_X8_look.1, md_X8_look.2⟩
theorem md_X8_hearFlags : (m_X8_hearFlags.1.cls ≠ "java/lang/invoke/MethodHandle" ∧ m_X8_hearFlags.1.cls ≠ "java/lang/invoke/VarHandle" ∧ (parseMethodDescriptor m_X8_hearFlags.1.desc).map (fun d => d.parameters.length) = some 0) ∧ m_X8_hearFlags.2.2.1 ≤ 22 := ⟨⟨by decide +kernel, by decide +kernel, by decide +kernel⟩, by decide⟩
theorem ml_X8_43 : s_MV RX8 43 m_X8_hearFlags 0 := ⟨wd_950, wd_951, wd_952, wd_152, wd_953, md_X8_hearFlags.1, md_X8_hearFlags.2⟩
theorem ml_X8_66 : s_MV RX8 66 m_X3_flagFact 2 := ⟨wd_954, wd_643, wd_644, wd_146, wd_645, md_X3_flagFact.1, md_X3_flagFact.2⟩
theorem md_X8_tell : (m_X8_tell.1.cls ≠ "java/lang/invoke/MethodHandle" ∧ m_X8_tell.1.cls ≠ "java/lang/invoke/VarHandle" ∧ (parseMethodDescriptor m_X8_tell.1.desc).map (fun d => d.parameters.length) = some 3) ∧ m_X8_tell.2.2.1 ≤ 22 := ⟨⟨by decide +kernel, by decide +kernel, by decide +kernel⟩, by decide⟩
theorem ml_X8_70 : s_MV RX8 70 m_X8_tell 3 := ⟨wd_955, wd_956, wd_957, wd_152, wd_958, md_X8_tell.1, md_X8_tell.2⟩
theorem ml_X8_26 : s_MS RX8 26 m_X11_within 3 := ⟨Or.inr ⟨_, wn_959⟩, wd_577, wd_145, wd_578, md_X11_within.1, md_X11_within.2⟩
theorem md_X3_startOf : (m_X3_startOf.1.cls ≠ "java/lang/invoke/MethodHandle" ∧ m_X3_startOf.1.cls ≠ "java/lang/invoke/VarHandle" ∧ (parseMethodDescriptor m_X3_startOf.1.desc).map (fun d => d.parameters.length) = some 1) ∧ m_X3_startOf.2.2.1 ≤ 22 := ⟨⟨by decide +kernel, by decide +kernel, by decide +kernel⟩, by decide⟩
theorem ml_X8_52 : s_MV RX8 52 m_X3_startOf 1 := ⟨wd_960, wd_961, wd_962, wd_146, wd_963, md_X3_startOf.1, md_X3_startOf.2⟩
theorem ml_X3_75 : s_MV RX3 75 m_X3_cloudFact 2 := ⟨wd_964, wd_623, wd_624, wd_146, wd_625, md_X3_cloudFact.1, md_X3_cloudFact.2⟩
theorem md_X8_spotAt : (m_X8_spotAt.1.cls ≠ "java/lang/invoke/MethodHandle" ∧ m_X8_spotAt.1.cls ≠ "java/lang/invoke/VarHandle" ∧ (parseMethodDescriptor m_X8_spotAt.1.desc).map (fun d => d.parameters.length) = some 2) ∧ m_X8_spotAt.2.2.1 ≤ 22 := ⟨⟨by decide +kernel, by decide +kernel, by decide +kernel⟩, by decide⟩
theorem ml_X3_79 : s_MS RX3 79 m_X8_spotAt 2 := ⟨Or.inl (wd_965), wd_966, wd_152, wd_967, md_X8_spotAt.1, md_X8_spotAt.2⟩
theorem md_X8_place : (m_X8_place.1.cls ≠ "java/lang/invoke/MethodHandle" ∧ m_X8_place.1.cls ≠ "java/lang/invoke/VarHandle" ∧ (parseMethodDescriptor m_X8_place.1.desc).map (fun d => d.parameters.length) = some 3) ∧ m_X8_place.2.2.1 ≤ 22 := ⟨⟨by decide +kernel, by decide +kernel, by decide +kernel⟩, by decide⟩
theorem ml_X8_55 : s_MV RX8 55 m_X8_place 3 := ⟨wd_968, wd_969, wd_970, wd_152, wd_971, md_X8_place.1, md_X8_place.2⟩
theorem ml_X8_100 : s_MS RX8 100 m_X11_isHour 1 := ⟨Or.inr ⟨_, wn_972⟩, wd_663, wd_145, wd_664, md_X11_isHour.1, md_X11_isHour.2⟩
theorem md_X8_goOn : (m_X8_goOn.1.cls ≠ "java/lang/invoke/MethodHandle" ∧ m_X8_goOn.1.cls ≠ "java/lang/invoke/VarHandle" ∧ (parseMethodDescriptor m_X8_goOn.1.desc).map (fun d => d.parameters.length) = some 3) ∧ m_X8_goOn.2.2.1 ≤ 22 := ⟨⟨by decide +kernel, by decide +kernel, by decide +kernel⟩, by decide⟩
theorem ml_X8_59 : s_MV RX8 59 m_X8_goOn 3 := ⟨wd_973, wd_974, wd_975, wd_152, wd_976, md_X8_goOn.1, md_X8_goOn.2⟩
theorem md_X8_spotOf : (m_X8_spotOf.1.cls ≠ "java/lang/invoke/MethodHandle" ∧ m_X8_spotOf.1.cls ≠ "java/lang/invoke/VarHandle" ∧ (parseMethodDescriptor m_X8_spotOf.1.desc).map (fun d => d.parameters.length) = some 2) ∧ m_X8_spotOf.2.2.1 ≤ 22 := ⟨⟨by decide +kernel, by decide +kernel, by decide +kernel⟩, by decide⟩
theorem ml_X8_73 : s_MV RX8 73 m_X8_spotOf 2 := ⟨wd_977, wd_978, wd_979, wd_152, wd_980, md_X8_spotOf.1, md_X8_spotOf.2⟩
theorem md_X8_flagOf : (m_X8_flagOf.1.cls ≠ "java/lang/invoke/MethodHandle" ∧ m_X8_flagOf.1.cls ≠ "java/lang/invoke/VarHandle" ∧ (parseMethodDescriptor m_X8_flagOf.1.desc).map (fun d => d.parameters.length) = some 2) ∧ m_X8_flagOf.2.2.1 ≤ 22 := ⟨⟨by decide +kernel, by decide +kernel, by decide +kernel⟩, by decide⟩
theorem ml_X8_76 : s_MV RX8 76 m_X8_flagOf 2 := ⟨wd_981, wd_982, wd_983, wd_152, wd_984, md_X8_flagOf.1, md_X8_flagOf.2⟩
theorem md_X0_hindrance : (m_X0_hindrance.1.cls ≠ "java/lang/invoke/MethodHandle" ∧ m_X0_hindrance.1.cls ≠ "java/lang/invoke/VarHandle" ∧ (parseMethodDescriptor m_X0_hindrance.1.desc).map (fun d => d.parameters.length) = some 3) ∧ m_X0_hindrance.2.2.1 ≤ 22 := ⟨⟨by decide +kernel, by decide +kernel, by decide +kernel⟩, by decide⟩
theorem ml_X8_79 : s_MV RX8 79 m_X0_hindrance 3 := ⟨wd_985, wd_986, wd_987, wd_151, wd_988, md_X0_hindrance.1, md_X0_hindrance.2⟩
theorem md_X8_xOf : (m_X8_xOf.1.cls ≠ "java/lang/invoke/MethodHandle" ∧ m_X8_xOf.1.cls ≠ "java/lang/invoke/VarHandle" ∧ (parseMethodDescriptor m_X8_xOf.1.desc).map (fun d => d.parameters.length) = some 1) ∧ m_X8_xOf.2.2.1 ≤ 22 := ⟨⟨by decide +kernel, by decide +kernel, by decide +kernel⟩, by decide⟩
theorem ml_X0_32 : s_MS RX0 32 m_X8_xOf 1 := ⟨Or.inl (wd_989), wd_990, wd_152, wd_991, md_X8_xOf.1, md_X8_xOf.2⟩
theorem md_X8_yOf : (m_X8_yOf.1.cls ≠ "java/lang/invoke/MethodHandle" ∧ m_X8_yOf.1.cls ≠ "java/lang/invoke/VarHandle" ∧ (parseMethodDescriptor m_X8_yOf.1.desc).map (fun d => d.parameters.length) = some 1) ∧ m_X8_yOf.2.2.1 ≤ 22 := ⟨⟨by decide +kernel, by decide +kernel, by decide +kernel⟩, by decide⟩
theorem ml_X0_38 : s_MS RX0 38 m_X8_yOf 1 := ⟨Or.inl (wd_992), wd_993, wd_152, wd_994, md_X8_yOf.1, md_X8_yOf.2⟩
theorem md_X0_tellWords : (m_X0_tellWords.1.cls ≠ "java/lang/invoke/MethodHandle" ∧ m_X0_tellWords.1.cls ≠ "java/lang/invoke/VarHandle" ∧ (parseMethodDescriptor m_X0_tellWords.1.desc).map (fun d => d.parameters.length) = some 4) ∧ m_X0_tellWords.2.2.1 ≤ 22 := ⟨⟨by decide +kernel, by decide +kernel, by decide +kernel⟩, by decide⟩
theorem ml_X0_41 : s_MV RX0 41 m_X0_tellWords 4 := ⟨wd_995, wd_997, wd_24, wd_151, wd_998, md_X0_tellWords.1, md_X0_tellWords.2⟩
theorem ml_X0_51 : s_MV RX0 51 m_X3_cloudFact 2 := ⟨wd_999, wd_623, wd_624, wd_146, wd_625, md_X3_cloudFact.1, md_X3_cloudFact.2⟩
theorem md_X0_toldBy : (m_X0_toldBy.1.cls ≠ "java/lang/invoke/MethodHandle" ∧ m_X0_toldBy.1.cls ≠ "java/lang/invoke/VarHandle" ∧ (parseMethodDescriptor m_X0_toldBy.1.desc).map (fun d => d.parameters.length) = some 2) ∧ m_X0_toldBy.2.2.1 ≤ 22 := ⟨⟨by decide +kernel, by decide +kernel, by decide +kernel⟩, by decide⟩
theorem ml_X0_28 : s_MV RX0 28 m_X0_toldBy 2 := ⟨wd_1000, wd_1002, wd_25, wd_151, wd_1003, md_X0_toldBy.1, md_X0_toldBy.2⟩
theorem md_X3_lawInForce : (m_X3_lawInForce.1.cls ≠ "java/lang/invoke/MethodHandle" ∧ m_X3_lawInForce.1.cls ≠ "java/lang/invoke/VarHandle" ∧ (parseMethodDescriptor m_X3_lawInForce.1.desc).map (fun d => d.parameters.length) = some 0) ∧ m_X3_lawInForce.2.2.1 ≤ 22 := ⟨⟨by decide +kernel, by decide +kernel, by decide +kernel⟩, by decide⟩
theorem ml_X0_68 : s_MV RX0 68 m_X3_lawInForce 0 := ⟨wd_1004, wd_1005, wd_1006, wd_146, wd_1007, md_X3_lawInForce.1, md_X3_lawInForce.2⟩
theorem ml_X0_78 : s_MV RX0 78 m_X7_head 2 := ⟨wd_1008, wd_939, wd_940, wd_148, wd_941, md_X7_head.1, md_X7_head.2⟩
theorem md_X6_valueOf : (m_X6_valueOf.1.cls ≠ "java/lang/invoke/MethodHandle" ∧ m_X6_valueOf.1.cls ≠ "java/lang/invoke/VarHandle" ∧ (parseMethodDescriptor m_X6_valueOf.1.desc).map (fun d => d.parameters.length) = some 2) ∧ m_X6_valueOf.2.2.1 ≤ 22 := ⟨⟨by decide +kernel, by decide +kernel, by decide +kernel⟩, by decide⟩
theorem ml_X0_81 : s_MV RX0 81 m_X6_valueOf 2 := ⟨wd_1009, wd_1010, wd_1011, wd_150, wd_1012, md_X6_valueOf.1, md_X6_valueOf.2⟩
theorem k_X6_28 : Cond.constant RX6 28 (-2147483648 : Int32) ∈ s_tb := wd_1013
theorem md_X6_fetched : (m_X6_fetched.1.cls ≠ "java/lang/invoke/MethodHandle" ∧ m_X6_fetched.1.cls ≠ "java/lang/invoke/VarHandle" ∧ (parseMethodDescriptor m_X6_fetched.1.desc).map (fun d => d.parameters.length) = some 2) ∧ m_X6_fetched.2.2.1 ≤ 22 := ⟨⟨by decide +kernel, by decide +kernel, by decide +kernel⟩, by decide⟩
theorem ml_X6_29 : s_MV RX6 29 m_X6_fetched 2 := ⟨wd_1014, wd_1016, wd_26, wd_150, wd_1017, md_X6_fetched.1, md_X6_fetched.2⟩
theorem md_X6_joined : (m_X6_joined.1.cls ≠ "java/lang/invoke/MethodHandle" ∧ m_X6_joined.1.cls ≠ "java/lang/invoke/VarHandle" ∧ (parseMethodDescriptor m_X6_joined.1.desc).map (fun d => d.parameters.length) = some 3) ∧ m_X6_joined.2.2.1 ≤ 22 := ⟨⟨by decide +kernel, by decide +kernel, by decide +kernel⟩, by decide⟩
theorem ml_X6_33 : s_MS RX6 33 m_X6_joined 3 := ⟨Or.inl (wd_1018), wd_1019, wd_150, wd_1020, md_X6_joined.1, md_X6_joined.2⟩
theorem k_X6_37 : Cond.constantLong RX6 37 (-2147483648 : Int64) ∈ s_tb := wd_1021
theorem k_X6_39 : Cond.constantLong RX6 39 (-1000000000 : Int64) ∈ s_tb := wd_1022
theorem k_X6_41 : Cond.constantLong RX6 41 (1000000000 : Int64) ∈ s_tb := wd_1023
theorem k_X0_85 : Cond.constant RX0 85 (-2147483648 : Int32) ∈ s_tb := wd_1024
theorem ml_X0_86 : s_J_min RX0 86 := ⟨wd_1025, wd_832, wd_149, wd_833⟩
theorem ml_X0_91 : s_J_max RX0 91 := ⟨wd_1026, wd_262, wd_149, wd_263⟩
theorem md_X0_isOverWater : (m_X0_isOverWater.1.cls ≠ "java/lang/invoke/MethodHandle" ∧ m_X0_isOverWater.1.cls ≠ "java/lang/invoke/VarHandle" ∧ (parseMethodDescriptor m_X0_isOverWater.1.desc).map (fun d => d.parameters.length) = some 1) ∧ m_X0_isOverWater.2.2.1 ≤ 22 := ⟨⟨by decide +kernel, by decide +kernel, by decide +kernel⟩, by decide⟩
theorem ml_X0_54 : s_MV RX0 54 m_X0_isOverWater 1 := ⟨wd_1027, wd_1029, wd_27, wd_151, wd_1030, md_X0_isOverWater.1, md_X0_isOverWater.2⟩
theorem ml_X0_58 : s_MS RX0 58 m_X11_within 3 := ⟨Or.inr ⟨_, wn_1031⟩, wd_577, wd_145, wd_578, md_X11_within.1, md_X11_within.2⟩
theorem ml_X0_62 : s_MV RX0 62 m_X3_fieldFact 2 := ⟨wd_1032, wd_588, wd_589, wd_146, wd_590, md_X3_fieldFact.1, md_X3_fieldFact.2⟩
theorem md_X3_windXOf : (m_X3_windXOf.1.cls ≠ "java/lang/invoke/MethodHandle" ∧ m_X3_windXOf.1.cls ≠ "java/lang/invoke/VarHandle" ∧ (parseMethodDescriptor m_X3_windXOf.1.desc).map (fun d => d.parameters.length) = some 1) ∧ m_X3_windXOf.2.2.1 ≤ 22 := ⟨⟨by decide +kernel, by decide +kernel, by decide +kernel⟩, by decide⟩
theorem ml_X8_85 : s_MV RX8 85 m_X3_windXOf 1 := ⟨wd_1033, wd_1034, wd_1035, wd_146, wd_1036, md_X3_windXOf.1, md_X3_windXOf.2⟩
theorem md_X3_windYOf : (m_X3_windYOf.1.cls ≠ "java/lang/invoke/MethodHandle" ∧ m_X3_windYOf.1.cls ≠ "java/lang/invoke/VarHandle" ∧ (parseMethodDescriptor m_X3_windYOf.1.desc).map (fun d => d.parameters.length) = some 1) ∧ m_X3_windYOf.2.2.1 ≤ 22 := ⟨⟨by decide +kernel, by decide +kernel, by decide +kernel⟩, by decide⟩
theorem ml_X8_88 : s_MV RX8 88 m_X3_windYOf 1 := ⟨wd_1037, wd_1038, wd_1039, wd_146, wd_1040, md_X3_windYOf.1, md_X3_windYOf.2⟩
theorem md_X8_stepX : (m_X8_stepX.1.cls ≠ "java/lang/invoke/MethodHandle" ∧ m_X8_stepX.1.cls ≠ "java/lang/invoke/VarHandle" ∧ (parseMethodDescriptor m_X8_stepX.1.desc).map (fun d => d.parameters.length) = some 1) ∧ m_X8_stepX.2.2.1 ≤ 22 := ⟨⟨by decide +kernel, by decide +kernel, by decide +kernel⟩, by decide⟩
theorem ml_X8_91 : s_MS RX8 91 m_X8_stepX 1 := ⟨Or.inl (wd_1041), wd_1042, wd_152, wd_1043, md_X8_stepX.1, md_X8_stepX.2⟩
theorem md_X8_stepY : (m_X8_stepY.1.cls ≠ "java/lang/invoke/MethodHandle" ∧ m_X8_stepY.1.cls ≠ "java/lang/invoke/VarHandle" ∧ (parseMethodDescriptor m_X8_stepY.1.desc).map (fun d => d.parameters.length) = some 1) ∧ m_X8_stepY.2.2.1 ≤ 22 := ⟨⟨by decide +kernel, by decide +kernel, by decide +kernel⟩, by decide⟩
theorem ml_X8_94 : s_MS RX8 94 m_X8_stepY 1 := ⟨Or.inl (wd_1046), wd_1047, wd_152, wd_1048, md_X8_stepY.1, md_X8_stepY.2⟩
theorem md_X8_movedBy : (m_X8_movedBy.1.cls ≠ "java/lang/invoke/MethodHandle" ∧ m_X8_movedBy.1.cls ≠ "java/lang/invoke/VarHandle" ∧ (parseMethodDescriptor m_X8_movedBy.1.desc).map (fun d => d.parameters.length) = some 3) ∧ m_X8_movedBy.2.2.1 ≤ 22 := ⟨⟨by decide +kernel, by decide +kernel, by decide +kernel⟩, by decide⟩
theorem ml_X8_97 : s_MS RX8 97 m_X8_movedBy 3 := ⟨Or.inl (wd_1051), wd_1052, wd_152, wd_1053, md_X8_movedBy.1, md_X8_movedBy.2⟩
theorem md_X8_tellCorners : (m_X8_tellCorners.1.cls ≠ "java/lang/invoke/MethodHandle" ∧ m_X8_tellCorners.1.cls ≠ "java/lang/invoke/VarHandle" ∧ (parseMethodDescriptor m_X8_tellCorners.1.desc).map (fun d => d.parameters.length) = some 1) ∧ m_X8_tellCorners.2.2.1 ≤ 22 := ⟨⟨by decide +kernel, by decide +kernel, by decide +kernel⟩, by decide⟩
theorem ml_X11_360 : s_MV RX11 360 m_X8_tellCorners 1 := ⟨wd_1054, wd_1055, wd_1056, wd_152, wd_1057, md_X8_tellCorners.1, md_X8_tellCorners.2⟩
theorem ml_X8_119 : s_MV RX8 119 m_X3_isCloud 1 := ⟨wd_1058, wd_627, wd_628, wd_146, wd_629, md_X3_isCloud.1, md_X3_isCloud.2⟩
theorem ml_X8_122 : s_MS RX8 122 m_X8_cornerSlot 3 := ⟨Or.inl (wd_1059), wd_885, wd_152, wd_886, md_X8_cornerSlot.1, md_X8_cornerSlot.2⟩
theorem ml_X8_30 : s_MS RX8 30 m_X8_xOf 1 := ⟨Or.inl (wd_1060), wd_990, wd_152, wd_991, md_X8_xOf.1, md_X8_xOf.2⟩
theorem ml_X8_34 : s_MS RX8 34 m_X8_yOf 1 := ⟨Or.inl (wd_1061), wd_993, wd_152, wd_994, md_X8_yOf.1, md_X8_yOf.2⟩
theorem ml_X11_364 : s_MV RX11 364 m_X6_valueOf 2 := ⟨wd_1062, wd_1010, wd_1011, wd_150, wd_1012, md_X6_valueOf.1, md_X6_valueOf.2⟩
theorem md_X11_runOnce : (m_X11_runOnce.1.cls ≠ "java/lang/invoke/MethodHandle" ∧ m_X11_runOnce.1.cls ≠ "java/lang/invoke/VarHandle" ∧ (parseMethodDescriptor m_X11_runOnce.1.desc).map (fun d => d.parameters.length) = some 3) ∧ m_X11_runOnce.2.2.1 ≤ 22 := ⟨⟨by decide +kernel, by decide +kernel, by decide +kernel⟩, by decide⟩
theorem ml_X11_367 : s_MV RX11 367 m_X11_runOnce 3 := ⟨wd_1063, wd_1065, wd_28, wd_145, wd_1066, md_X11_runOnce.1, md_X11_runOnce.2⟩
theorem k_X11_371 : Cond.constant RX11 371 (-2147483648 : Int32) ∈ s_tb := wd_1067
theorem k_X11_372 : Cond.constantLong RX11 372 (11 : Int64) ∈ s_tb := wd_1068
theorem md_X11_fault : (m_X11_fault.1.cls ≠ "java/lang/invoke/MethodHandle" ∧ m_X11_fault.1.cls ≠ "java/lang/invoke/VarHandle" ∧ (parseMethodDescriptor m_X11_fault.1.desc).map (fun d => d.parameters.length) = some 0) ∧ m_X11_fault.2.2.1 ≤ 22 := ⟨⟨by decide +kernel, by decide +kernel, by decide +kernel⟩, by decide⟩
theorem ml_L_82 : s_MV RL 82 m_X11_fault 0 := ⟨wd_1069, wd_1070, wd_1071, wd_145, wd_1072, md_X11_fault.1, md_X11_fault.2⟩
theorem md_X11_stopped : (m_X11_stopped.1.cls ≠ "java/lang/invoke/MethodHandle" ∧ m_X11_stopped.1.cls ≠ "java/lang/invoke/VarHandle" ∧ (parseMethodDescriptor m_X11_stopped.1.desc).map (fun d => d.parameters.length) = some 0) ∧ m_X11_stopped.2.2.1 ≤ 22 := ⟨⟨by decide +kernel, by decide +kernel, by decide +kernel⟩, by decide⟩
theorem ml_L_86 : s_MV RL 86 m_X11_stopped 0 := ⟨wd_1073, wd_1074, wd_1075, wd_145, wd_1076, md_X11_stopped.1, md_X11_stopped.2⟩
theorem md_X11_force : (m_X11_force.1.cls ≠ "java/lang/invoke/MethodHandle" ∧ m_X11_force.1.cls ≠ "java/lang/invoke/VarHandle" ∧ (parseMethodDescriptor m_X11_force.1.desc).map (fun d => d.parameters.length) = some 1) ∧ m_X11_force.2.2.1 ≤ 22 := ⟨⟨by decide +kernel, by decide +kernel, by decide +kernel⟩, by decide⟩
theorem ml_L_90 : s_MV RL 90 m_X11_force 1 := ⟨wd_1077, wd_1078, wd_1079, wd_145, wd_1080, md_X11_force.1, md_X11_force.2⟩
theorem md_X11_asks : (m_X11_asks.1.cls ≠ "java/lang/invoke/MethodHandle" ∧ m_X11_asks.1.cls ≠ "java/lang/invoke/VarHandle" ∧ (parseMethodDescriptor m_X11_asks.1.desc).map (fun d => d.parameters.length) = some 3) ∧ m_X11_asks.2.2.1 ≤ 22 := ⟨⟨by decide +kernel, by decide +kernel, by decide +kernel⟩, by decide⟩
theorem ml_L_94 : s_MV RL 94 m_X11_asks 3 := ⟨wd_1081, wd_1082, wd_1083, wd_145, wd_1084, md_X11_asks.1, md_X11_asks.2⟩
theorem md_X0_worthOf : (m_X0_worthOf.1.cls ≠ "java/lang/invoke/MethodHandle" ∧ m_X0_worthOf.1.cls ≠ "java/lang/invoke/VarHandle" ∧ (parseMethodDescriptor m_X0_worthOf.1.desc).map (fun d => d.parameters.length) = some 2) ∧ m_X0_worthOf.2.2.1 ≤ 22 := ⟨⟨by decide +kernel, by decide +kernel, by decide +kernel⟩, by decide⟩
theorem ml_X11_242 : s_MV RX11 242 m_X0_worthOf 2 := ⟨wd_1085, wd_1086, wd_1087, wd_151, wd_1088, md_X0_worthOf.1, md_X0_worthOf.2⟩
theorem md_X0_askField : (m_X0_askField.1.cls ≠ "java/lang/invoke/MethodHandle" ∧ m_X0_askField.1.cls ≠ "java/lang/invoke/VarHandle" ∧ (parseMethodDescriptor m_X0_askField.1.desc).map (fun d => d.parameters.length) = some 3) ∧ m_X0_askField.2.2.1 ≤ 22 := ⟨⟨by decide +kernel, by decide +kernel, by decide +kernel⟩, by decide⟩
theorem ml_X0_22 : s_MV RX0 22 m_X0_askField 3 := ⟨wd_1089, wd_1091, wd_29, wd_151, wd_1092, md_X0_askField.1, md_X0_askField.2⟩
theorem md_X8_shadeOf : (m_X8_shadeOf.1.cls ≠ "java/lang/invoke/MethodHandle" ∧ m_X8_shadeOf.1.cls ≠ "java/lang/invoke/VarHandle" ∧ (parseMethodDescriptor m_X8_shadeOf.1.desc).map (fun d => d.parameters.length) = some 2) ∧ m_X8_shadeOf.2.2.1 ≤ 22 := ⟨⟨by decide +kernel, by decide +kernel, by decide +kernel⟩, by decide⟩
theorem ml_X11_248 : s_MV RX11 248 m_X8_shadeOf 2 := ⟨wd_1093, wd_1094, wd_1095, wd_152, wd_1096, md_X8_shadeOf.1, md_X8_shadeOf.2⟩
theorem md_X3_shadowCovers : (m_X3_shadowCovers.1.cls ≠ "java/lang/invoke/MethodHandle" ∧ m_X3_shadowCovers.1.cls ≠ "java/lang/invoke/VarHandle" ∧ (parseMethodDescriptor m_X3_shadowCovers.1.desc).map (fun d => d.parameters.length) = some 3) ∧ m_X3_shadowCovers.2.2.1 ≤ 22 := ⟨⟨by decide +kernel, by decide +kernel, by decide +kernel⟩, by decide⟩
theorem ml_X8_104 : s_MV RX8 104 m_X3_shadowCovers 3 := ⟨wd_1097, wd_1098, wd_1099, wd_146, wd_1100, md_X3_shadowCovers.1, md_X3_shadowCovers.2⟩
theorem md_X8_covers : (m_X8_covers.1.cls ≠ "java/lang/invoke/MethodHandle" ∧ m_X8_covers.1.cls ≠ "java/lang/invoke/VarHandle" ∧ (parseMethodDescriptor m_X8_covers.1.desc).map (fun d => d.parameters.length) = some 4) ∧ m_X8_covers.2.2.1 ≤ 22 := ⟨⟨by decide +kernel, by decide +kernel, by decide +kernel⟩, by decide⟩
theorem ml_X3_84 : s_MS RX3 84 m_X8_covers 4 := ⟨Or.inl (wd_1101), wd_1102, wd_152, wd_1103, md_X8_covers.1, md_X8_covers.2⟩
theorem md_X0_heatsBy : (m_X0_heatsBy.1.cls ≠ "java/lang/invoke/MethodHandle" ∧ m_X0_heatsBy.1.cls ≠ "java/lang/invoke/VarHandle" ∧ (parseMethodDescriptor m_X0_heatsBy.1.desc).map (fun d => d.parameters.length) = some 3) ∧ m_X0_heatsBy.2.2.1 ≤ 22 := ⟨⟨by decide +kernel, by decide +kernel, by decide +kernel⟩, by decide⟩
theorem ml_X11_251 : s_MV RX11 251 m_X0_heatsBy 3 := ⟨wd_1104, wd_1105, wd_1106, wd_151, wd_1107, md_X0_heatsBy.1, md_X0_heatsBy.2⟩
theorem md_X0_coolsBy : (m_X0_coolsBy.1.cls ≠ "java/lang/invoke/MethodHandle" ∧ m_X0_coolsBy.1.cls ≠ "java/lang/invoke/VarHandle" ∧ (parseMethodDescriptor m_X0_coolsBy.1.desc).map (fun d => d.parameters.length) = some 3) ∧ m_X0_coolsBy.2.2.1 ≤ 22 := ⟨⟨by decide +kernel, by decide +kernel, by decide +kernel⟩, by decide⟩
theorem ml_X11_254 : s_MV RX11 254 m_X0_coolsBy 3 := ⟨wd_1108, wd_1109, wd_1110, wd_151, wd_1111, md_X0_coolsBy.1, md_X0_coolsBy.2⟩
theorem md_X11_at : (m_X11_at.1.cls ≠ "java/lang/invoke/MethodHandle" ∧ m_X11_at.1.cls ≠ "java/lang/invoke/VarHandle" ∧ (parseMethodDescriptor m_X11_at.1.desc).map (fun d => d.parameters.length) = some 3) ∧ m_X11_at.2.2.1 ≤ 22 := ⟨⟨by decide +kernel, by decide +kernel, by decide +kernel⟩, by decide⟩
theorem ml_L_98 : s_MV RL 98 m_X11_at 3 := ⟨wd_1112, wd_1113, wd_1114, wd_145, wd_1115, md_X11_at.1, md_X11_at.2⟩
theorem ml_X11_257 : s_MV RX11 257 m_X3_isCloud 1 := ⟨wd_1116, wd_627, wd_628, wd_146, wd_629, md_X3_isCloud.1, md_X3_isCloud.2⟩
theorem ml_X11_260 : s_MV RX11 260 m_X8_spotOf 2 := ⟨wd_1117, wd_978, wd_979, wd_152, wd_980, md_X8_spotOf.1, md_X8_spotOf.2⟩
theorem ml_X11_263 : s_MV RX11 263 m_X0_hindrance 3 := ⟨wd_1118, wd_986, wd_987, wd_151, wd_988, md_X0_hindrance.1, md_X0_hindrance.2⟩
theorem ml_X11_266 : s_MS RX11 266 m_X8_xOf 1 := ⟨Or.inl (wd_1119), wd_990, wd_152, wd_991, md_X8_xOf.1, md_X8_xOf.2⟩
theorem ml_X11_269 : s_MS RX11 269 m_X8_yOf 1 := ⟨Or.inl (wd_1120), wd_993, wd_152, wd_994, md_X8_yOf.1, md_X8_yOf.2⟩
theorem md_X11_dark : (m_X11_dark.1.cls ≠ "java/lang/invoke/MethodHandle" ∧ m_X11_dark.1.cls ≠ "java/lang/invoke/VarHandle" ∧ (parseMethodDescriptor m_X11_dark.1.desc).map (fun d => d.parameters.length) = some 1) ∧ m_X11_dark.2.2.1 ≤ 22 := ⟨⟨by decide +kernel, by decide +kernel, by decide +kernel⟩, by decide⟩
theorem ml_L_102 : s_MV RL 102 m_X11_dark 1 := ⟨wd_1121, wd_1122, wd_1123, wd_145, wd_1124, md_X11_dark.1, md_X11_dark.2⟩
theorem md_X11_heat : (m_X11_heat.1.cls ≠ "java/lang/invoke/MethodHandle" ∧ m_X11_heat.1.cls ≠ "java/lang/invoke/VarHandle" ∧ (parseMethodDescriptor m_X11_heat.1.desc).map (fun d => d.parameters.length) = some 2) ∧ m_X11_heat.2.2.1 ≤ 22 := ⟨⟨by decide +kernel, by decide +kernel, by decide +kernel⟩, by decide⟩
theorem ml_L_106 : s_MV RL 106 m_X11_heat 2 := ⟨wd_1125, wd_1126, wd_1127, wd_145, wd_1128, md_X11_heat.1, md_X11_heat.2⟩
theorem md_X9_begin : (m_X9_begin.1.cls ≠ "java/lang/invoke/MethodHandle" ∧ m_X9_begin.1.cls ≠ "java/lang/invoke/VarHandle" ∧ (parseMethodDescriptor m_X9_begin.1.desc).map (fun d => d.parameters.length) = some 0) ∧ m_X9_begin.2.2.1 ≤ 22 := ⟨⟨by decide +kernel, by decide +kernel, by decide +kernel⟩, by decide⟩
theorem ml_X11_272 : s_MV RX11 272 m_X9_begin 0 := ⟨wd_1129, wd_1130, wd_1131, wd_153, wd_1132, md_X9_begin.1, md_X9_begin.2⟩
theorem k_X9_45 : Cond.constant RX9 45 (-2147483648 : Int32) ∈ s_tb := wd_1133
theorem md_X9_heatOf : (m_X9_heatOf.1.cls ≠ "java/lang/invoke/MethodHandle" ∧ m_X9_heatOf.1.cls ≠ "java/lang/invoke/VarHandle" ∧ (parseMethodDescriptor m_X9_heatOf.1.desc).map (fun d => d.parameters.length) = some 3) ∧ m_X9_heatOf.2.2.1 ≤ 22 := ⟨⟨by decide +kernel, by decide +kernel, by decide +kernel⟩, by decide⟩
theorem ml_X11_275 : s_MV RX11 275 m_X9_heatOf 3 := ⟨wd_1134, wd_1135, wd_1136, wd_153, wd_1137, md_X9_heatOf.1, md_X9_heatOf.2⟩
theorem ml_X9_46 : s_MV RX9 46 m_X3_fieldFact 2 := ⟨wd_1138, wd_588, wd_589, wd_146, wd_590, md_X3_fieldFact.1, md_X3_fieldFact.2⟩
theorem md_X9_changeOf : (m_X9_changeOf.1.cls ≠ "java/lang/invoke/MethodHandle" ∧ m_X9_changeOf.1.cls ≠ "java/lang/invoke/VarHandle" ∧ (parseMethodDescriptor m_X9_changeOf.1.desc).map (fun d => d.parameters.length) = some 3) ∧ m_X9_changeOf.2.2.1 ≤ 22 := ⟨⟨by decide +kernel, by decide +kernel, by decide +kernel⟩, by decide⟩
theorem ml_X9_52 : s_MV RX9 52 m_X9_changeOf 3 := ⟨wd_1139, wd_1141, wd_30, wd_153, wd_1142, md_X9_changeOf.1, md_X9_changeOf.2⟩
theorem ml_X9_61 : s_MV RX9 61 m_X8_shadeOf 2 := ⟨wd_1143, wd_1094, wd_1095, wd_152, wd_1096, md_X8_shadeOf.1, md_X8_shadeOf.2⟩
theorem ml_X9_64 : s_MV RX9 64 m_X0_heatsBy 3 := ⟨wd_1144, wd_1105, wd_1106, wd_151, wd_1107, md_X0_heatsBy.1, md_X0_heatsBy.2⟩
theorem ml_X9_70 : s_MV RX9 70 m_X0_coolsBy 3 := ⟨wd_1145, wd_1109, wd_1110, wd_151, wd_1111, md_X0_coolsBy.1, md_X0_coolsBy.2⟩
theorem ml_X9_56 : s_J_max RX9 56 := ⟨wd_1146, wd_262, wd_149, wd_263⟩
theorem md_X11_scorched : (m_X11_scorched.1.cls ≠ "java/lang/invoke/MethodHandle" ∧ m_X11_scorched.1.cls ≠ "java/lang/invoke/VarHandle" ∧ (parseMethodDescriptor m_X11_scorched.1.desc).map (fun d => d.parameters.length) = some 1) ∧ m_X11_scorched.2.2.1 ≤ 22 := ⟨⟨by decide +kernel, by decide +kernel, by decide +kernel⟩, by decide⟩
theorem ml_L_110 : s_MV RL 110 m_X11_scorched 1 := ⟨wd_1147, wd_1148, wd_1149, wd_145, wd_1150, md_X11_scorched.1, md_X11_scorched.2⟩
theorem md_X9_isScorched : (m_X9_isScorched.1.cls ≠ "java/lang/invoke/MethodHandle" ∧ m_X9_isScorched.1.cls ≠ "java/lang/invoke/VarHandle" ∧ (parseMethodDescriptor m_X9_isScorched.1.desc).map (fun d => d.parameters.length) = some 2) ∧ m_X9_isScorched.2.2.1 ≤ 22 := ⟨⟨by decide +kernel, by decide +kernel, by decide +kernel⟩, by decide⟩
theorem ml_X11_279 : s_MV RX11 279 m_X9_isScorched 2 := ⟨wd_1151, wd_1152, wd_1153, wd_153, wd_1154, md_X9_isScorched.1, md_X9_isScorched.2⟩
theorem md_X11_broken : (m_X11_broken.1.cls ≠ "java/lang/invoke/MethodHandle" ∧ m_X11_broken.1.cls ≠ "java/lang/invoke/VarHandle" ∧ (parseMethodDescriptor m_X11_broken.1.desc).map (fun d => d.parameters.length) = some 1) ∧ m_X11_broken.2.2.1 ≤ 22 := ⟨⟨by decide +kernel, by decide +kernel, by decide +kernel⟩, by decide⟩
theorem ml_L_114 : s_MV RL 114 m_X11_broken 1 := ⟨wd_1155, wd_1156, wd_1157, wd_145, wd_1158, md_X11_broken.1, md_X11_broken.2⟩
theorem md_X8_breakOf : (m_X8_breakOf.1.cls ≠ "java/lang/invoke/MethodHandle" ∧ m_X8_breakOf.1.cls ≠ "java/lang/invoke/VarHandle" ∧ (parseMethodDescriptor m_X8_breakOf.1.desc).map (fun d => d.parameters.length) = some 1) ∧ m_X8_breakOf.2.2.1 ≤ 22 := ⟨⟨by decide +kernel, by decide +kernel, by decide +kernel⟩, by decide⟩
theorem ml_X11_283 : s_MV RX11 283 m_X8_breakOf 1 := ⟨wd_1159, wd_1160, wd_1161, wd_152, wd_1162, md_X8_breakOf.1, md_X8_breakOf.2⟩
theorem md_X3_contractFact : (m_X3_contractFact.1.cls ≠ "java/lang/invoke/MethodHandle" ∧ m_X3_contractFact.1.cls ≠ "java/lang/invoke/VarHandle" ∧ (parseMethodDescriptor m_X3_contractFact.1.desc).map (fun d => d.parameters.length) = some 2) ∧ m_X3_contractFact.2.2.1 ≤ 22 := ⟨⟨by decide +kernel, by decide +kernel, by decide +kernel⟩, by decide⟩
theorem ml_X8_107 : s_MV RX8 107 m_X3_contractFact 2 := ⟨wd_1163, wd_1164, wd_1165, wd_146, wd_1166, md_X3_contractFact.1, md_X3_contractFact.2⟩
theorem ml_X8_110 : s_MV RX8 110 m_X8_shadeOf 2 := ⟨wd_1167, wd_1094, wd_1095, wd_152, wd_1096, md_X8_shadeOf.1, md_X8_shadeOf.2⟩
theorem md_X11_judge : (m_X11_judge.1.cls ≠ "java/lang/invoke/MethodHandle" ∧ m_X11_judge.1.cls ≠ "java/lang/invoke/VarHandle" ∧ (parseMethodDescriptor m_X11_judge.1.desc).map (fun d => d.parameters.length) = some 1) ∧ m_X11_judge.2.2.1 ≤ 22 := ⟨⟨by decide +kernel, by decide +kernel, by decide +kernel⟩, by decide⟩
theorem ml_L_118 : s_MV RL 118 m_X11_judge 1 := ⟨wd_1168, wd_1169, wd_1170, wd_145, wd_1171, md_X11_judge.1, md_X11_judge.2⟩
theorem ml_X11_286 : s_MV RX11 286 m_X3_contractFact 2 := ⟨wd_1172, wd_1164, wd_1165, wd_146, wd_1166, md_X3_contractFact.1, md_X3_contractFact.2⟩
theorem md_X11_cross : (m_X11_cross.1.cls ≠ "java/lang/invoke/MethodHandle" ∧ m_X11_cross.1.cls ≠ "java/lang/invoke/VarHandle" ∧ (parseMethodDescriptor m_X11_cross.1.desc).map (fun d => d.parameters.length) = some 3) ∧ m_X11_cross.2.2.1 ≤ 22 := ⟨⟨by decide +kernel, by decide +kernel, by decide +kernel⟩, by decide⟩
theorem ml_L_134 : s_MV RL 134 m_X11_cross 3 := ⟨wd_1173, wd_1174, wd_1175, wd_145, wd_1176, md_X11_cross.1, md_X11_cross.2⟩
theorem md_X3_commonFields : (m_X3_commonFields.1.cls ≠ "java/lang/invoke/MethodHandle" ∧ m_X3_commonFields.1.cls ≠ "java/lang/invoke/VarHandle" ∧ (parseMethodDescriptor m_X3_commonFields.1.desc).map (fun d => d.parameters.length) = some 4) ∧ m_X3_commonFields.2.2.1 ≤ 22 := ⟨⟨by decide +kernel, by decide +kernel, by decide +kernel⟩, by decide⟩
theorem ml_X11_289 : s_MV RX11 289 m_X3_commonFields 4 := ⟨wd_1177, wd_1178, wd_1179, wd_146, wd_1180, md_X3_commonFields.1, md_X3_commonFields.2⟩
theorem ml_X3_88 : s_MS RX3 88 m_X8_xOf 1 := ⟨Or.inl (wd_1181), wd_990, wd_152, wd_991, md_X8_xOf.1, md_X8_xOf.2⟩
theorem md_X3_commonLength : (m_X3_commonLength.1.cls ≠ "java/lang/invoke/MethodHandle" ∧ m_X3_commonLength.1.cls ≠ "java/lang/invoke/VarHandle" ∧ (parseMethodDescriptor m_X3_commonLength.1.desc).map (fun d => d.parameters.length) = some 4) ∧ m_X3_commonLength.2.2.1 ≤ 22 := ⟨⟨by decide +kernel, by decide +kernel, by decide +kernel⟩, by decide⟩
theorem ml_X3_92 : s_MS RX3 92 m_X3_commonLength 4 := ⟨Or.inl (wd_1182), wd_1183, wd_146, wd_1184, md_X3_commonLength.1, md_X3_commonLength.2⟩
theorem ml_X3_99 : s_J_max RX3 99 := ⟨wd_1185, wd_262, wd_149, wd_263⟩
theorem ml_X3_104 : s_J_min RX3 104 := ⟨wd_1186, wd_832, wd_149, wd_833⟩
theorem ml_X3_96 : s_MS RX3 96 m_X8_yOf 1 := ⟨Or.inl (wd_1187), wd_993, wd_152, wd_994, md_X8_yOf.1, md_X8_yOf.2⟩
theorem md_X11_drive : (m_X11_drive.1.cls ≠ "java/lang/invoke/MethodHandle" ∧ m_X11_drive.1.cls ≠ "java/lang/invoke/VarHandle" ∧ (parseMethodDescriptor m_X11_drive.1.desc).map (fun d => d.parameters.length) = some 5) ∧ m_X11_drive.2.2.1 ≤ 22 := ⟨⟨by decide +kernel, by decide +kernel, by decide +kernel⟩, by decide⟩
theorem ml_L_122 : s_MV RL 122 m_X11_drive 5 := ⟨wd_1188, wd_1189, wd_1190, wd_145, wd_1191, md_X11_drive.1, md_X11_drive.2⟩
theorem md_X11_isOver : (m_X11_isOver.1.cls ≠ "java/lang/invoke/MethodHandle" ∧ m_X11_isOver.1.cls ≠ "java/lang/invoke/VarHandle" ∧ (parseMethodDescriptor m_X11_isOver.1.desc).map (fun d => d.parameters.length) = some 2) ∧ m_X11_isOver.2.2.1 ≤ 22 := ⟨⟨by decide +kernel, by decide +kernel, by decide +kernel⟩, by decide⟩
theorem ml_X11_293 : s_MV RX11 293 m_X11_isOver 2 := ⟨wd_1192, wd_1194, wd_31, wd_145, wd_1195, md_X11_isOver.1, md_X11_isOver.2⟩
theorem md_X4_driven : (m_X4_driven.1.cls ≠ "java/lang/invoke/MethodHandle" ∧ m_X4_driven.1.cls ≠ "java/lang/invoke/VarHandle" ∧ (parseMethodDescriptor m_X4_driven.1.desc).map (fun d => d.parameters.length) = some 5) ∧ m_X4_driven.2.2.1 ≤ 22 := ⟨⟨by decide +kernel, by decide +kernel, by decide +kernel⟩, by decide⟩
theorem ml_X11_296 : s_MV RX11 296 m_X4_driven 5 := ⟨wd_1196, wd_1197, wd_1198, wd_155, wd_1199, md_X4_driven.1, md_X4_driven.2⟩
theorem ml_X4_46 : s_MV RX4 46 m_X3_startOf 1 := ⟨wd_1200, wd_961, wd_962, wd_146, wd_963, md_X3_startOf.1, md_X3_startOf.2⟩
theorem md_X2_take : (m_X2_take.1.cls ≠ "java/lang/invoke/MethodHandle" ∧ m_X2_take.1.cls ≠ "java/lang/invoke/VarHandle" ∧ (parseMethodDescriptor m_X2_take.1.desc).map (fun d => d.parameters.length) = some 1) ∧ m_X2_take.2.2.1 ≤ 22 := ⟨⟨by decide +kernel, by decide +kernel, by decide +kernel⟩, by decide⟩
theorem ml_X4_52 : s_MV RX4 52 m_X2_take 1 := ⟨wd_1201, wd_1202, wd_1203, wd_154, wd_1204, md_X2_take.1, md_X2_take.2⟩
theorem ml_X2_33 : s_MV RX2 33 m_X3_windXOf 1 := ⟨wd_1205, wd_1034, wd_1035, wd_146, wd_1036, md_X3_windXOf.1, md_X3_windXOf.2⟩
theorem ml_X2_39 : s_MV RX2 39 m_X3_windYOf 1 := ⟨wd_1206, wd_1038, wd_1039, wd_146, wd_1040, md_X3_windYOf.1, md_X3_windYOf.2⟩
theorem md_X2_spread : (m_X2_spread.1.cls ≠ "java/lang/invoke/MethodHandle" ∧ m_X2_spread.1.cls ≠ "java/lang/invoke/VarHandle" ∧ (parseMethodDescriptor m_X2_spread.1.desc).map (fun d => d.parameters.length) = some 5) ∧ m_X2_spread.2.2.1 ≤ 22 := ⟨⟨by decide +kernel, by decide +kernel, by decide +kernel⟩, by decide⟩
theorem ml_X4_58 : s_MV RX4 58 m_X2_spread 5 := ⟨wd_1207, wd_1208, wd_1209, wd_154, wd_1210, md_X2_spread.1, md_X2_spread.2⟩
theorem md_X2_reach : (m_X2_reach.1.cls ≠ "java/lang/invoke/MethodHandle" ∧ m_X2_reach.1.cls ≠ "java/lang/invoke/VarHandle" ∧ (parseMethodDescriptor m_X2_reach.1.desc).map (fun d => d.parameters.length) = some 2) ∧ m_X2_reach.2.2.1 ≤ 22 := ⟨⟨by decide +kernel, by decide +kernel, by decide +kernel⟩, by decide⟩
theorem ml_X2_53 : s_MV RX2 53 m_X2_reach 2 := ⟨wd_1211, wd_1213, wd_32, wd_154, wd_1214, md_X2_reach.1, md_X2_reach.2⟩
theorem md_X2_slotOf : (m_X2_slotOf.1.cls ≠ "java/lang/invoke/MethodHandle" ∧ m_X2_slotOf.1.cls ≠ "java/lang/invoke/VarHandle" ∧ (parseMethodDescriptor m_X2_slotOf.1.desc).map (fun d => d.parameters.length) = some 2) ∧ m_X2_slotOf.2.2.1 ≤ 22 := ⟨⟨by decide +kernel, by decide +kernel, by decide +kernel⟩, by decide⟩
theorem ml_X2_42 : s_MS RX2 42 m_X2_slotOf 2 := ⟨Or.inl (wd_1215), wd_1216, wd_154, wd_1217, md_X2_slotOf.1, md_X2_slotOf.2⟩
theorem ml_X2_65 : s_MV RX2 65 m_X0_hindrance 3 := ⟨wd_1218, wd_986, wd_987, wd_151, wd_988, md_X0_hindrance.1, md_X0_hindrance.2⟩
theorem md_X2_isReached : (m_X2_isReached.1.cls ≠ "java/lang/invoke/MethodHandle" ∧ m_X2_isReached.1.cls ≠ "java/lang/invoke/VarHandle" ∧ (parseMethodDescriptor m_X2_isReached.1.desc).map (fun d => d.parameters.length) = some 2) ∧ m_X2_isReached.2.2.1 ≤ 22 := ⟨⟨by decide +kernel, by decide +kernel, by decide +kernel⟩, by decide⟩
theorem ml_X2_57 : s_MV RX2 57 m_X2_isReached 2 := ⟨wd_1219, wd_1220, wd_1221, wd_154, wd_1222, md_X2_isReached.1, md_X2_isReached.2⟩
theorem md_X2_markOf : (m_X2_markOf.1.cls ≠ "java/lang/invoke/MethodHandle" ∧ m_X2_markOf.1.cls ≠ "java/lang/invoke/VarHandle" ∧ (parseMethodDescriptor m_X2_markOf.1.desc).map (fun d => d.parameters.length) = some 2) ∧ m_X2_markOf.2.2.1 ≤ 22 := ⟨⟨by decide +kernel, by decide +kernel, by decide +kernel⟩, by decide⟩
theorem ml_X2_46 : s_MV RX2 46 m_X2_markOf 2 := ⟨wd_1223, wd_1224, wd_1225, wd_154, wd_1226, md_X2_markOf.1, md_X2_markOf.2⟩
theorem md_X2_onward : (m_X2_onward.1.cls ≠ "java/lang/invoke/MethodHandle" ∧ m_X2_onward.1.cls ≠ "java/lang/invoke/VarHandle" ∧ (parseMethodDescriptor m_X2_onward.1.desc).map (fun d => d.parameters.length) = some 5) ∧ m_X2_onward.2.2.1 ≤ 22 := ⟨⟨by decide +kernel, by decide +kernel, by decide +kernel⟩, by decide⟩
theorem ml_X2_61 : s_MV RX2 61 m_X2_onward 5 := ⟨wd_1227, wd_1228, wd_1229, wd_154, wd_1230, md_X2_onward.1, md_X2_onward.2⟩
theorem ml_X2_71 : s_MS RX2 71 m_X8_stepX 1 := ⟨Or.inl (wd_1231), wd_1042, wd_152, wd_1043, md_X8_stepX.1, md_X8_stepX.2⟩
theorem ml_X2_76 : s_MS RX2 76 m_X8_stepY 1 := ⟨Or.inl (wd_1232), wd_1047, wd_152, wd_1048, md_X8_stepY.1, md_X8_stepY.2⟩
theorem ml_X2_79 : s_MS RX2 79 m_X8_movedBy 3 := ⟨Or.inl (wd_1233), wd_1052, wd_152, wd_1053, md_X8_movedBy.1, md_X8_movedBy.2⟩
theorem md_X2_shades : (m_X2_shades.1.cls ≠ "java/lang/invoke/MethodHandle" ∧ m_X2_shades.1.cls ≠ "java/lang/invoke/VarHandle" ∧ (parseMethodDescriptor m_X2_shades.1.desc).map (fun d => d.parameters.length) = some 2) ∧ m_X2_shades.2.2.1 ≤ 22 := ⟨⟨by decide +kernel, by decide +kernel, by decide +kernel⟩, by decide⟩
theorem ml_X4_62 : s_MV RX4 62 m_X2_shades 2 := ⟨wd_1234, wd_1235, wd_1236, wd_154, wd_1237, md_X2_shades.1, md_X2_shades.2⟩
theorem ml_X2_49 : s_MV RX2 49 m_X3_shadowCovers 3 := ⟨wd_1238, wd_1098, wd_1099, wd_146, wd_1100, md_X3_shadowCovers.1, md_X3_shadowCovers.2⟩
theorem md_X2_strike : (m_X2_strike.1.cls ≠ "java/lang/invoke/MethodHandle" ∧ m_X2_strike.1.cls ≠ "java/lang/invoke/VarHandle" ∧ (parseMethodDescriptor m_X2_strike.1.desc).map (fun d => d.parameters.length) = some 2) ∧ m_X2_strike.2.2.1 ≤ 22 := ⟨⟨by decide +kernel, by decide +kernel, by decide +kernel⟩, by decide⟩
theorem ml_X4_66 : s_MV RX4 66 m_X2_strike 2 := ⟨wd_1239, wd_1240, wd_1241, wd_154, wd_1242, md_X2_strike.1, md_X2_strike.2⟩
theorem md_X4_reckonCosts : (m_X4_reckonCosts.1.cls ≠ "java/lang/invoke/MethodHandle" ∧ m_X4_reckonCosts.1.cls ≠ "java/lang/invoke/VarHandle" ∧ (parseMethodDescriptor m_X4_reckonCosts.1.desc).map (fun d => d.parameters.length) = some 1) ∧ m_X4_reckonCosts.2.2.1 ≤ 22 := ⟨⟨by decide +kernel, by decide +kernel, by decide +kernel⟩, by decide⟩
theorem ml_X4_70 : s_MV RX4 70 m_X4_reckonCosts 1 := ⟨wd_1243, wd_1245, wd_33, wd_155, wd_1246, md_X4_reckonCosts.1, md_X4_reckonCosts.2⟩
theorem ml_X4_89 : s_MS RX4 89 m_X2_slotOf 2 := ⟨Or.inl (wd_1247), wd_1216, wd_154, wd_1217, md_X2_slotOf.1, md_X2_slotOf.2⟩
theorem md_X4_cheapest : (m_X4_cheapest.1.cls ≠ "java/lang/invoke/MethodHandle" ∧ m_X4_cheapest.1.cls ≠ "java/lang/invoke/VarHandle" ∧ (parseMethodDescriptor m_X4_cheapest.1.desc).map (fun d => d.parameters.length) = some 3) ∧ m_X4_cheapest.2.2.1 ≤ 22 := ⟨⟨by decide +kernel, by decide +kernel, by decide +kernel⟩, by decide⟩
theorem ml_X4_92 : s_MV RX4 92 m_X4_cheapest 3 := ⟨wd_1248, wd_1250, wd_34, wd_155, wd_1251, md_X4_cheapest.1, md_X4_cheapest.2⟩
theorem ml_X4_96 : s_MV RX4 96 m_X2_isReached 2 := ⟨wd_1252, wd_1220, wd_1221, wd_154, wd_1222, md_X2_isReached.1, md_X2_isReached.2⟩
theorem md_X4_costBy : (m_X4_costBy.1.cls ≠ "java/lang/invoke/MethodHandle" ∧ m_X4_costBy.1.cls ≠ "java/lang/invoke/VarHandle" ∧ (parseMethodDescriptor m_X4_costBy.1.desc).map (fun d => d.parameters.length) = some 3) ∧ m_X4_costBy.2.2.1 ≤ 22 := ⟨⟨by decide +kernel, by decide +kernel, by decide +kernel⟩, by decide⟩
theorem ml_X4_99 : s_MV RX4 99 m_X4_costBy 3 := ⟨wd_1253, wd_1255, wd_35, wd_155, wd_1256, md_X4_costBy.1, md_X4_costBy.2⟩
theorem ml_X4_107 : s_MV RX4 107 m_X2_onward 5 := ⟨wd_1257, wd_1228, wd_1229, wd_154, wd_1230, md_X2_onward.1, md_X2_onward.2⟩
theorem md_X4_costOf : (m_X4_costOf.1.cls ≠ "java/lang/invoke/MethodHandle" ∧ m_X4_costOf.1.cls ≠ "java/lang/invoke/VarHandle" ∧ (parseMethodDescriptor m_X4_costOf.1.desc).map (fun d => d.parameters.length) = some 2) ∧ m_X4_costOf.2.2.1 ≤ 22 := ⟨⟨by decide +kernel, by decide +kernel, by decide +kernel⟩, by decide⟩
theorem ml_X4_73 : s_MV RX4 73 m_X4_costOf 2 := ⟨wd_1258, wd_1260, wd_36, wd_155, wd_1261, md_X4_costOf.1, md_X4_costOf.2⟩
theorem ml_X4_102 : s_J_min RX4 102 := ⟨wd_1262, wd_832, wd_149, wd_833⟩
theorem md_X4_cheapStepIn : (m_X4_cheapStepIn.1.cls ≠ "java/lang/invoke/MethodHandle" ∧ m_X4_cheapStepIn.1.cls ≠ "java/lang/invoke/VarHandle" ∧ (parseMethodDescriptor m_X4_cheapStepIn.1.desc).map (fun d => d.parameters.length) = some 2) ∧ m_X4_cheapStepIn.2.2.1 ≤ 22 := ⟨⟨by decide +kernel, by decide +kernel, by decide +kernel⟩, by decide⟩
theorem ml_X4_77 : s_MV RX4 77 m_X4_cheapStepIn 2 := ⟨wd_1263, wd_1265, wd_37, wd_155, wd_1266, md_X4_cheapStepIn.1, md_X4_cheapStepIn.2⟩
theorem md_X4_cheapStep : (m_X4_cheapStep.1.cls ≠ "java/lang/invoke/MethodHandle" ∧ m_X4_cheapStep.1.cls ≠ "java/lang/invoke/VarHandle" ∧ (parseMethodDescriptor m_X4_cheapStep.1.desc).map (fun d => d.parameters.length) = some 2) ∧ m_X4_cheapStep.2.2.1 ≤ 22 := ⟨⟨by decide +kernel, by decide +kernel, by decide +kernel⟩, by decide⟩
theorem ml_X4_111 : s_MV RX4 111 m_X4_cheapStep 2 := ⟨wd_1267, wd_1269, wd_38, wd_155, wd_1270, md_X4_cheapStep.1, md_X4_cheapStep.2⟩
theorem md_X11_pasture : (m_X11_pasture.1.cls ≠ "java/lang/invoke/MethodHandle" ∧ m_X11_pasture.1.cls ≠ "java/lang/invoke/VarHandle" ∧ (parseMethodDescriptor m_X11_pasture.1.desc).map (fun d => d.parameters.length) = some 3) ∧ m_X11_pasture.2.2.1 ≤ 22 := ⟨⟨by decide +kernel, by decide +kernel, by decide +kernel⟩, by decide⟩
theorem ml_L_126 : s_MV RL 126 m_X11_pasture 3 := ⟨wd_1271, wd_1272, wd_1273, wd_145, wd_1274, md_X11_pasture.1, md_X11_pasture.2⟩
theorem md_X4_grazed : (m_X4_grazed.1.cls ≠ "java/lang/invoke/MethodHandle" ∧ m_X4_grazed.1.cls ≠ "java/lang/invoke/VarHandle" ∧ (parseMethodDescriptor m_X4_grazed.1.desc).map (fun d => d.parameters.length) = some 3) ∧ m_X4_grazed.2.2.1 ≤ 22 := ⟨⟨by decide +kernel, by decide +kernel, by decide +kernel⟩, by decide⟩
theorem ml_X11_300 : s_MV RX11 300 m_X4_grazed 3 := ⟨wd_1275, wd_1276, wd_1277, wd_155, wd_1278, md_X4_grazed.1, md_X4_grazed.2⟩
theorem ml_X4_114 : s_MV RX4 114 m_X0_worthOf 2 := ⟨wd_1279, wd_1086, wd_1087, wd_151, wd_1088, md_X0_worthOf.1, md_X0_worthOf.2⟩
theorem md_X4_graze : (m_X4_graze.1.cls ≠ "java/lang/invoke/MethodHandle" ∧ m_X4_graze.1.cls ≠ "java/lang/invoke/VarHandle" ∧ (parseMethodDescriptor m_X4_graze.1.desc).map (fun d => d.parameters.length) = some 3) ∧ m_X4_graze.2.2.1 ≤ 22 := ⟨⟨by decide +kernel, by decide +kernel, by decide +kernel⟩, by decide⟩
theorem ml_X4_119 : s_MV RX4 119 m_X4_graze 3 := ⟨wd_1280, wd_1282, wd_39, wd_155, wd_1283, md_X4_graze.1, md_X4_graze.2⟩
theorem md_X4_worthUnder : (m_X4_worthUnder.1.cls ≠ "java/lang/invoke/MethodHandle" ∧ m_X4_worthUnder.1.cls ≠ "java/lang/invoke/VarHandle" ∧ (parseMethodDescriptor m_X4_worthUnder.1.desc).map (fun d => d.parameters.length) = some 1) ∧ m_X4_worthUnder.2.2.1 ≤ 22 := ⟨⟨by decide +kernel, by decide +kernel, by decide +kernel⟩, by decide⟩
theorem ml_X4_129 : s_MV RX4 129 m_X4_worthUnder 1 := ⟨wd_1284, wd_1286, wd_40, wd_155, wd_1287, md_X4_worthUnder.1, md_X4_worthUnder.2⟩
theorem ml_X4_141 : s_MS RX4 141 m_X8_xOf 1 := ⟨Or.inl (wd_1288), wd_990, wd_152, wd_991, md_X8_xOf.1, md_X8_xOf.2⟩
theorem ml_X4_144 : s_J_max RX4 144 := ⟨wd_1289, wd_262, wd_149, wd_263⟩
theorem ml_X4_147 : s_MS RX4 147 m_X8_yOf 1 := ⟨Or.inl (wd_1290), wd_993, wd_152, wd_994, md_X8_yOf.1, md_X8_yOf.2⟩
theorem ml_X4_154 : s_MV RX4 154 m_X3_cloudFact 2 := ⟨wd_1291, wd_623, wd_624, wd_146, wd_625, md_X3_cloudFact.1, md_X3_cloudFact.2⟩
theorem md_X4_richStep : (m_X4_richStep.1.cls ≠ "java/lang/invoke/MethodHandle" ∧ m_X4_richStep.1.cls ≠ "java/lang/invoke/VarHandle" ∧ (parseMethodDescriptor m_X4_richStep.1.desc).map (fun d => d.parameters.length) = some 3) ∧ m_X4_richStep.2.2.1 ≤ 22 := ⟨⟨by decide +kernel, by decide +kernel, by decide +kernel⟩, by decide⟩
theorem ml_X4_132 : s_MV RX4 132 m_X4_richStep 3 := ⟨wd_1292, wd_1294, wd_41, wd_155, wd_1295, md_X4_richStep.1, md_X4_richStep.2⟩
theorem md_X4_yieldBy : (m_X4_yieldBy.1.cls ≠ "java/lang/invoke/MethodHandle" ∧ m_X4_yieldBy.1.cls ≠ "java/lang/invoke/VarHandle" ∧ (parseMethodDescriptor m_X4_yieldBy.1.desc).map (fun d => d.parameters.length) = some 4) ∧ m_X4_yieldBy.2.2.1 ≤ 22 := ⟨⟨by decide +kernel, by decide +kernel, by decide +kernel⟩, by decide⟩
theorem ml_X4_135 : s_MV RX4 135 m_X4_yieldBy 4 := ⟨wd_1296, wd_1298, wd_42, wd_155, wd_1299, md_X4_yieldBy.1, md_X4_yieldBy.2⟩
theorem md_X4_yieldOf : (m_X4_yieldOf.1.cls ≠ "java/lang/invoke/MethodHandle" ∧ m_X4_yieldOf.1.cls ≠ "java/lang/invoke/VarHandle" ∧ (parseMethodDescriptor m_X4_yieldOf.1.desc).map (fun d => d.parameters.length) = some 3) ∧ m_X4_yieldOf.2.2.1 ≤ 22 := ⟨⟨by decide +kernel, by decide +kernel, by decide +kernel⟩, by decide⟩
theorem ml_X4_123 : s_MV RX4 123 m_X4_yieldOf 3 := ⟨wd_1300, wd_1302, wd_43, wd_155, wd_1303, md_X4_yieldOf.1, md_X4_yieldOf.2⟩
theorem md_X4_yieldSlot : (m_X4_yieldSlot.1.cls ≠ "java/lang/invoke/MethodHandle" ∧ m_X4_yieldSlot.1.cls ≠ "java/lang/invoke/VarHandle" ∧ (parseMethodDescriptor m_X4_yieldSlot.1.desc).map (fun d => d.parameters.length) = some 3) ∧ m_X4_yieldSlot.2.2.1 ≤ 22 := ⟨⟨by decide +kernel, by decide +kernel, by decide +kernel⟩, by decide⟩
theorem ml_X4_138 : s_MS RX4 138 m_X4_yieldSlot 3 := ⟨Or.inl (wd_1304), wd_1305, wd_155, wd_1306, md_X4_yieldSlot.1, md_X4_yieldSlot.2⟩
theorem md_X4_grazeStepIn : (m_X4_grazeStepIn.1.cls ≠ "java/lang/invoke/MethodHandle" ∧ m_X4_grazeStepIn.1.cls ≠ "java/lang/invoke/VarHandle" ∧ (parseMethodDescriptor m_X4_grazeStepIn.1.desc).map (fun d => d.parameters.length) = some 3) ∧ m_X4_grazeStepIn.2.2.1 ≤ 22 := ⟨⟨by decide +kernel, by decide +kernel, by decide +kernel⟩, by decide⟩
theorem ml_X4_126 : s_MV RX4 126 m_X4_grazeStepIn 3 := ⟨wd_1307, wd_1309, wd_44, wd_155, wd_1310, md_X4_grazeStepIn.1, md_X4_grazeStepIn.2⟩
theorem md_X11_serve : (m_X11_serve.1.cls ≠ "java/lang/invoke/MethodHandle" ∧ m_X11_serve.1.cls ≠ "java/lang/invoke/VarHandle" ∧ (parseMethodDescriptor m_X11_serve.1.desc).map (fun d => d.parameters.length) = some 2) ∧ m_X11_serve.2.2.1 ≤ 22 := ⟨⟨by decide +kernel, by decide +kernel, by decide +kernel⟩, by decide⟩
theorem ml_L_130 : s_MV RL 130 m_X11_serve 2 := ⟨wd_1311, wd_1312, wd_1313, wd_145, wd_1314, md_X11_serve.1, md_X11_serve.2⟩
theorem md_X4_served : (m_X4_served.1.cls ≠ "java/lang/invoke/MethodHandle" ∧ m_X4_served.1.cls ≠ "java/lang/invoke/VarHandle" ∧ (parseMethodDescriptor m_X4_served.1.desc).map (fun d => d.parameters.length) = some 2) ∧ m_X4_served.2.2.1 ≤ 22 := ⟨⟨by decide +kernel, by decide +kernel, by decide +kernel⟩, by decide⟩
theorem ml_X11_303 : s_MV RX11 303 m_X4_served 2 := ⟨wd_1315, wd_1316, wd_1317, wd_155, wd_1318, md_X4_served.1, md_X4_served.2⟩
theorem md_X4_drawStuckRows : (m_X4_drawStuckRows.1.cls ≠ "java/lang/invoke/MethodHandle" ∧ m_X4_drawStuckRows.1.cls ≠ "java/lang/invoke/VarHandle" ∧ (parseMethodDescriptor m_X4_drawStuckRows.1.desc).map (fun d => d.parameters.length) = some 0) ∧ m_X4_drawStuckRows.2.2.1 ≤ 22 := ⟨⟨by decide +kernel, by decide +kernel, by decide +kernel⟩, by decide⟩
theorem ml_X4_157 : s_MV RX4 157 m_X4_drawStuckRows 0 := ⟨wd_1319, wd_1321, wd_45, wd_155, wd_1322, md_X4_drawStuckRows.1, md_X4_drawStuckRows.2⟩
theorem ml_X4_173 : s_MV RX4 173 m_X2_markOf 2 := ⟨wd_1323, wd_1224, wd_1225, wd_154, wd_1226, md_X2_markOf.1, md_X2_markOf.2⟩
theorem ml_X4_163 : s_MV RX4 163 m_X3_contractFact 2 := ⟨wd_1324, wd_1164, wd_1165, wd_146, wd_1166, md_X3_contractFact.1, md_X3_contractFact.2⟩
theorem md_X4_feesOf : (m_X4_feesOf.1.cls ≠ "java/lang/invoke/MethodHandle" ∧ m_X4_feesOf.1.cls ≠ "java/lang/invoke/VarHandle" ∧ (parseMethodDescriptor m_X4_feesOf.1.desc).map (fun d => d.parameters.length) = some 1) ∧ m_X4_feesOf.2.2.1 ≤ 22 := ⟨⟨by decide +kernel, by decide +kernel, by decide +kernel⟩, by decide⟩
theorem ml_X4_166 : s_MV RX4 166 m_X4_feesOf 1 := ⟨wd_1325, wd_1327, wd_46, wd_155, wd_1328, md_X4_feesOf.1, md_X4_feesOf.2⟩
theorem md_X4_canKeep : (m_X4_canKeep.1.cls ≠ "java/lang/invoke/MethodHandle" ∧ m_X4_canKeep.1.cls ≠ "java/lang/invoke/VarHandle" ∧ (parseMethodDescriptor m_X4_canKeep.1.desc).map (fun d => d.parameters.length) = some 1) ∧ m_X4_canKeep.2.2.1 ≤ 22 := ⟨⟨by decide +kernel, by decide +kernel, by decide +kernel⟩, by decide⟩
theorem ml_X4_169 : s_MV RX4 169 m_X4_canKeep 1 := ⟨wd_1329, wd_1331, wd_47, wd_155, wd_1332, md_X4_canKeep.1, md_X4_canKeep.2⟩
theorem md_X4_lastHourOf : (m_X4_lastHourOf.1.cls ≠ "java/lang/invoke/MethodHandle" ∧ m_X4_lastHourOf.1.cls ≠ "java/lang/invoke/VarHandle" ∧ (parseMethodDescriptor m_X4_lastHourOf.1.desc).map (fun d => d.parameters.length) = some 1) ∧ m_X4_lastHourOf.2.2.1 ≤ 22 := ⟨⟨by decide +kernel, by decide +kernel, by decide +kernel⟩, by decide⟩
theorem ml_X4_176 : s_MV RX4 176 m_X4_lastHourOf 1 := ⟨wd_1333, wd_1335, wd_48, wd_155, wd_1336, md_X4_lastHourOf.1, md_X4_lastHourOf.2⟩
theorem md_X4_isDue : (m_X4_isDue.1.cls ≠ "java/lang/invoke/MethodHandle" ∧ m_X4_isDue.1.cls ≠ "java/lang/invoke/VarHandle" ∧ (parseMethodDescriptor m_X4_isDue.1.desc).map (fun d => d.parameters.length) = some 2) ∧ m_X4_isDue.2.2.1 ≤ 22 := ⟨⟨by decide +kernel, by decide +kernel, by decide +kernel⟩, by decide⟩
theorem ml_X4_179 : s_MV RX4 179 m_X4_isDue 2 := ⟨wd_1337, wd_1339, wd_49, wd_155, wd_1340, md_X4_isDue.1, md_X4_isDue.2⟩
theorem ml_X4_192 : s_MS RX4 192 m_X11_within 3 := ⟨Or.inr ⟨_, wn_1341⟩, wd_577, wd_145, wd_578, md_X11_within.1, md_X11_within.2⟩
theorem md_X4_keepOver : (m_X4_keepOver.1.cls ≠ "java/lang/invoke/MethodHandle" ∧ m_X4_keepOver.1.cls ≠ "java/lang/invoke/VarHandle" ∧ (parseMethodDescriptor m_X4_keepOver.1.desc).map (fun d => d.parameters.length) = some 1) ∧ m_X4_keepOver.2.2.1 ≤ 22 := ⟨⟨by decide +kernel, by decide +kernel, by decide +kernel⟩, by decide⟩
theorem ml_X4_182 : s_MV RX4 182 m_X4_keepOver 1 := ⟨wd_1342, wd_1344, wd_50, wd_155, wd_1345, md_X4_keepOver.1, md_X4_keepOver.2⟩
theorem md_X4_rowsAreEmpty : (m_X4_rowsAreEmpty.1.cls ≠ "java/lang/invoke/MethodHandle" ∧ m_X4_rowsAreEmpty.1.cls ≠ "java/lang/invoke/VarHandle" ∧ (parseMethodDescriptor m_X4_rowsAreEmpty.1.desc).map (fun d => d.parameters.length) = some 0) ∧ m_X4_rowsAreEmpty.2.2.1 ≤ 22 := ⟨⟨by decide +kernel, by decide +kernel, by decide +kernel⟩, by decide⟩
theorem ml_X4_185 : s_MV RX4 185 m_X4_rowsAreEmpty 0 := ⟨wd_1346, wd_1348, wd_51, wd_155, wd_1349, md_X4_rowsAreEmpty.1, md_X4_rowsAreEmpty.2⟩
theorem md_X4_moveRows : (m_X4_moveRows.1.cls ≠ "java/lang/invoke/MethodHandle" ∧ m_X4_moveRows.1.cls ≠ "java/lang/invoke/VarHandle" ∧ (parseMethodDescriptor m_X4_moveRows.1.desc).map (fun d => d.parameters.length) = some 1) ∧ m_X4_moveRows.2.2.1 ≤ 22 := ⟨⟨by decide +kernel, by decide +kernel, by decide +kernel⟩, by decide⟩
theorem ml_X4_189 : s_MV RX4 189 m_X4_moveRows 1 := ⟨wd_1350, wd_1352, wd_52, wd_155, wd_1353, md_X4_moveRows.1, md_X4_moveRows.2⟩
theorem md_X4_moveRow : (m_X4_moveRow.1.cls ≠ "java/lang/invoke/MethodHandle" ∧ m_X4_moveRow.1.cls ≠ "java/lang/invoke/VarHandle" ∧ (parseMethodDescriptor m_X4_moveRow.1.desc).map (fun d => d.parameters.length) = some 3) ∧ m_X4_moveRow.2.2.1 ≤ 22 := ⟨⟨by decide +kernel, by decide +kernel, by decide +kernel⟩, by decide⟩
theorem ml_X4_196 : s_MV RX4 196 m_X4_moveRow 3 := ⟨wd_1354, wd_1356, wd_53, wd_155, wd_1357, md_X4_moveRow.1, md_X4_moveRow.2⟩
theorem ml_X4_208 : s_MS RX4 208 m_X8_stepY 1 := ⟨Or.inl (wd_1358), wd_1047, wd_152, wd_1048, md_X8_stepY.1, md_X8_stepY.2⟩
theorem ml_X4_214 : s_MS RX4 214 m_X8_stepX 1 := ⟨Or.inl (wd_1359), wd_1042, wd_152, wd_1043, md_X8_stepX.1, md_X8_stepX.2⟩
theorem k_X4_217 : Cond.constant RX4 217 (16777215 : Int32) ∈ s_tb := wd_1360
theorem ml_X4_199 : s_J_copy RX4 199 := ⟨wd_1361, wd_702, wd_701, wd_163⟩
theorem md_X11_part : (m_X11_part.1.cls ≠ "java/lang/invoke/MethodHandle" ∧ m_X11_part.1.cls ≠ "java/lang/invoke/VarHandle" ∧ (parseMethodDescriptor m_X11_part.1.desc).map (fun d => d.parameters.length) = some 2) ∧ m_X11_part.2.2.1 ≤ 22 := ⟨⟨by decide +kernel, by decide +kernel, by decide +kernel⟩, by decide⟩
theorem ml_L_138 : s_MV RL 138 m_X11_part 2 := ⟨wd_1362, wd_1363, wd_1364, wd_145, wd_1365, md_X11_part.1, md_X11_part.2⟩
theorem md_X4_parted : (m_X4_parted.1.cls ≠ "java/lang/invoke/MethodHandle" ∧ m_X4_parted.1.cls ≠ "java/lang/invoke/VarHandle" ∧ (parseMethodDescriptor m_X4_parted.1.desc).map (fun d => d.parameters.length) = some 3) ∧ m_X4_parted.2.2.1 ≤ 22 := ⟨⟨by decide +kernel, by decide +kernel, by decide +kernel⟩, by decide⟩
theorem ml_X11_306 : s_MV RX11 306 m_X4_parted 3 := ⟨wd_1366, wd_1367, wd_1368, wd_155, wd_1369, md_X4_parted.1, md_X4_parted.2⟩
theorem ml_X4_80 : s_MV RX4 80 m_X8_spotOf 2 := ⟨wd_1370, wd_978, wd_979, wd_152, wd_980, md_X8_spotOf.1, md_X8_spotOf.2⟩
theorem ml_X4_85 : s_MV RX4 85 m_X3_commonFields 4 := ⟨wd_1371, wd_1178, wd_1179, wd_146, wd_1180, md_X3_commonFields.1, md_X3_commonFields.2⟩
theorem md_X11_likely : (m_X11_likely.1.cls ≠ "java/lang/invoke/MethodHandle" ∧ m_X11_likely.1.cls ≠ "java/lang/invoke/VarHandle" ∧ (parseMethodDescriptor m_X11_likely.1.desc).map (fun d => d.parameters.length) = some 3) ∧ m_X11_likely.2.2.1 ≤ 22 := ⟨⟨by decide +kernel, by decide +kernel, by decide +kernel⟩, by decide⟩
theorem ml_L_142 : s_MV RL 142 m_X11_likely 3 := ⟨wd_1372, wd_1373, wd_1374, wd_145, wd_1375, md_X11_likely.1, md_X11_likely.2⟩
theorem k_X11_310 : Cond.constantLong RX11 310 (-1 : Int64) ∈ s_tb := wd_1376
theorem md_X1_chanceAsTold : (m_X1_chanceAsTold.1.cls ≠ "java/lang/invoke/MethodHandle" ∧ m_X1_chanceAsTold.1.cls ≠ "java/lang/invoke/VarHandle" ∧ (parseMethodDescriptor m_X1_chanceAsTold.1.desc).map (fun d => d.parameters.length) = some 4) ∧ m_X1_chanceAsTold.2.2.1 ≤ 22 := ⟨⟨by decide +kernel, by decide +kernel, by decide +kernel⟩, by decide⟩
theorem ml_X11_312 : s_MV RX11 312 m_X1_chanceAsTold 4 := ⟨wd_1377, wd_1378, wd_1379, wd_156, wd_1380, md_X1_chanceAsTold.1, md_X1_chanceAsTold.2⟩
theorem ml_X1_30 : s_MV RX1 30 m_X3_startOf 1 := ⟨wd_1381, wd_961, wd_962, wd_146, wd_963, md_X3_startOf.1, md_X3_startOf.2⟩
theorem ml_X1_40 : s_MV RX1 40 m_X2_take 1 := ⟨wd_1382, wd_1202, wd_1203, wd_154, wd_1204, md_X2_take.1, md_X2_take.2⟩
theorem ml_X1_46 : s_MV RX1 46 m_X2_spread 5 := ⟨wd_1383, wd_1208, wd_1209, wd_154, wd_1210, md_X2_spread.1, md_X2_spread.2⟩
theorem k_X1_50 : Cond.constantLong RX1 50 (1000000000000 : Int64) ∈ s_tb := wd_1384
theorem md_X1_setChance : (m_X1_setChance.1.cls ≠ "java/lang/invoke/MethodHandle" ∧ m_X1_setChance.1.cls ≠ "java/lang/invoke/VarHandle" ∧ (parseMethodDescriptor m_X1_setChance.1.desc).map (fun d => d.parameters.length) = some 3) ∧ m_X1_setChance.2.2.1 ≤ 22 := ⟨⟨by decide +kernel, by decide +kernel, by decide +kernel⟩, by decide⟩
theorem ml_X1_52 : s_MV RX1 52 m_X1_setChance 3 := ⟨wd_1385, wd_1387, wd_54, wd_156, wd_1388, md_X1_setChance.1, md_X1_setChance.2⟩
theorem ml_X1_56 : s_MV RX1 56 m_X8_flagOf 2 := ⟨wd_1389, wd_982, wd_983, wd_152, wd_984, md_X8_flagOf.1, md_X8_flagOf.2⟩
theorem md_X1_drift : (m_X1_drift.1.cls ≠ "java/lang/invoke/MethodHandle" ∧ m_X1_drift.1.cls ≠ "java/lang/invoke/VarHandle" ∧ (parseMethodDescriptor m_X1_drift.1.desc).map (fun d => d.parameters.length) = some 2) ∧ m_X1_drift.2.2.1 ≤ 22 := ⟨⟨by decide +kernel, by decide +kernel, by decide +kernel⟩, by decide⟩
theorem ml_X1_62 : s_MV RX1 62 m_X1_drift 2 := ⟨wd_1390, wd_1392, wd_55, wd_156, wd_1393, md_X1_drift.1, md_X1_drift.2⟩
theorem md_X1_chanceOf : (m_X1_chanceOf.1.cls ≠ "java/lang/invoke/MethodHandle" ∧ m_X1_chanceOf.1.cls ≠ "java/lang/invoke/VarHandle" ∧ (parseMethodDescriptor m_X1_chanceOf.1.desc).map (fun d => d.parameters.length) = some 2) ∧ m_X1_chanceOf.2.2.1 ≤ 22 := ⟨⟨by decide +kernel, by decide +kernel, by decide +kernel⟩, by decide⟩
theorem ml_X1_70 : s_MV RX1 70 m_X1_chanceOf 2 := ⟨wd_1394, wd_1396, wd_56, wd_156, wd_1397, md_X1_chanceOf.1, md_X1_chanceOf.2⟩
theorem k_X1_74 : Cond.constantLong RX1 74 (10 : Int64) ∈ s_tb := wd_1398
theorem ml_X1_76 : s_MV RX1 76 m_X2_onward 5 := ⟨wd_1399, wd_1228, wd_1229, wd_154, wd_1230, md_X2_onward.1, md_X2_onward.2⟩
theorem ml_X1_66 : s_MV RX1 66 m_X2_shades 2 := ⟨wd_1400, wd_1235, wd_1236, wd_154, wd_1237, md_X2_shades.1, md_X2_shades.2⟩
theorem md_X11_surest : (m_X11_surest.1.cls ≠ "java/lang/invoke/MethodHandle" ∧ m_X11_surest.1.cls ≠ "java/lang/invoke/VarHandle" ∧ (parseMethodDescriptor m_X11_surest.1.desc).map (fun d => d.parameters.length) = some 3) ∧ m_X11_surest.2.2.1 ≤ 22 := ⟨⟨by decide +kernel, by decide +kernel, by decide +kernel⟩, by decide⟩
theorem ml_L_147 : s_MV RL 147 m_X11_surest 3 := ⟨wd_1401, wd_1402, wd_1403, wd_145, wd_1404, md_X11_surest.1, md_X11_surest.2⟩
theorem md_X1_bestChance : (m_X1_bestChance.1.cls ≠ "java/lang/invoke/MethodHandle" ∧ m_X1_bestChance.1.cls ≠ "java/lang/invoke/VarHandle" ∧ (parseMethodDescriptor m_X1_bestChance.1.desc).map (fun d => d.parameters.length) = some 3) ∧ m_X1_bestChance.2.2.1 ≤ 22 := ⟨⟨by decide +kernel, by decide +kernel, by decide +kernel⟩, by decide⟩
theorem ml_X11_316 : s_MV RX11 316 m_X1_bestChance 3 := ⟨wd_1405, wd_1406, wd_1407, wd_156, wd_1408, md_X1_bestChance.1, md_X1_bestChance.2⟩
theorem md_X1_reckonBack : (m_X1_reckonBack.1.cls ≠ "java/lang/invoke/MethodHandle" ∧ m_X1_reckonBack.1.cls ≠ "java/lang/invoke/VarHandle" ∧ (parseMethodDescriptor m_X1_reckonBack.1.desc).map (fun d => d.parameters.length) = some 4) ∧ m_X1_reckonBack.2.2.1 ≤ 22 := ⟨⟨by decide +kernel, by decide +kernel, by decide +kernel⟩, by decide⟩
theorem ml_X1_80 : s_MV RX1 80 m_X1_reckonBack 4 := ⟨wd_1409, wd_1411, wd_57, wd_156, wd_1412, md_X1_reckonBack.1, md_X1_reckonBack.2⟩
theorem ml_X1_84 : s_MV RX1 84 m_X2_isReached 2 := ⟨wd_1413, wd_1220, wd_1221, wd_154, wd_1222, md_X2_isReached.1, md_X2_isReached.2⟩
theorem md_X1_bestOf : (m_X1_bestOf.1.cls ≠ "java/lang/invoke/MethodHandle" ∧ m_X1_bestOf.1.cls ≠ "java/lang/invoke/VarHandle" ∧ (parseMethodDescriptor m_X1_bestOf.1.desc).map (fun d => d.parameters.length) = some 3) ∧ m_X1_bestOf.2.2.1 ≤ 22 := ⟨⟨by decide +kernel, by decide +kernel, by decide +kernel⟩, by decide⟩
theorem ml_X1_87 : s_MV RX1 87 m_X1_bestOf 3 := ⟨wd_1414, wd_1416, wd_58, wd_156, wd_1417, md_X1_bestOf.1, md_X1_bestOf.2⟩
theorem k_X1_91 : Cond.constantLong RX1 91 (-1 : Int64) ∈ s_tb := wd_1418
theorem md_X1_worstBy : (m_X1_worstBy.1.cls ≠ "java/lang/invoke/MethodHandle" ∧ m_X1_worstBy.1.cls ≠ "java/lang/invoke/VarHandle" ∧ (parseMethodDescriptor m_X1_worstBy.1.desc).map (fun d => d.parameters.length) = some 3) ∧ m_X1_worstBy.2.2.1 ≤ 22 := ⟨⟨by decide +kernel, by decide +kernel, by decide +kernel⟩, by decide⟩
theorem ml_X1_93 : s_MV RX1 93 m_X1_worstBy 3 := ⟨wd_1419, wd_1421, wd_59, wd_156, wd_1422, md_X1_worstBy.1, md_X1_worstBy.2⟩
theorem ml_X1_100 : s_J_minl RX1 100 := ⟨wd_1423, wd_1424, wd_149, wd_1425⟩
theorem md_X1_chanceBy : (m_X1_chanceBy.1.cls ≠ "java/lang/invoke/MethodHandle" ∧ m_X1_chanceBy.1.cls ≠ "java/lang/invoke/VarHandle" ∧ (parseMethodDescriptor m_X1_chanceBy.1.desc).map (fun d => d.parameters.length) = some 3) ∧ m_X1_chanceBy.2.2.1 ≤ 22 := ⟨⟨by decide +kernel, by decide +kernel, by decide +kernel⟩, by decide⟩
theorem ml_X1_97 : s_MV RX1 97 m_X1_chanceBy 3 := ⟨wd_1426, wd_1428, wd_60, wd_156, wd_1429, md_X1_chanceBy.1, md_X1_chanceBy.2⟩
theorem md_X11_steer : (m_X11_steer.1.cls ≠ "java/lang/invoke/MethodHandle" ∧ m_X11_steer.1.cls ≠ "java/lang/invoke/VarHandle" ∧ (parseMethodDescriptor m_X11_steer.1.desc).map (fun d => d.parameters.length) = some 6) ∧ m_X11_steer.2.2.1 ≤ 22 := ⟨⟨by decide +kernel, by decide +kernel, by decide +kernel⟩, by decide⟩
theorem ml_L_151 : s_MV RL 151 m_X11_steer 6 := ⟨wd_1430, wd_1431, wd_1432, wd_145, wd_1433, md_X11_steer.1, md_X11_steer.2⟩
theorem ml_X11_320 : s_MS RX11 320 m_X8_spotAt 2 := ⟨Or.inl (wd_1434), wd_966, wd_152, wd_967, md_X8_spotAt.1, md_X8_spotAt.2⟩
theorem md_X1_bestStep : (m_X1_bestStep.1.cls ≠ "java/lang/invoke/MethodHandle" ∧ m_X1_bestStep.1.cls ≠ "java/lang/invoke/VarHandle" ∧ (parseMethodDescriptor m_X1_bestStep.1.desc).map (fun d => d.parameters.length) = some 5) ∧ m_X1_bestStep.2.2.1 ≤ 22 := ⟨⟨by decide +kernel, by decide +kernel, by decide +kernel⟩, by decide⟩
theorem ml_X11_323 : s_MV RX11 323 m_X1_bestStep 5 := ⟨wd_1435, wd_1436, wd_1437, wd_156, wd_1438, md_X1_bestStep.1, md_X1_bestStep.2⟩
theorem md_X11_stray : (m_X11_stray.1.cls ≠ "java/lang/invoke/MethodHandle" ∧ m_X11_stray.1.cls ≠ "java/lang/invoke/VarHandle" ∧ (parseMethodDescriptor m_X11_stray.1.desc).map (fun d => d.parameters.length) = some 4) ∧ m_X11_stray.2.2.1 ≤ 22 := ⟨⟨by decide +kernel, by decide +kernel, by decide +kernel⟩, by decide⟩
theorem ml_L_164 : s_MV RL 164 m_X11_stray 4 := ⟨wd_1439, wd_1440, wd_1441, wd_145, wd_1442, md_X11_stray.1, md_X11_stray.2⟩
theorem md_X10_strayed : (m_X10_strayed.1.cls ≠ "java/lang/invoke/MethodHandle" ∧ m_X10_strayed.1.cls ≠ "java/lang/invoke/VarHandle" ∧ (parseMethodDescriptor m_X10_strayed.1.desc).map (fun d => d.parameters.length) = some 4) ∧ m_X10_strayed.2.2.1 ≤ 22 := ⟨⟨by decide +kernel, by decide +kernel, by decide +kernel⟩, by decide⟩
theorem ml_X11_326 : s_MV RX11 326 m_X10_strayed 4 := ⟨wd_1443, wd_1444, wd_1445, wd_157, wd_1446, md_X10_strayed.1, md_X10_strayed.2⟩
theorem md_X10_drift : (m_X10_drift.1.cls ≠ "java/lang/invoke/MethodHandle" ∧ m_X10_drift.1.cls ≠ "java/lang/invoke/VarHandle" ∧ (parseMethodDescriptor m_X10_drift.1.desc).map (fun d => d.parameters.length) = some 2) ∧ m_X10_drift.2.2.1 ≤ 22 := ⟨⟨by decide +kernel, by decide +kernel, by decide +kernel⟩, by decide⟩
theorem ml_X10_31 : s_MV RX10 31 m_X10_drift 2 := ⟨wd_1447, wd_1449, wd_61, wd_157, wd_1450, md_X10_drift.1, md_X10_drift.2⟩
theorem ml_X10_39 : s_MS RX10 39 m_X11_within 3 := ⟨Or.inr ⟨_, wn_1451⟩, wd_577, wd_145, wd_578, md_X11_within.1, md_X11_within.2⟩
theorem ml_X10_51 : s_MS RX10 51 m_X8_movedBy 3 := ⟨Or.inl (wd_1452), wd_1052, wd_152, wd_1053, md_X8_movedBy.1, md_X8_movedBy.2⟩
theorem md_X10_isAsSeen : (m_X10_isAsSeen.1.cls ≠ "java/lang/invoke/MethodHandle" ∧ m_X10_isAsSeen.1.cls ≠ "java/lang/invoke/VarHandle" ∧ (parseMethodDescriptor m_X10_isAsSeen.1.desc).map (fun d => d.parameters.length) = some 2) ∧ m_X10_isAsSeen.2.2.1 ≤ 22 := ⟨⟨by decide +kernel, by decide +kernel, by decide +kernel⟩, by decide⟩
theorem ml_X10_35 : s_MV RX10 35 m_X10_isAsSeen 2 := ⟨wd_1453, wd_1455, wd_62, wd_157, wd_1456, md_X10_isAsSeen.1, md_X10_isAsSeen.2⟩
theorem md_X3_sightFact : (m_X3_sightFact.1.cls ≠ "java/lang/invoke/MethodHandle" ∧ m_X3_sightFact.1.cls ≠ "java/lang/invoke/VarHandle" ∧ (parseMethodDescriptor m_X3_sightFact.1.desc).map (fun d => d.parameters.length) = some 2) ∧ m_X3_sightFact.2.2.1 ≤ 22 := ⟨⟨by decide +kernel, by decide +kernel, by decide +kernel⟩, by decide⟩
theorem ml_X10_61 : s_MV RX10 61 m_X3_sightFact 2 := ⟨wd_1457, wd_1458, wd_1459, wd_146, wd_1460, md_X3_sightFact.1, md_X3_sightFact.2⟩
theorem ml_X10_65 : s_MS RX10 65 m_X11_isHour 1 := ⟨Or.inr ⟨_, wn_1461⟩, wd_663, wd_145, wd_664, md_X11_isHour.1, md_X11_isHour.2⟩
theorem ml_X10_69 : s_MS RX10 69 m_X8_covers 4 := ⟨Or.inl (wd_1462), wd_1102, wd_152, wd_1103, md_X8_covers.1, md_X8_covers.2⟩
theorem md_X11_rustled : (m_X11_rustled.1.cls ≠ "java/lang/invoke/MethodHandle" ∧ m_X11_rustled.1.cls ≠ "java/lang/invoke/VarHandle" ∧ (parseMethodDescriptor m_X11_rustled.1.desc).map (fun d => d.parameters.length) = some 1) ∧ m_X11_rustled.2.2.1 ≤ 22 := ⟨⟨by decide +kernel, by decide +kernel, by decide +kernel⟩, by decide⟩
theorem ml_L_169 : s_MV RL 169 m_X11_rustled 1 := ⟨wd_1463, wd_1464, wd_1465, wd_145, wd_1466, md_X11_rustled.1, md_X11_rustled.2⟩
theorem md_X10_rustlings : (m_X10_rustlings.1.cls ≠ "java/lang/invoke/MethodHandle" ∧ m_X10_rustlings.1.cls ≠ "java/lang/invoke/VarHandle" ∧ (parseMethodDescriptor m_X10_rustlings.1.desc).map (fun d => d.parameters.length) = some 2) ∧ m_X10_rustlings.2.2.1 ≤ 22 := ⟨⟨by decide +kernel, by decide +kernel, by decide +kernel⟩, by decide⟩
theorem ml_X11_329 : s_MV RX11 329 m_X10_rustlings 2 := ⟨wd_1467, wd_1468, wd_1469, wd_157, wd_1470, md_X10_rustlings.1, md_X10_rustlings.2⟩
theorem ml_X10_73 : s_MV RX10 73 m_X3_isCloud 1 := ⟨wd_1471, wd_627, wd_628, wd_146, wd_629, md_X3_isCloud.1, md_X3_isCloud.2⟩
theorem ml_X10_76 : s_MV RX10 76 m_X8_flagOf 2 := ⟨wd_1472, wd_982, wd_983, wd_152, wd_984, md_X8_flagOf.1, md_X8_flagOf.2⟩
theorem ml_X10_79 : s_MV RX10 79 m_X8_tell 3 := ⟨wd_1473, wd_956, wd_957, wd_152, wd_958, md_X8_tell.1, md_X8_tell.2⟩
theorem md_X8_follow : (m_X8_follow.1.cls ≠ "java/lang/invoke/MethodHandle" ∧ m_X8_follow.1.cls ≠ "java/lang/invoke/VarHandle" ∧ (parseMethodDescriptor m_X8_follow.1.desc).map (fun d => d.parameters.length) = some 1) ∧ m_X8_follow.2.2.1 ≤ 22 := ⟨⟨by decide +kernel, by decide +kernel, by decide +kernel⟩, by decide⟩
theorem ml_X10_83 : s_MV RX10 83 m_X8_follow 1 := ⟨wd_1474, wd_1475, wd_1476, wd_152, wd_1477, md_X8_follow.1, md_X8_follow.2⟩
theorem md_X8_sightsAreSo : (m_X8_sightsAreSo.1.cls ≠ "java/lang/invoke/MethodHandle" ∧ m_X8_sightsAreSo.1.cls ≠ "java/lang/invoke/VarHandle" ∧ (parseMethodDescriptor m_X8_sightsAreSo.1.desc).map (fun d => d.parameters.length) = some 0) ∧ m_X8_sightsAreSo.2.2.1 ≤ 22 := ⟨⟨by decide +kernel, by decide +kernel, by decide +kernel⟩, by decide⟩
theorem ml_X10_87 : s_MV RX10 87 m_X8_sightsAreSo 0 := ⟨wd_1478, wd_1479, wd_1480, wd_152, wd_1481, md_X8_sightsAreSo.1, md_X8_sightsAreSo.2⟩
theorem ml_X8_116 : s_MV RX8 116 m_X3_sightFact 2 := ⟨wd_1482, wd_1458, wd_1459, wd_146, wd_1460, md_X3_sightFact.1, md_X3_sightFact.2⟩
theorem md_X11_men : (m_X11_men.1.cls ≠ "java/lang/invoke/MethodHandle" ∧ m_X11_men.1.cls ≠ "java/lang/invoke/VarHandle" ∧ (parseMethodDescriptor m_X11_men.1.desc).map (fun d => d.parameters.length) = some 0) ∧ m_X11_men.2.2.1 ≤ 22 := ⟨⟨by decide +kernel, by decide +kernel, by decide +kernel⟩, by decide⟩
theorem ml_L_173 : s_MV RL 173 m_X11_men 0 := ⟨wd_1483, wd_1484, wd_1485, wd_145, wd_1486, md_X11_men.1, md_X11_men.2⟩
theorem md_X10_fewestMen : (m_X10_fewestMen.1.cls ≠ "java/lang/invoke/MethodHandle" ∧ m_X10_fewestMen.1.cls ≠ "java/lang/invoke/VarHandle" ∧ (parseMethodDescriptor m_X10_fewestMen.1.desc).map (fun d => d.parameters.length) = some 1) ∧ m_X10_fewestMen.2.2.1 ≤ 22 := ⟨⟨by decide +kernel, by decide +kernel, by decide +kernel⟩, by decide⟩
theorem ml_X11_333 : s_MV RX11 333 m_X10_fewestMen 1 := ⟨wd_1487, wd_1488, wd_1489, wd_157, wd_1490, md_X10_fewestMen.1, md_X10_fewestMen.2⟩
theorem ml_X10_94 : s_MV RX10 94 m_X3_flagFact 2 := ⟨wd_1491, wd_643, wd_644, wd_146, wd_645, md_X3_flagFact.1, md_X3_flagFact.2⟩
theorem ml_X10_97 : s_MV RX10 97 m_X8_spotOf 2 := ⟨wd_1492, wd_978, wd_979, wd_152, wd_980, md_X8_spotOf.1, md_X8_spotOf.2⟩
theorem md_X10_findNext : (m_X10_findNext.1.cls ≠ "java/lang/invoke/MethodHandle" ∧ m_X10_findNext.1.cls ≠ "java/lang/invoke/VarHandle" ∧ (parseMethodDescriptor m_X10_findNext.1.desc).map (fun d => d.parameters.length) = some 3) ∧ m_X10_findNext.2.2.1 ≤ 22 := ⟨⟨by decide +kernel, by decide +kernel, by decide +kernel⟩, by decide⟩
theorem ml_X10_100 : s_MV RX10 100 m_X10_findNext 3 := ⟨wd_1493, wd_1495, wd_63, wd_157, wd_1496, md_X10_findNext.1, md_X10_findNext.2⟩
theorem md_X10_canFollow : (m_X10_canFollow.1.cls ≠ "java/lang/invoke/MethodHandle" ∧ m_X10_canFollow.1.cls ≠ "java/lang/invoke/VarHandle" ∧ (parseMethodDescriptor m_X10_canFollow.1.desc).map (fun d => d.parameters.length) = some 2) ∧ m_X10_canFollow.2.2.1 ≤ 22 := ⟨⟨by decide +kernel, by decide +kernel, by decide +kernel⟩, by decide⟩
theorem ml_X10_103 : s_MV RX10 103 m_X10_canFollow 2 := ⟨wd_1497, wd_1499, wd_64, wd_157, wd_1500, md_X10_canFollow.1, md_X10_canFollow.2⟩
theorem ml_X10_106 : s_MS RX10 106 m_X8_xOf 1 := ⟨Or.inl (wd_1501), wd_990, wd_152, wd_991, md_X8_xOf.1, md_X8_xOf.2⟩
theorem ml_X10_110 : s_J_abs RX10 110 := ⟨wd_1502, wd_1503, wd_149, wd_1504⟩
theorem ml_X10_115 : s_MS RX10 115 m_X8_yOf 1 := ⟨Or.inl (wd_1505), wd_993, wd_152, wd_994, md_X8_yOf.1, md_X8_yOf.2⟩
theorem md_X11_duel : (m_X11_duel.1.cls ≠ "java/lang/invoke/MethodHandle" ∧ m_X11_duel.1.cls ≠ "java/lang/invoke/VarHandle" ∧ (parseMethodDescriptor m_X11_duel.1.desc).map (fun d => d.parameters.length) = some 4) ∧ m_X11_duel.2.2.1 ≤ 22 := ⟨⟨by decide +kernel, by decide +kernel, by decide +kernel⟩, by decide⟩
theorem ml_L_177 : s_MV RL 177 m_X11_duel 4 := ⟨wd_1506, wd_1507, wd_1508, wd_145, wd_1509, md_X11_duel.1, md_X11_duel.2⟩
theorem md_X1_fought : (m_X1_fought.1.cls ≠ "java/lang/invoke/MethodHandle" ∧ m_X1_fought.1.cls ≠ "java/lang/invoke/VarHandle" ∧ (parseMethodDescriptor m_X1_fought.1.desc).map (fun d => d.parameters.length) = some 4) ∧ m_X1_fought.2.2.1 ≤ 22 := ⟨⟨by decide +kernel, by decide +kernel, by decide +kernel⟩, by decide⟩
theorem ml_X11_337 : s_MV RX11 337 m_X1_fought 4 := ⟨wd_1510, wd_1511, wd_1512, wd_156, wd_1513, md_X1_fought.1, md_X1_fought.2⟩
theorem md_X11_summer : (m_X11_summer.1.cls ≠ "java/lang/invoke/MethodHandle" ∧ m_X11_summer.1.cls ≠ "java/lang/invoke/VarHandle" ∧ (parseMethodDescriptor m_X11_summer.1.desc).map (fun d => d.parameters.length) = some 2) ∧ m_X11_summer.2.2.1 ≤ 22 := ⟨⟨by decide +kernel, by decide +kernel, by decide +kernel⟩, by decide⟩
theorem ml_L_181 : s_MV RL 181 m_X11_summer 2 := ⟨wd_1514, wd_1515, wd_1516, wd_145, wd_1517, md_X11_summer.1, md_X11_summer.2⟩
theorem k_X11_340 : Cond.constant RX11 340 (1000000 : Int32) ∈ s_tb := wd_1518
theorem md_X9_lastSummer : (m_X9_lastSummer.1.cls ≠ "java/lang/invoke/MethodHandle" ∧ m_X9_lastSummer.1.cls ≠ "java/lang/invoke/VarHandle" ∧ (parseMethodDescriptor m_X9_lastSummer.1.desc).map (fun d => d.parameters.length) = some 2) ∧ m_X9_lastSummer.2.2.1 ≤ 22 := ⟨⟨by decide +kernel, by decide +kernel, by decide +kernel⟩, by decide⟩
theorem ml_X11_341 : s_MV RX11 341 m_X9_lastSummer 2 := ⟨wd_1519, wd_1520, wd_1521, wd_153, wd_1522, md_X9_lastSummer.1, md_X9_lastSummer.2⟩
theorem ml_X9_77 : s_MV RX9 77 m_X9_begin 0 := ⟨wd_1523, wd_1130, wd_1131, wd_153, wd_1132, md_X9_begin.1, md_X9_begin.2⟩
theorem ml_X9_80 : s_MV RX9 80 m_X8_hearFlags 0 := ⟨wd_1524, wd_951, wd_952, wd_152, wd_953, md_X8_hearFlags.1, md_X8_hearFlags.2⟩
theorem md_X9_drawDay : (m_X9_drawDay.1.cls ≠ "java/lang/invoke/MethodHandle" ∧ m_X9_drawDay.1.cls ≠ "java/lang/invoke/VarHandle" ∧ (parseMethodDescriptor m_X9_drawDay.1.desc).map (fun d => d.parameters.length) = some 0) ∧ m_X9_drawDay.2.2.1 ≤ 22 := ⟨⟨by decide +kernel, by decide +kernel, by decide +kernel⟩, by decide⟩
theorem ml_X9_83 : s_MV RX9 83 m_X9_drawDay 0 := ⟨wd_1525, wd_1527, wd_65, wd_153, wd_1528, md_X9_drawDay.1, md_X9_drawDay.2⟩
theorem ml_X9_93 : s_MV RX9 93 m_X3_startOf 1 := ⟨wd_1529, wd_961, wd_962, wd_146, wd_963, md_X3_startOf.1, md_X3_startOf.2⟩
theorem ml_X9_97 : s_MV RX9 97 m_X8_place 3 := ⟨wd_1530, wd_969, wd_970, wd_152, wd_971, md_X8_place.1, md_X8_place.2⟩
theorem ml_X9_101 : s_MV RX9 101 m_X8_spotOf 2 := ⟨wd_1531, wd_978, wd_979, wd_152, wd_980, md_X8_spotOf.1, md_X8_spotOf.2⟩
theorem md_X9_drawOfTen : (m_X9_drawOfTen.1.cls ≠ "java/lang/invoke/MethodHandle" ∧ m_X9_drawOfTen.1.cls ≠ "java/lang/invoke/VarHandle" ∧ (parseMethodDescriptor m_X9_drawOfTen.1.desc).map (fun d => d.parameters.length) = some 0) ∧ m_X9_drawOfTen.2.2.1 ≤ 22 := ⟨⟨by decide +kernel, by decide +kernel, by decide +kernel⟩, by decide⟩
theorem ml_X9_104 : s_MV RX9 104 m_X9_drawOfTen 0 := ⟨wd_1532, wd_1534, wd_66, wd_153, wd_1535, md_X9_drawOfTen.1, md_X9_drawOfTen.2⟩
theorem k_X9_115 : Cond.constantLong RX9 115 (1103 : Int64) ∈ s_tb := wd_1536
theorem k_X9_117 : Cond.constantLong RX9 117 (12345 : Int64) ∈ s_tb := wd_1537
theorem k_X9_119 : Cond.constantLong RX9 119 (1000003 : Int64) ∈ s_tb := wd_1538
theorem ml_X9_111 : s_MV RX9 111 m_X8_goOn 3 := ⟨wd_1539, wd_974, wd_975, wd_152, wd_976, md_X8_goOn.1, md_X8_goOn.2⟩
theorem ml_X9_86 : s_MV RX9 86 m_X9_isScorched 2 := ⟨wd_1540, wd_1152, wd_1153, wd_153, wd_1154, md_X9_isScorched.1, md_X9_isScorched.2⟩
theorem md_X11_drawn : (m_X11_drawn.1.cls ≠ "java/lang/invoke/MethodHandle" ∧ m_X11_drawn.1.cls ≠ "java/lang/invoke/VarHandle" ∧ (parseMethodDescriptor m_X11_drawn.1.desc).map (fun d => d.parameters.length) = some 1) ∧ m_X11_drawn.2.2.1 ≤ 22 := ⟨⟨by decide +kernel, by decide +kernel, by decide +kernel⟩, by decide⟩
theorem ml_L_185 : s_MV RL 185 m_X11_drawn 1 := ⟨wd_1541, wd_1542, wd_1543, wd_145, wd_1544, md_X11_drawn.1, md_X11_drawn.2⟩
theorem md_X9_daysOf : (m_X9_daysOf.1.cls ≠ "java/lang/invoke/MethodHandle" ∧ m_X9_daysOf.1.cls ≠ "java/lang/invoke/VarHandle" ∧ (parseMethodDescriptor m_X9_daysOf.1.desc).map (fun d => d.parameters.length) = some 1) ∧ m_X9_daysOf.2.2.1 ≤ 22 := ⟨⟨by decide +kernel, by decide +kernel, by decide +kernel⟩, by decide⟩
theorem ml_X11_344 : s_MV RX11 344 m_X9_daysOf 1 := ⟨wd_1545, wd_1546, wd_1547, wd_153, wd_1548, md_X9_daysOf.1, md_X9_daysOf.2⟩
theorem ml_X9_73 : s_MS RX9 73 m_X11_within 3 := ⟨Or.inr ⟨_, wn_1549⟩, wd_577, wd_145, wd_578, md_X11_within.1, md_X11_within.2⟩
theorem cl_L_10 : s_Nw RL 10 12 64 [.int 0, .int 0, .null, .null, .null, .null, .int 0, .null, .int 0, .int 0, .int 0, .int 0, .long 0, .int 0, .int 0, .int 0, .int 0, .null, .int 0, .null, .null, .int 0, .null, .null, .int 0, .int 0, .null, .null, .null, .int 0, .null, .null, .null, .int 0, .long 0, .long 0, .null, .null, .null, .null, .null, .null, .null, .null, .null, .null, .null, .null, .null, .null, .int 0, .null, .null, .null, .null, .null, .null, .int 0, .int 0, .int 0, .int 0, .long 0, .null, .int 0] := ⟨RX12, TX12, tyX12, rfl, tyX12_ok, by decide +kernel, wd_1550, wd_1551, wd_158⟩
theorem ck_L_10 : Cond.classLink RL 10 "ShadowHerdsModel" ∈ s_tb := wd_1550
theorem md_X12_init : (m_X12_init.1.cls ≠ "java/lang/invoke/MethodHandle" ∧ m_X12_init.1.cls ≠ "java/lang/invoke/VarHandle" ∧ (parseMethodDescriptor m_X12_init.1.desc).map (fun d => d.parameters.length) = some 0) ∧ m_X12_init.2.2.1 ≤ 22 := ⟨⟨by decide +kernel, by decide +kernel, by decide +kernel⟩, by decide⟩
theorem ml_L_12 : s_MI RL 12 m_X12_init 0 := ⟨Or.inl (wd_1552), wd_1553, wd_158, wd_1554, rfl, rfl, md_X12_init.1, md_X12_init.2⟩
theorem ml_X12_1 : Cond.methodLink RX12 1 objectInit ∈ s_tb ∧ Cond.instanceMethod objectInit ∈ s_tb ∧ Cond.code objectInit ⟨#[0xb1]⟩ 1 none ∈ s_tb := ⟨wd_1555, wd_170, wd_171⟩
theorem k_X12_45 : Cond.constantLong RX12 45 (24 : Int64) ∈ s_tb := wd_1556
theorem k_X12_47 : Cond.constantLong RX12 47 (25 : Int64) ∈ s_tb := wd_1557
theorem k_X12_49 : Cond.constantLong RX12 49 (278194 : Int64) ∈ s_tb := wd_1558
theorem k_X12_51 : Cond.constantLong RX12 51 (3554980 : Int64) ∈ s_tb := wd_1559
theorem k_X12_53 : Cond.constantLong RX12 53 (12641458 : Int64) ∈ s_tb := wd_1560
theorem k_X12_55 : Cond.constantLong RX12 55 (20186245 : Int64) ∈ s_tb := wd_1561
theorem k_X12_57 : Cond.constantLong RX12 57 (4153 : Int64) ∈ s_tb := wd_1562
theorem k_X12_59 : Cond.constantLong RX12 59 (441828 : Int64) ∈ s_tb := wd_1563
theorem k_X12_65 : Cond.constantLong RX12 65 (113759379 : Int64) ∈ s_tb := wd_1564
theorem k_X12_67 : Cond.constantLong RX12 67 (6685939 : Int64) ∈ s_tb := wd_1565
theorem k_X12_69 : Cond.constantLong RX12 69 (394868 : Int64) ∈ s_tb := wd_1566
theorem k_X12_71 : Cond.constantLong RX12 71 (146885 : Int64) ∈ s_tb := wd_1567
theorem k_X12_73 : Cond.constantLong RX12 73 (19118 : Int64) ∈ s_tb := wd_1568
theorem k_X12_75 : Cond.constantLong RX12 75 (398548 : Int64) ∈ s_tb := wd_1569
theorem k_X12_77 : Cond.constantLong RX12 77 (20976 : Int64) ∈ s_tb := wd_1570
theorem k_X12_82 : Cond.constantLong RX12 82 (8554131 : Int64) ∈ s_tb := wd_1571
theorem k_X12_84 : Cond.constantLong RX12 84 (3653011 : Int64) ∈ s_tb := wd_1572
theorem k_X12_86 : Cond.constantLong RX12 86 (24627848 : Int64) ∈ s_tb := wd_1573
theorem k_X12_88 : Cond.constantLong RX12 88 (67155 : Int64) ∈ s_tb := wd_1574
theorem k_X12_114 : Cond.constant RX12 114 (82944 : Int32) ∈ s_tb := wd_1575
theorem fl_X12_169 : s_Fl RX12 169 12 0 .int false := ⟨_, _, _, rfl, by decide, by decide +kernel, rfl, wd_1576, rfl⟩
theorem fl_X12_172 : s_Fl RX12 172 12 1 .int false := ⟨_, _, _, rfl, by decide, by decide +kernel, rfl, wd_1577, rfl⟩
theorem fl_X12_7 : s_Fl RX12 7 12 2 (.array .int) true := ⟨_, _, _, rfl, by decide, by decide +kernel, rfl, wd_1578, rfl⟩
theorem fl_X12_13 : s_Fl RX12 13 12 3 (.array .int) true := ⟨_, _, _, rfl, by decide, by decide +kernel, rfl, wd_1579, rfl⟩
theorem fl_X12_16 : s_Fl RX12 16 12 4 (.array .int) true := ⟨_, _, _, rfl, by decide, by decide +kernel, rfl, wd_1580, rfl⟩
theorem fl_X12_19 : s_Fl RX12 19 12 5 (.array .boolean) true := ⟨_, _, _, rfl, by decide, by decide +kernel, rfl, wd_1581, rfl⟩
theorem fl_X12_244 : s_Fl RX12 244 12 6 .int false := ⟨_, _, _, rfl, by decide, by decide +kernel, rfl, wd_1582, rfl⟩
theorem fl_X12_23 : s_Fl RX12 23 12 7 (.array .int) true := ⟨_, _, _, rfl, by decide, by decide +kernel, rfl, wd_1583, rfl⟩
theorem fl_X12_241 : s_Fl RX12 241 12 8 .int false := ⟨_, _, _, rfl, by decide, by decide +kernel, rfl, wd_1584, rfl⟩
theorem fl_X12_261 : s_Fl RX12 261 12 9 .int false := ⟨_, _, _, rfl, by decide, by decide +kernel, rfl, wd_1585, rfl⟩
theorem fl_X12_251 : s_Fl RX12 251 12 10 .int false := ⟨_, _, _, rfl, by decide, by decide +kernel, rfl, wd_1586, rfl⟩
theorem fl_X12_274 : s_Fl RX12 274 12 11 .int false := ⟨_, _, _, rfl, by decide, by decide +kernel, rfl, wd_1587, rfl⟩
theorem fl_X12_264 : s_Fl RX12 264 12 12 .long false := ⟨_, _, _, rfl, by decide, by decide +kernel, rfl, wd_1588, rfl⟩
theorem fl_X12_26 : s_Fl RX12 26 12 13 .int false := ⟨_, _, _, rfl, by decide, by decide +kernel, rfl, wd_1589, rfl⟩
theorem fl_X12_254 : s_Fl RX12 254 12 14 .boolean false := ⟨_, _, _, rfl, by decide, by decide +kernel, rfl, wd_1590, rfl⟩
theorem fl_X12_325 : s_Fl RX12 325 12 15 .boolean false := ⟨_, _, _, rfl, by decide, by decide +kernel, rfl, wd_1591, rfl⟩
theorem fl_X12_377 : s_Fl RX12 377 12 16 .int false := ⟨_, _, _, rfl, by decide, by decide +kernel, rfl, wd_1592, rfl⟩
theorem fl_X12_30 : s_Fl RX12 30 12 17 (.array .int) true := ⟨_, _, _, rfl, by decide, by decide +kernel, rfl, wd_1593, rfl⟩
theorem fl_X12_289 : s_Fl RX12 289 12 18 .int false := ⟨_, _, _, rfl, by decide, by decide +kernel, rfl, wd_1594, rfl⟩
theorem fl_X12_33 : s_Fl RX12 33 12 19 (.array .int) true := ⟨_, _, _, rfl, by decide, by decide +kernel, rfl, wd_1595, rfl⟩
theorem fl_X12_36 : s_Fl RX12 36 12 20 (.array .int) true := ⟨_, _, _, rfl, by decide, by decide +kernel, rfl, wd_1596, rfl⟩
theorem fl_X12_316 : s_Fl RX12 316 12 21 .int false := ⟨_, _, _, rfl, by decide, by decide +kernel, rfl, wd_1597, rfl⟩
theorem fl_X12_39 : s_Fl RX12 39 12 22 (.array .int) true := ⟨_, _, _, rfl, by decide, by decide +kernel, rfl, wd_1598, rfl⟩
theorem fl_X12_42 : s_Fl RX12 42 12 23 (.array .int) true := ⟨_, _, _, rfl, by decide, by decide +kernel, rfl, wd_1599, rfl⟩
theorem fl_X12_292 : s_Fl RX12 292 12 24 .int false := ⟨_, _, _, rfl, by decide, by decide +kernel, rfl, wd_1600, rfl⟩
theorem fl_X12_310 : s_Fl RX12 310 12 25 .int false := ⟨_, _, _, rfl, by decide, by decide +kernel, rfl, wd_1601, rfl⟩
theorem fl_X12_61 : s_Fl RX12 61 12 26 (.array .long) true := ⟨_, _, _, rfl, by decide, by decide +kernel, rfl, wd_1602, rfl⟩
theorem fl_X12_79 : s_Fl RX12 79 12 27 (.array .long) true := ⟨_, _, _, rfl, by decide, by decide +kernel, rfl, wd_1603, rfl⟩
theorem fl_X12_90 : s_Fl RX12 90 12 28 (.array .long) true := ⟨_, _, _, rfl, by decide, by decide +kernel, rfl, wd_1604, rfl⟩
theorem fl_X12_397 : s_Fl RX12 397 12 29 .int false := ⟨_, _, _, rfl, by decide, by decide +kernel, rfl, wd_1605, rfl⟩
theorem fl_X12_93 : s_Fl RX12 93 12 30 (.array .long) true := ⟨_, _, _, rfl, by decide, by decide +kernel, rfl, wd_1606, rfl⟩
theorem fl_X12_96 : s_Fl RX12 96 12 31 (.array .long) true := ⟨_, _, _, rfl, by decide, by decide +kernel, rfl, wd_1607, rfl⟩
theorem fl_X12_99 : s_Fl RX12 99 12 32 (.array .long) true := ⟨_, _, _, rfl, by decide, by decide +kernel, rfl, wd_1608, rfl⟩
theorem fl_X12_394 : s_Fl RX12 394 12 33 .boolean false := ⟨_, _, _, rfl, by decide, by decide +kernel, rfl, wd_1609, rfl⟩
theorem fl_X12_412 : s_Fl RX12 412 12 34 .long false := ⟨_, _, _, rfl, by decide, by decide +kernel, rfl, wd_1610, rfl⟩
theorem fl_X12_426 : s_Fl RX12 426 12 35 .long false := ⟨_, _, _, rfl, by decide, by decide +kernel, rfl, wd_1611, rfl⟩
theorem fl_X12_102 : s_Fl RX12 102 12 36 (.array .int) true := ⟨_, _, _, rfl, by decide, by decide +kernel, rfl, wd_1612, rfl⟩
theorem fl_X12_105 : s_Fl RX12 105 12 37 (.array .int) true := ⟨_, _, _, rfl, by decide, by decide +kernel, rfl, wd_1613, rfl⟩
theorem fl_X12_108 : s_Fl RX12 108 12 38 (.array .boolean) true := ⟨_, _, _, rfl, by decide, by decide +kernel, rfl, wd_1614, rfl⟩
theorem fl_X12_111 : s_Fl RX12 111 12 39 (.array .int) true := ⟨_, _, _, rfl, by decide, by decide +kernel, rfl, wd_1615, rfl⟩
theorem fl_X12_115 : s_Fl RX12 115 12 40 (.array .int) true := ⟨_, _, _, rfl, by decide, by decide +kernel, rfl, wd_1616, rfl⟩
theorem fl_X12_118 : s_Fl RX12 118 12 41 (.array .int) true := ⟨_, _, _, rfl, by decide, by decide +kernel, rfl, wd_1617, rfl⟩
theorem fl_X12_121 : s_Fl RX12 121 12 42 (.array .boolean) true := ⟨_, _, _, rfl, by decide, by decide +kernel, rfl, wd_1618, rfl⟩
theorem fl_X12_124 : s_Fl RX12 124 12 43 (.array .boolean) true := ⟨_, _, _, rfl, by decide, by decide +kernel, rfl, wd_1619, rfl⟩
theorem fl_X12_127 : s_Fl RX12 127 12 44 (.array .long) true := ⟨_, _, _, rfl, by decide, by decide +kernel, rfl, wd_1620, rfl⟩
theorem fl_X12_130 : s_Fl RX12 130 12 45 (.array .long) true := ⟨_, _, _, rfl, by decide, by decide +kernel, rfl, wd_1621, rfl⟩
theorem fl_X12_133 : s_Fl RX12 133 12 46 (.array .long) true := ⟨_, _, _, rfl, by decide, by decide +kernel, rfl, wd_1622, rfl⟩
theorem fl_X12_136 : s_Fl RX12 136 12 47 (.array .int) true := ⟨_, _, _, rfl, by decide, by decide +kernel, rfl, wd_1623, rfl⟩
theorem fl_X12_139 : s_Fl RX12 139 12 48 (.array .int) true := ⟨_, _, _, rfl, by decide, by decide +kernel, rfl, wd_1624, rfl⟩
theorem fl_X12_142 : s_Fl RX12 142 12 49 (.array .int) true := ⟨_, _, _, rfl, by decide, by decide +kernel, rfl, wd_1625, rfl⟩
theorem fl_X12_570 : s_Fl RX12 570 12 50 .int false := ⟨_, _, _, rfl, by decide, by decide +kernel, rfl, wd_1626, rfl⟩
theorem fl_X12_145 : s_Fl RX12 145 12 51 (.array .int) true := ⟨_, _, _, rfl, by decide, by decide +kernel, rfl, wd_1627, rfl⟩
theorem fl_X12_148 : s_Fl RX12 148 12 52 (.array .boolean) true := ⟨_, _, _, rfl, by decide, by decide +kernel, rfl, wd_1628, rfl⟩
theorem fl_X12_151 : s_Fl RX12 151 12 53 (.array .int) true := ⟨_, _, _, rfl, by decide, by decide +kernel, rfl, wd_1629, rfl⟩
theorem fl_X12_154 : s_Fl RX12 154 12 54 (.array .int) true := ⟨_, _, _, rfl, by decide, by decide +kernel, rfl, wd_1630, rfl⟩
theorem fl_X12_157 : s_Fl RX12 157 12 55 (.array .boolean) true := ⟨_, _, _, rfl, by decide, by decide +kernel, rfl, wd_1631, rfl⟩
theorem fl_X12_160 : s_Fl RX12 160 12 56 (.array .int) true := ⟨_, _, _, rfl, by decide, by decide +kernel, rfl, wd_1632, rfl⟩
theorem fl_X12_605 : s_Fl RX12 605 12 57 .int false := ⟨_, _, _, rfl, by decide, by decide +kernel, rfl, wd_1633, rfl⟩
theorem fl_X12_602 : s_Fl RX12 602 12 58 .int false := ⟨_, _, _, rfl, by decide, by decide +kernel, rfl, wd_1634, rfl⟩
theorem fl_X12_163 : s_Fl RX12 163 12 59 .int false := ⟨_, _, _, rfl, by decide, by decide +kernel, rfl, wd_1635, rfl⟩
theorem fl_X12_599 : s_Fl RX12 599 12 60 .boolean false := ⟨_, _, _, rfl, by decide, by decide +kernel, rfl, wd_1636, rfl⟩
theorem fl_X12_618 : s_Fl RX12 618 12 61 .long false := ⟨_, _, _, rfl, by decide, by decide +kernel, rfl, wd_1637, rfl⟩
theorem fl_X12_166 : s_Fl RX12 166 12 62 (.array .int) true := ⟨_, _, _, rfl, by decide, by decide +kernel, rfl, wd_1638, rfl⟩
theorem fl_X12_632 : s_Fl RX12 632 12 63 .boolean false := ⟨_, _, _, rfl, by decide, by decide +kernel, rfl, wd_1639, rfl⟩
theorem md_X12_image : (m_X12_image.1.cls ≠ "java/lang/invoke/MethodHandle" ∧ m_X12_image.1.cls ≠ "java/lang/invoke/VarHandle" ∧ (parseMethodDescriptor m_X12_image.1.desc).map (fun d => d.parameters.length) = some 1) ∧ m_X12_image.2.2.1 ≤ 22 := ⟨⟨by decide +kernel, by decide +kernel, by decide +kernel⟩, by decide⟩
theorem ml_L_192 : s_MV RL 192 m_X12_image 1 := ⟨wd_1769, wd_1770, wd_1771, wd_158, wd_1772, md_X12_image.1, md_X12_image.2⟩
theorem md_X12_in : (m_X12_in.1.cls ≠ "java/lang/invoke/MethodHandle" ∧ m_X12_in.1.cls ≠ "java/lang/invoke/VarHandle" ∧ (parseMethodDescriptor m_X12_in.1.desc).map (fun d => d.parameters.length) = some 3) ∧ m_X12_in.2.2.1 ≤ 22 := ⟨⟨by decide +kernel, by decide +kernel, by decide +kernel⟩, by decide⟩
theorem ml_X12_175 : s_MS RX12 175 m_X12_in 3 := ⟨Or.inl (wd_1773), wd_1774, wd_158, wd_1775, md_X12_in.1, md_X12_in.2⟩
theorem md_X12_tell : (m_X12_tell.1.cls ≠ "java/lang/invoke/MethodHandle" ∧ m_X12_tell.1.cls ≠ "java/lang/invoke/VarHandle" ∧ (parseMethodDescriptor m_X12_tell.1.desc).map (fun d => d.parameters.length) = some 1) ∧ m_X12_tell.2.2.1 ≤ 22 := ⟨⟨by decide +kernel, by decide +kernel, by decide +kernel⟩, by decide⟩
theorem ml_X12_179 : s_MV RX12 179 m_X12_tell 1 := ⟨wd_1776, wd_1778, wd_67, wd_158, wd_1779, md_X12_tell.1, md_X12_tell.2⟩
theorem md_X12_back : (m_X12_back.1.cls ≠ "java/lang/invoke/MethodHandle" ∧ m_X12_back.1.cls ≠ "java/lang/invoke/VarHandle" ∧ (parseMethodDescriptor m_X12_back.1.desc).map (fun d => d.parameters.length) = some 1) ∧ m_X12_back.2.2.1 ≤ 22 := ⟨⟨by decide +kernel, by decide +kernel, by decide +kernel⟩, by decide⟩
theorem ml_L_196 : s_MV RL 196 m_X12_back 1 := ⟨wd_1780, wd_1781, wd_1782, wd_158, wd_1783, md_X12_back.1, md_X12_back.2⟩
theorem md_X12_put : (m_X12_put.1.cls ≠ "java/lang/invoke/MethodHandle" ∧ m_X12_put.1.cls ≠ "java/lang/invoke/VarHandle" ∧ (parseMethodDescriptor m_X12_put.1.desc).map (fun d => d.parameters.length) = some 3) ∧ m_X12_put.2.2.1 ≤ 22 := ⟨⟨by decide +kernel, by decide +kernel, by decide +kernel⟩, by decide⟩
theorem ml_L_17 : s_MV RL 17 m_X12_put 3 := ⟨wd_1784, wd_1785, wd_1786, wd_158, wd_1787, md_X12_put.1, md_X12_put.2⟩
theorem k_X12_191 : Cond.constantLong RX12 191 (99 : Int64) ∈ s_tb := wd_1788
theorem k_X12_193 : Cond.constantLong RX12 193 (999 : Int64) ∈ s_tb := wd_1789
theorem md_X12_isField : (m_X12_isField.1.cls ≠ "java/lang/invoke/MethodHandle" ∧ m_X12_isField.1.cls ≠ "java/lang/invoke/VarHandle" ∧ (parseMethodDescriptor m_X12_isField.1.desc).map (fun d => d.parameters.length) = some 1) ∧ m_X12_isField.2.2.1 ≤ 22 := ⟨⟨by decide +kernel, by decide +kernel, by decide +kernel⟩, by decide⟩
theorem ml_X12_195 : s_MS RX12 195 m_X12_isField 1 := ⟨Or.inl (wd_1790), wd_1791, wd_158, wd_1792, md_X12_isField.1, md_X12_isField.2⟩
theorem k_X12_183 : Cond.constantLong RX12 183 (63 : Int64) ∈ s_tb := wd_1793
theorem md_X12_change : (m_X12_change.1.cls ≠ "java/lang/invoke/MethodHandle" ∧ m_X12_change.1.cls ≠ "java/lang/invoke/VarHandle" ∧ (parseMethodDescriptor m_X12_change.1.desc).map (fun d => d.parameters.length) = some 2) ∧ m_X12_change.2.2.1 ≤ 22 := ⟨⟨by decide +kernel, by decide +kernel, by decide +kernel⟩, by decide⟩
theorem ml_X12_199 : s_MV RX12 199 m_X12_change 2 := ⟨wd_1794, wd_1796, wd_68, wd_158, wd_1797, md_X12_change.1, md_X12_change.2⟩
theorem md_X12_fact : (m_X12_fact.1.cls ≠ "java/lang/invoke/MethodHandle" ∧ m_X12_fact.1.cls ≠ "java/lang/invoke/VarHandle" ∧ (parseMethodDescriptor m_X12_fact.1.desc).map (fun d => d.parameters.length) = some 2) ∧ m_X12_fact.2.2.1 ≤ 22 := ⟨⟨by decide +kernel, by decide +kernel, by decide +kernel⟩, by decide⟩
theorem ml_L_22 : s_MV RL 22 m_X12_fact 2 := ⟨wd_1798, wd_1799, wd_1800, wd_158, wd_1801, md_X12_fact.1, md_X12_fact.2⟩
theorem k_X12_203 : Cond.constantLong RX12 203 (2 : Int64) ∈ s_tb := wd_1802
theorem md_X12_ofField : (m_X12_ofField.1.cls ≠ "java/lang/invoke/MethodHandle" ∧ m_X12_ofField.1.cls ≠ "java/lang/invoke/VarHandle" ∧ (parseMethodDescriptor m_X12_ofField.1.desc).map (fun d => d.parameters.length) = some 2) ∧ m_X12_ofField.2.2.1 ≤ 22 := ⟨⟨by decide +kernel, by decide +kernel, by decide +kernel⟩, by decide⟩
theorem ml_X12_205 : s_MV RX12 205 m_X12_ofField 2 := ⟨wd_1803, wd_1805, wd_69, wd_158, wd_1806, md_X12_ofField.1, md_X12_ofField.2⟩
theorem md_X12_wind : (m_X12_wind.1.cls ≠ "java/lang/invoke/MethodHandle" ∧ m_X12_wind.1.cls ≠ "java/lang/invoke/VarHandle" ∧ (parseMethodDescriptor m_X12_wind.1.desc).map (fun d => d.parameters.length) = some 3) ∧ m_X12_wind.2.2.1 ≤ 22 := ⟨⟨by decide +kernel, by decide +kernel, by decide +kernel⟩, by decide⟩
theorem ml_L_26 : s_MV RL 26 m_X12_wind 3 := ⟨wd_1807, wd_1808, wd_1809, wd_158, wd_1810, md_X12_wind.1, md_X12_wind.2⟩
theorem k_X12_208 : Cond.constantLong RX12 208 (-1 : Int64) ∈ s_tb := wd_1811
theorem md_X12_cloud : (m_X12_cloud.1.cls ≠ "java/lang/invoke/MethodHandle" ∧ m_X12_cloud.1.cls ≠ "java/lang/invoke/VarHandle" ∧ (parseMethodDescriptor m_X12_cloud.1.desc).map (fun d => d.parameters.length) = some 5) ∧ m_X12_cloud.2.2.1 ≤ 22 := ⟨⟨by decide +kernel, by decide +kernel, by decide +kernel⟩, by decide⟩
theorem ml_L_31 : s_MV RL 31 m_X12_cloud 5 := ⟨wd_1812, wd_1813, wd_1814, wd_158, wd_1815, md_X12_cloud.1, md_X12_cloud.2⟩
theorem md_X12_isShape : (m_X12_isShape.1.cls ≠ "java/lang/invoke/MethodHandle" ∧ m_X12_isShape.1.cls ≠ "java/lang/invoke/VarHandle" ∧ (parseMethodDescriptor m_X12_isShape.1.desc).map (fun d => d.parameters.length) = some 3) ∧ m_X12_isShape.2.2.1 ≤ 22 := ⟨⟨by decide +kernel, by decide +kernel, by decide +kernel⟩, by decide⟩
theorem ml_X12_212 : s_MS RX12 212 m_X12_isShape 3 := ⟨Or.inl (wd_1816), wd_1817, wd_158, wd_1818, md_X12_isShape.1, md_X12_isShape.2⟩
theorem k_X12_210 : Cond.constantLong RX12 210 (3 : Int64) ∈ s_tb := wd_1819
theorem md_X12_isPlace : (m_X12_isPlace.1.cls ≠ "java/lang/invoke/MethodHandle" ∧ m_X12_isPlace.1.cls ≠ "java/lang/invoke/VarHandle" ∧ (parseMethodDescriptor m_X12_isPlace.1.desc).map (fun d => d.parameters.length) = some 1) ∧ m_X12_isPlace.2.2.1 ≤ 22 := ⟨⟨by decide +kernel, by decide +kernel, by decide +kernel⟩, by decide⟩
theorem ml_X12_216 : s_MS RX12 216 m_X12_isPlace 1 := ⟨Or.inl (wd_1820), wd_1821, wd_158, wd_1822, md_X12_isPlace.1, md_X12_isPlace.2⟩
theorem k_X12_187 : Cond.constantLong RX12 187 (-8 : Int64) ∈ s_tb := wd_1823
theorem k_X12_189 : Cond.constantLong RX12 189 (15 : Int64) ∈ s_tb := wd_1824
theorem md_X12_of : (m_X12_of.1.cls ≠ "java/lang/invoke/MethodHandle" ∧ m_X12_of.1.cls ≠ "java/lang/invoke/VarHandle" ∧ (parseMethodDescriptor m_X12_of.1.desc).map (fun d => d.parameters.length) = some 2) ∧ m_X12_of.2.2.1 ≤ 22 := ⟨⟨by decide +kernel, by decide +kernel, by decide +kernel⟩, by decide⟩
theorem ml_L_35 : s_MV RL 35 m_X12_of 2 := ⟨wd_1825, wd_1826, wd_1827, wd_158, wd_1828, md_X12_of.1, md_X12_of.2⟩
theorem md_X12_isCloud : (m_X12_isCloud.1.cls ≠ "java/lang/invoke/MethodHandle" ∧ m_X12_isCloud.1.cls ≠ "java/lang/invoke/VarHandle" ∧ (parseMethodDescriptor m_X12_isCloud.1.desc).map (fun d => d.parameters.length) = some 1) ∧ m_X12_isCloud.2.2.1 ≤ 22 := ⟨⟨by decide +kernel, by decide +kernel, by decide +kernel⟩, by decide⟩
theorem ml_X12_219 : s_MV RX12 219 m_X12_isCloud 1 := ⟨wd_1829, wd_1831, wd_70, wd_158, wd_1832, md_X12_isCloud.1, md_X12_isCloud.2⟩
theorem k_X12_222 : Cond.constantLong RX12 222 (4 : Int64) ∈ s_tb := wd_1833
theorem md_X12_ofCloud : (m_X12_ofCloud.1.cls ≠ "java/lang/invoke/MethodHandle" ∧ m_X12_ofCloud.1.cls ≠ "java/lang/invoke/VarHandle" ∧ (parseMethodDescriptor m_X12_ofCloud.1.desc).map (fun d => d.parameters.length) = some 2) ∧ m_X12_ofCloud.2.2.1 ≤ 22 := ⟨⟨by decide +kernel, by decide +kernel, by decide +kernel⟩, by decide⟩
theorem ml_X12_224 : s_MV RX12 224 m_X12_ofCloud 2 := ⟨wd_1834, wd_1836, wd_71, wd_158, wd_1837, md_X12_ofCloud.1, md_X12_ofCloud.2⟩
theorem md_X12_flag : (m_X12_flag.1.cls ≠ "java/lang/invoke/MethodHandle" ∧ m_X12_flag.1.cls ≠ "java/lang/invoke/VarHandle" ∧ (parseMethodDescriptor m_X12_flag.1.desc).map (fun d => d.parameters.length) = some 3) ∧ m_X12_flag.2.2.1 ≤ 22 := ⟨⟨by decide +kernel, by decide +kernel, by decide +kernel⟩, by decide⟩
theorem ml_L_39 : s_MV RL 39 m_X12_flag 3 := ⟨wd_1838, wd_1839, wd_1840, wd_158, wd_1841, md_X12_flag.1, md_X12_flag.2⟩
theorem md_X12_flag1 : (m_X12_flag1.1.cls ≠ "java/lang/invoke/MethodHandle" ∧ m_X12_flag1.1.cls ≠ "java/lang/invoke/VarHandle" ∧ (parseMethodDescriptor m_X12_flag1.1.desc).map (fun d => d.parameters.length) = some 3) ∧ m_X12_flag1.2.2.1 ≤ 22 := ⟨⟨by decide +kernel, by decide +kernel, by decide +kernel⟩, by decide⟩
theorem ml_X12_232 : s_MV RX12 232 m_X12_flag1 3 := ⟨wd_1842, wd_1844, wd_72, wd_158, wd_1845, md_X12_flag1.1, md_X12_flag1.2⟩
theorem k_X12_227 : Cond.constantLong RX12 227 (10 : Int64) ∈ s_tb := wd_1846
theorem md_X12_flagOf : (m_X12_flagOf.1.cls ≠ "java/lang/invoke/MethodHandle" ∧ m_X12_flagOf.1.cls ≠ "java/lang/invoke/VarHandle" ∧ (parseMethodDescriptor m_X12_flagOf.1.desc).map (fun d => d.parameters.length) = some 2) ∧ m_X12_flagOf.2.2.1 ≤ 22 := ⟨⟨by decide +kernel, by decide +kernel, by decide +kernel⟩, by decide⟩
theorem ml_X12_229 : s_MV RX12 229 m_X12_flagOf 2 := ⟨wd_1847, wd_1849, wd_73, wd_158, wd_1850, md_X12_flagOf.1, md_X12_flagOf.2⟩
theorem md_X12_undo : (m_X12_undo.1.cls ≠ "java/lang/invoke/MethodHandle" ∧ m_X12_undo.1.cls ≠ "java/lang/invoke/VarHandle" ∧ (parseMethodDescriptor m_X12_undo.1.desc).map (fun d => d.parameters.length) = some 0) ∧ m_X12_undo.2.2.1 ≤ 22 := ⟨⟨by decide +kernel, by decide +kernel, by decide +kernel⟩, by decide⟩
theorem ml_L_44 : s_MV RL 44 m_X12_undo 0 := ⟨wd_1851, wd_1852, wd_1853, wd_158, wd_1854, md_X12_undo.1, md_X12_undo.2⟩
theorem md_X12_contract : (m_X12_contract.1.cls ≠ "java/lang/invoke/MethodHandle" ∧ m_X12_contract.1.cls ≠ "java/lang/invoke/VarHandle" ∧ (parseMethodDescriptor m_X12_contract.1.desc).map (fun d => d.parameters.length) = some 5) ∧ m_X12_contract.2.2.1 ≤ 22 := ⟨⟨by decide +kernel, by decide +kernel, by decide +kernel⟩, by decide⟩
theorem ml_L_48 : s_MV RL 48 m_X12_contract 5 := ⟨wd_1855, wd_1856, wd_1857, wd_158, wd_1858, md_X12_contract.1, md_X12_contract.2⟩
theorem md_X12_isHour : (m_X12_isHour.1.cls ≠ "java/lang/invoke/MethodHandle" ∧ m_X12_isHour.1.cls ≠ "java/lang/invoke/VarHandle" ∧ (parseMethodDescriptor m_X12_isHour.1.desc).map (fun d => d.parameters.length) = some 1) ∧ m_X12_isHour.2.2.1 ≤ 22 := ⟨⟨by decide +kernel, by decide +kernel, by decide +kernel⟩, by decide⟩
theorem ml_X12_236 : s_MS RX12 236 m_X12_isHour 1 := ⟨Or.inl (wd_1859), wd_1860, wd_158, wd_1861, md_X12_isHour.1, md_X12_isHour.2⟩
theorem k_X12_185 : Cond.constantLong RX12 185 (11 : Int64) ∈ s_tb := wd_1862
theorem md_X12_cancel : (m_X12_cancel.1.cls ≠ "java/lang/invoke/MethodHandle" ∧ m_X12_cancel.1.cls ≠ "java/lang/invoke/VarHandle" ∧ (parseMethodDescriptor m_X12_cancel.1.desc).map (fun d => d.parameters.length) = some 0) ∧ m_X12_cancel.2.2.1 ≤ 22 := ⟨⟨by decide +kernel, by decide +kernel, by decide +kernel⟩, by decide⟩
theorem ml_L_52 : s_MV RL 52 m_X12_cancel 0 := ⟨wd_1863, wd_1864, wd_1865, wd_158, wd_1866, md_X12_cancel.1, md_X12_cancel.2⟩
theorem md_X12_terms : (m_X12_terms.1.cls ≠ "java/lang/invoke/MethodHandle" ∧ m_X12_terms.1.cls ≠ "java/lang/invoke/VarHandle" ∧ (parseMethodDescriptor m_X12_terms.1.desc).map (fun d => d.parameters.length) = some 2) ∧ m_X12_terms.2.2.1 ≤ 22 := ⟨⟨by decide +kernel, by decide +kernel, by decide +kernel⟩, by decide⟩
theorem ml_L_56 : s_MV RL 56 m_X12_terms 2 := ⟨wd_1867, wd_1868, wd_1869, wd_158, wd_1870, md_X12_terms.1, md_X12_terms.2⟩
theorem k_X12_239 : Cond.constantLong RX12 239 (9 : Int64) ∈ s_tb := wd_1871
theorem md_X12_row : (m_X12_row.1.cls ≠ "java/lang/invoke/MethodHandle" ∧ m_X12_row.1.cls ≠ "java/lang/invoke/VarHandle" ∧ (parseMethodDescriptor m_X12_row.1.desc).map (fun d => d.parameters.length) = some 0) ∧ m_X12_row.2.2.1 ≤ 22 := ⟨⟨by decide +kernel, by decide +kernel, by decide +kernel⟩, by decide⟩
theorem ml_L_69 : s_MV RL 69 m_X12_row 0 := ⟨wd_1872, wd_1873, wd_1874, wd_158, wd_1875, md_X12_row.1, md_X12_row.2⟩
theorem md_X12_haze : (m_X12_haze.1.cls ≠ "java/lang/invoke/MethodHandle" ∧ m_X12_haze.1.cls ≠ "java/lang/invoke/VarHandle" ∧ (parseMethodDescriptor m_X12_haze.1.desc).map (fun d => d.parameters.length) = some 0) ∧ m_X12_haze.2.2.1 ≤ 22 := ⟨⟨by decide +kernel, by decide +kernel, by decide +kernel⟩, by decide⟩
theorem ml_L_73 : s_MV RL 73 m_X12_haze 0 := ⟨wd_1876, wd_1877, wd_1878, wd_158, wd_1879, md_X12_haze.1, md_X12_haze.2⟩
theorem md_X12_feed : (m_X12_feed.1.cls ≠ "java/lang/invoke/MethodHandle" ∧ m_X12_feed.1.cls ≠ "java/lang/invoke/VarHandle" ∧ (parseMethodDescriptor m_X12_feed.1.desc).map (fun d => d.parameters.length) = some 5) ∧ m_X12_feed.2.2.1 ≤ 22 := ⟨⟨by decide +kernel, by decide +kernel, by decide +kernel⟩, by decide⟩
theorem ml_L_60 : s_MV RL 60 m_X12_feed 5 := ⟨wd_1880, wd_1881, wd_1882, wd_158, wd_1883, md_X12_feed.1, md_X12_feed.2⟩
theorem md_X12_four : (m_X12_four.1.cls ≠ "java/lang/invoke/MethodHandle" ∧ m_X12_four.1.cls ≠ "java/lang/invoke/VarHandle" ∧ (parseMethodDescriptor m_X12_four.1.desc).map (fun d => d.parameters.length) = some 1) ∧ m_X12_four.2.2.1 ≤ 22 := ⟨⟨by decide +kernel, by decide +kernel, by decide +kernel⟩, by decide⟩
theorem ml_X12_247 : s_MV RX12 247 m_X12_four 1 := ⟨wd_1884, wd_1886, wd_74, wd_158, wd_1887, md_X12_four.1, md_X12_four.2⟩
theorem md_X12_end : (m_X12_end.1.cls ≠ "java/lang/invoke/MethodHandle" ∧ m_X12_end.1.cls ≠ "java/lang/invoke/VarHandle" ∧ (parseMethodDescriptor m_X12_end.1.desc).map (fun d => d.parameters.length) = some 1) ∧ m_X12_end.2.2.1 ≤ 22 := ⟨⟨by decide +kernel, by decide +kernel, by decide +kernel⟩, by decide⟩
theorem ml_L_65 : s_MV RL 65 m_X12_end 1 := ⟨wd_1888, wd_1889, wd_1890, wd_158, wd_1891, md_X12_end.1, md_X12_end.2⟩
theorem md_X12_fault : (m_X12_fault.1.cls ≠ "java/lang/invoke/MethodHandle" ∧ m_X12_fault.1.cls ≠ "java/lang/invoke/VarHandle" ∧ (parseMethodDescriptor m_X12_fault.1.desc).map (fun d => d.parameters.length) = some 0) ∧ m_X12_fault.2.2.1 ≤ 22 := ⟨⟨by decide +kernel, by decide +kernel, by decide +kernel⟩, by decide⟩
theorem ml_L_85 : s_MV RL 85 m_X12_fault 0 := ⟨wd_1892, wd_1893, wd_1894, wd_158, wd_1895, md_X12_fault.1, md_X12_fault.2⟩
theorem md_X12_law : (m_X12_law.1.cls ≠ "java/lang/invoke/MethodHandle" ∧ m_X12_law.1.cls ≠ "java/lang/invoke/VarHandle" ∧ (parseMethodDescriptor m_X12_law.1.desc).map (fun d => d.parameters.length) = some 0) ∧ m_X12_law.2.2.1 ≤ 22 := ⟨⟨by decide +kernel, by decide +kernel, by decide +kernel⟩, by decide⟩
theorem ml_L_77 : s_MV RL 77 m_X12_law 0 := ⟨wd_1896, wd_1897, wd_1898, wd_158, wd_1899, md_X12_law.1, md_X12_law.2⟩
theorem md_X12_beginText : (m_X12_beginText.1.cls ≠ "java/lang/invoke/MethodHandle" ∧ m_X12_beginText.1.cls ≠ "java/lang/invoke/VarHandle" ∧ (parseMethodDescriptor m_X12_beginText.1.desc).map (fun d => d.parameters.length) = some 1) ∧ m_X12_beginText.2.2.1 ≤ 22 := ⟨⟨by decide +kernel, by decide +kernel, by decide +kernel⟩, by decide⟩
theorem ml_X12_385 : s_MV RX12 385 m_X12_beginText 1 := ⟨wd_1900, wd_1902, wd_75, wd_158, wd_1903, md_X12_beginText.1, md_X12_beginText.2⟩
theorem md_X12_begin : (m_X12_begin.1.cls ≠ "java/lang/invoke/MethodHandle" ∧ m_X12_begin.1.cls ≠ "java/lang/invoke/VarHandle" ∧ (parseMethodDescriptor m_X12_begin.1.desc).map (fun d => d.parameters.length) = some 0) ∧ m_X12_begin.2.2.1 ≤ 22 := ⟨⟨by decide +kernel, by decide +kernel, by decide +kernel⟩, by decide⟩
theorem ml_X12_374 : s_MV RX12 374 m_X12_begin 0 := ⟨wd_1904, wd_1906, wd_76, wd_158, wd_1907, md_X12_begin.1, md_X12_begin.2⟩
theorem md_X12_next : (m_X12_next.1.cls ≠ "java/lang/invoke/MethodHandle" ∧ m_X12_next.1.cls ≠ "java/lang/invoke/VarHandle" ∧ (parseMethodDescriptor m_X12_next.1.desc).map (fun d => d.parameters.length) = some 0) ∧ m_X12_next.2.2.1 ≤ 22 := ⟨⟨by decide +kernel, by decide +kernel, by decide +kernel⟩, by decide⟩
theorem ml_X12_258 : s_MV RX12 258 m_X12_next 0 := ⟨wd_1908, wd_1910, wd_77, wd_158, wd_1911, md_X12_next.1, md_X12_next.2⟩
theorem md_X12_isSmall : (m_X12_isSmall.1.cls ≠ "java/lang/invoke/MethodHandle" ∧ m_X12_isSmall.1.cls ≠ "java/lang/invoke/VarHandle" ∧ (parseMethodDescriptor m_X12_isSmall.1.desc).map (fun d => d.parameters.length) = some 1) ∧ m_X12_isSmall.2.2.1 ≤ 22 := ⟨⟨by decide +kernel, by decide +kernel, by decide +kernel⟩, by decide⟩
theorem ml_X12_268 : s_MS RX12 268 m_X12_isSmall 1 := ⟨Or.inl (wd_1912), wd_1913, wd_158, wd_1914, md_X12_isSmall.1, md_X12_isSmall.2⟩
theorem md_X12_isDigit : (m_X12_isDigit.1.cls ≠ "java/lang/invoke/MethodHandle" ∧ m_X12_isDigit.1.cls ≠ "java/lang/invoke/VarHandle" ∧ (parseMethodDescriptor m_X12_isDigit.1.desc).map (fun d => d.parameters.length) = some 1) ∧ m_X12_isDigit.2.2.1 ≤ 22 := ⟨⟨by decide +kernel, by decide +kernel, by decide +kernel⟩, by decide⟩
theorem ml_X12_271 : s_MS RX12 271 m_X12_isDigit 1 := ⟨Or.inl (wd_1915), wd_1916, wd_158, wd_1917, md_X12_isDigit.1, md_X12_isDigit.2⟩
theorem k_X12_277 : Cond.constantLong RX12 277 (32 : Int64) ∈ s_tb := wd_1918
theorem k_X12_279 : Cond.constantLong RX12 279 (96 : Int64) ∈ s_tb := wd_1919
theorem k_X12_281 : Cond.constantLong RX12 281 (1000000 : Int64) ∈ s_tb := wd_1920
theorem k_X12_283 : Cond.constantLong RX12 283 (48 : Int64) ∈ s_tb := wd_1921
theorem md_X12_readLaw : (m_X12_readLaw.1.cls ≠ "java/lang/invoke/MethodHandle" ∧ m_X12_readLaw.1.cls ≠ "java/lang/invoke/VarHandle" ∧ (parseMethodDescriptor m_X12_readLaw.1.desc).map (fun d => d.parameters.length) = some 0) ∧ m_X12_readLaw.2.2.1 ≤ 22 := ⟨⟨by decide +kernel, by decide +kernel, by decide +kernel⟩, by decide⟩
theorem ml_X12_388 : s_MV RX12 388 m_X12_readLaw 0 := ⟨wd_1922, wd_1924, wd_78, wd_158, wd_1925, md_X12_readLaw.1, md_X12_readLaw.2⟩
theorem md_X12_isWord : (m_X12_isWord.1.cls ≠ "java/lang/invoke/MethodHandle" ∧ m_X12_isWord.1.cls ≠ "java/lang/invoke/VarHandle" ∧ (parseMethodDescriptor m_X12_isWord.1.desc).map (fun d => d.parameters.length) = some 1) ∧ m_X12_isWord.2.2.1 ≤ 22 := ⟨⟨by decide +kernel, by decide +kernel, by decide +kernel⟩, by decide⟩
theorem ml_X12_306 : s_MV RX12 306 m_X12_isWord 1 := ⟨wd_1926, wd_1928, wd_79, wd_158, wd_1929, md_X12_isWord.1, md_X12_isWord.2⟩
theorem md_X12_must : (m_X12_must.1.cls ≠ "java/lang/invoke/MethodHandle" ∧ m_X12_must.1.cls ≠ "java/lang/invoke/VarHandle" ∧ (parseMethodDescriptor m_X12_must.1.desc).map (fun d => d.parameters.length) = some 1) ∧ m_X12_must.2.2.1 ≤ 22 := ⟨⟨by decide +kernel, by decide +kernel, by decide +kernel⟩, by decide⟩
theorem ml_X12_285 : s_MV RX12 285 m_X12_must 1 := ⟨wd_1930, wd_1932, wd_80, wd_158, wd_1933, md_X12_must.1, md_X12_must.2⟩
theorem md_X12_readExpression : (m_X12_readExpression.1.cls ≠ "java/lang/invoke/MethodHandle" ∧ m_X12_readExpression.1.cls ≠ "java/lang/invoke/VarHandle" ∧ (parseMethodDescriptor m_X12_readExpression.1.desc).map (fun d => d.parameters.length) = some 1) ∧ m_X12_readExpression.2.2.1 ≤ 22 := ⟨⟨by decide +kernel, by decide +kernel, by decide +kernel⟩, by decide⟩
theorem ml_X12_380 : s_MV RX12 380 m_X12_readExpression 1 := ⟨wd_1934, wd_1936, wd_81, wd_158, wd_1937, md_X12_readExpression.1, md_X12_readExpression.2⟩
theorem md_X12_readPlain : (m_X12_readPlain.1.cls ≠ "java/lang/invoke/MethodHandle" ∧ m_X12_readPlain.1.cls ≠ "java/lang/invoke/VarHandle" ∧ (parseMethodDescriptor m_X12_readPlain.1.desc).map (fun d => d.parameters.length) = some 0) ∧ m_X12_readPlain.2.2.1 ≤ 22 := ⟨⟨by decide +kernel, by decide +kernel, by decide +kernel⟩, by decide⟩
theorem ml_X12_364 : s_MV RX12 364 m_X12_readPlain 0 := ⟨wd_1938, wd_1940, wd_82, wd_158, wd_1941, md_X12_readPlain.1, md_X12_readPlain.2⟩
theorem k_X12_345 : Cond.constantLong RX12 345 (14836 : Int64) ∈ s_tb := wd_1942
theorem md_X12_push : (m_X12_push.1.cls ≠ "java/lang/invoke/MethodHandle" ∧ m_X12_push.1.cls ≠ "java/lang/invoke/VarHandle" ∧ (parseMethodDescriptor m_X12_push.1.desc).map (fun d => d.parameters.length) = some 2) ∧ m_X12_push.2.2.1 ≤ 22 := ⟨⟨by decide +kernel, by decide +kernel, by decide +kernel⟩, by decide⟩
theorem ml_X12_313 : s_MV RX12 313 m_X12_push 2 := ⟨wd_1943, wd_1945, wd_83, wd_158, wd_1946, md_X12_push.1, md_X12_push.2⟩
theorem md_X12_isSign : (m_X12_isSign.1.cls ≠ "java/lang/invoke/MethodHandle" ∧ m_X12_isSign.1.cls ≠ "java/lang/invoke/VarHandle" ∧ (parseMethodDescriptor m_X12_isSign.1.desc).map (fun d => d.parameters.length) = some 1) ∧ m_X12_isSign.2.2.1 ≤ 22 := ⟨⟨by decide +kernel, by decide +kernel, by decide +kernel⟩, by decide⟩
theorem ml_X12_319 : s_MV RX12 319 m_X12_isSign 1 := ⟨wd_1947, wd_1949, wd_84, wd_158, wd_1950, md_X12_isSign.1, md_X12_isSign.2⟩
theorem md_X12_openBracket : (m_X12_openBracket.1.cls ≠ "java/lang/invoke/MethodHandle" ∧ m_X12_openBracket.1.cls ≠ "java/lang/invoke/VarHandle" ∧ (parseMethodDescriptor m_X12_openBracket.1.desc).map (fun d => d.parameters.length) = some 1) ∧ m_X12_openBracket.2.2.1 ≤ 22 := ⟨⟨by decide +kernel, by decide +kernel, by decide +kernel⟩, by decide⟩
theorem ml_X12_322 : s_MV RX12 322 m_X12_openBracket 1 := ⟨wd_1951, wd_1953, wd_85, wd_158, wd_1954, md_X12_openBracket.1, md_X12_openBracket.2⟩
theorem md_X12_readPart : (m_X12_readPart.1.cls ≠ "java/lang/invoke/MethodHandle" ∧ m_X12_readPart.1.cls ≠ "java/lang/invoke/VarHandle" ∧ (parseMethodDescriptor m_X12_readPart.1.desc).map (fun d => d.parameters.length) = some 0) ∧ m_X12_readPart.2.2.1 ≤ 22 := ⟨⟨by decide +kernel, by decide +kernel, by decide +kernel⟩, by decide⟩
theorem ml_X12_347 : s_MV RX12 347 m_X12_readPart 0 := ⟨wd_1955, wd_1957, wd_86, wd_158, wd_1958, md_X12_readPart.1, md_X12_readPart.2⟩
theorem md_X12_orderPartAt : (m_X12_orderPartAt.1.cls ≠ "java/lang/invoke/MethodHandle" ∧ m_X12_orderPartAt.1.cls ≠ "java/lang/invoke/VarHandle" ∧ (parseMethodDescriptor m_X12_orderPartAt.1.desc).map (fun d => d.parameters.length) = some 0) ∧ m_X12_orderPartAt.2.2.1 ≤ 22 := ⟨⟨by decide +kernel, by decide +kernel, by decide +kernel⟩, by decide⟩
theorem ml_X12_328 : s_MV RX12 328 m_X12_orderPartAt 0 := ⟨wd_1959, wd_1961, wd_87, wd_158, wd_1962, md_X12_orderPartAt.1, md_X12_orderPartAt.2⟩
theorem md_X12_partAt : (m_X12_partAt.1.cls ≠ "java/lang/invoke/MethodHandle" ∧ m_X12_partAt.1.cls ≠ "java/lang/invoke/VarHandle" ∧ (parseMethodDescriptor m_X12_partAt.1.desc).map (fun d => d.parameters.length) = some 0) ∧ m_X12_partAt.2.2.1 ≤ 22 := ⟨⟨by decide +kernel, by decide +kernel, by decide +kernel⟩, by decide⟩
theorem ml_X12_332 : s_MV RX12 332 m_X12_partAt 0 := ⟨wd_1963, wd_1965, wd_88, wd_158, wd_1966, md_X12_partAt.1, md_X12_partAt.2⟩
theorem k_X12_335 : Cond.constantLong RX12 335 (1000 : Int64) ∈ s_tb := wd_1967
theorem md_X12_leaf : (m_X12_leaf.1.cls ≠ "java/lang/invoke/MethodHandle" ∧ m_X12_leaf.1.cls ≠ "java/lang/invoke/VarHandle" ∧ (parseMethodDescriptor m_X12_leaf.1.desc).map (fun d => d.parameters.length) = some 3) ∧ m_X12_leaf.2.2.1 ≤ 22 := ⟨⟨by decide +kernel, by decide +kernel, by decide +kernel⟩, by decide⟩
theorem ml_X12_337 : s_MV RX12 337 m_X12_leaf 3 := ⟨wd_1968, wd_1970, wd_89, wd_158, wd_1971, md_X12_leaf.1, md_X12_leaf.2⟩
theorem md_X12_emit : (m_X12_emit.1.cls ≠ "java/lang/invoke/MethodHandle" ∧ m_X12_emit.1.cls ≠ "java/lang/invoke/VarHandle" ∧ (parseMethodDescriptor m_X12_emit.1.desc).map (fun d => d.parameters.length) = some 2) ∧ m_X12_emit.2.2.1 ≤ 22 := ⟨⟨by decide +kernel, by decide +kernel, by decide +kernel⟩, by decide⟩
theorem ml_X12_298 : s_MV RX12 298 m_X12_emit 2 := ⟨wd_1972, wd_1974, wd_90, wd_158, wd_1975, md_X12_emit.1, md_X12_emit.2⟩
theorem md_X12_number : (m_X12_number.1.cls ≠ "java/lang/invoke/MethodHandle" ∧ m_X12_number.1.cls ≠ "java/lang/invoke/VarHandle" ∧ (parseMethodDescriptor m_X12_number.1.desc).map (fun d => d.parameters.length) = some 2) ∧ m_X12_number.2.2.1 ≤ 22 := ⟨⟨by decide +kernel, by decide +kernel, by decide +kernel⟩, by decide⟩
theorem ml_X12_341 : s_MV RX12 341 m_X12_number 2 := ⟨wd_1976, wd_1978, wd_91, wd_158, wd_1979, md_X12_number.1, md_X12_number.2⟩
theorem md_X12_behindSum : (m_X12_behindSum.1.cls ≠ "java/lang/invoke/MethodHandle" ∧ m_X12_behindSum.1.cls ≠ "java/lang/invoke/VarHandle" ∧ (parseMethodDescriptor m_X12_behindSum.1.desc).map (fun d => d.parameters.length) = some 1) ∧ m_X12_behindSum.2.2.1 ≤ 22 := ⟨⟨by decide +kernel, by decide +kernel, by decide +kernel⟩, by decide⟩
theorem ml_X12_367 : s_MV RX12 367 m_X12_behindSum 1 := ⟨wd_1980, wd_1982, wd_92, wd_158, wd_1983, md_X12_behindSum.1, md_X12_behindSum.2⟩
theorem md_X12_binds : (m_X12_binds.1.cls ≠ "java/lang/invoke/MethodHandle" ∧ m_X12_binds.1.cls ≠ "java/lang/invoke/VarHandle" ∧ (parseMethodDescriptor m_X12_binds.1.desc).map (fun d => d.parameters.length) = some 1) ∧ m_X12_binds.2.2.1 ≤ 22 := ⟨⟨by decide +kernel, by decide +kernel, by decide +kernel⟩, by decide⟩
theorem ml_X12_295 : s_MS RX12 295 m_X12_binds 1 := ⟨Or.inl (wd_1984), wd_1985, wd_158, wd_1986, md_X12_binds.1, md_X12_binds.2⟩
theorem md_X12_settle : (m_X12_settle.1.cls ≠ "java/lang/invoke/MethodHandle" ∧ m_X12_settle.1.cls ≠ "java/lang/invoke/VarHandle" ∧ (parseMethodDescriptor m_X12_settle.1.desc).map (fun d => d.parameters.length) = some 1) ∧ m_X12_settle.2.2.1 ≤ 22 := ⟨⟨by decide +kernel, by decide +kernel, by decide +kernel⟩, by decide⟩
theorem ml_X12_350 : s_MV RX12 350 m_X12_settle 1 := ⟨wd_1987, wd_1989, wd_93, wd_158, wd_1990, md_X12_settle.1, md_X12_settle.2⟩
theorem md_X12_inner : (m_X12_inner.1.cls ≠ "java/lang/invoke/MethodHandle" ∧ m_X12_inner.1.cls ≠ "java/lang/invoke/VarHandle" ∧ (parseMethodDescriptor m_X12_inner.1.desc).map (fun d => d.parameters.length) = some 0) ∧ m_X12_inner.2.2.1 ≤ 22 := ⟨⟨by decide +kernel, by decide +kernel, by decide +kernel⟩, by decide⟩
theorem ml_X12_353 : s_MV RX12 353 m_X12_inner 0 := ⟨wd_1991, wd_1993, wd_94, wd_158, wd_1994, md_X12_inner.1, md_X12_inner.2⟩
theorem md_X12_isCompared : (m_X12_isCompared.1.cls ≠ "java/lang/invoke/MethodHandle" ∧ m_X12_isCompared.1.cls ≠ "java/lang/invoke/VarHandle" ∧ (parseMethodDescriptor m_X12_isCompared.1.desc).map (fun d => d.parameters.length) = some 0) ∧ m_X12_isCompared.2.2.1 ≤ 22 := ⟨⟨by decide +kernel, by decide +kernel, by decide +kernel⟩, by decide⟩
theorem ml_X12_356 : s_MV RX12 356 m_X12_isCompared 0 := ⟨wd_1995, wd_1997, wd_95, wd_158, wd_1998, md_X12_isCompared.1, md_X12_isCompared.2⟩
theorem k_X12_302 : Cond.constantLong RX12 302 (20 : Int64) ∈ s_tb := wd_1999
theorem k_X12_304 : Cond.constantLong RX12 304 (27 : Int64) ∈ s_tb := wd_2000
theorem md_X12_behindTest : (m_X12_behindTest.1.cls ≠ "java/lang/invoke/MethodHandle" ∧ m_X12_behindTest.1.cls ≠ "java/lang/invoke/VarHandle" ∧ (parseMethodDescriptor m_X12_behindTest.1.desc).map (fun d => d.parameters.length) = some 0) ∧ m_X12_behindTest.2.2.1 ≤ 22 := ⟨⟨by decide +kernel, by decide +kernel, by decide +kernel⟩, by decide⟩
theorem ml_X12_371 : s_MV RX12 371 m_X12_behindTest 0 := ⟨wd_2001, wd_2003, wd_96, wd_158, wd_2004, md_X12_behindTest.1, md_X12_behindTest.2⟩
theorem k_X12_360 : Cond.constantLong RX12 360 (1476 : Int64) ∈ s_tb := wd_2005
theorem k_X12_362 : Cond.constantLong RX12 362 (498 : Int64) ∈ s_tb := wd_2006
theorem k_X12_383 : Cond.constantLong RX12 383 (294 : Int64) ∈ s_tb := wd_2007
theorem md_X12_endText : (m_X12_endText.1.cls ≠ "java/lang/invoke/MethodHandle" ∧ m_X12_endText.1.cls ≠ "java/lang/invoke/VarHandle" ∧ (parseMethodDescriptor m_X12_endText.1.desc).map (fun d => d.parameters.length) = some 0) ∧ m_X12_endText.2.2.1 ≤ 22 := ⟨⟨by decide +kernel, by decide +kernel, by decide +kernel⟩, by decide⟩
theorem ml_X12_391 : s_MV RX12 391 m_X12_endText 0 := ⟨wd_2008, wd_2010, wd_97, wd_158, wd_2011, md_X12_endText.1, md_X12_endText.2⟩
theorem md_X12_force : (m_X12_force.1.cls ≠ "java/lang/invoke/MethodHandle" ∧ m_X12_force.1.cls ≠ "java/lang/invoke/VarHandle" ∧ (parseMethodDescriptor m_X12_force.1.desc).map (fun d => d.parameters.length) = some 1) ∧ m_X12_force.2.2.1 ≤ 22 := ⟨⟨by decide +kernel, by decide +kernel, by decide +kernel⟩, by decide⟩
theorem ml_L_93 : s_MV RL 93 m_X12_force 1 := ⟨wd_2012, wd_2013, wd_2014, wd_158, wd_2015, md_X12_force.1, md_X12_force.2⟩
theorem md_X12_asks : (m_X12_asks.1.cls ≠ "java/lang/invoke/MethodHandle" ∧ m_X12_asks.1.cls ≠ "java/lang/invoke/VarHandle" ∧ (parseMethodDescriptor m_X12_asks.1.desc).map (fun d => d.parameters.length) = some 3) ∧ m_X12_asks.2.2.1 ≤ 22 := ⟨⟨by decide +kernel, by decide +kernel, by decide +kernel⟩, by decide⟩
theorem ml_L_97 : s_MV RL 97 m_X12_asks 3 := ⟨wd_2016, wd_2017, wd_2018, wd_158, wd_2019, md_X12_asks.1, md_X12_asks.2⟩
theorem md_X12_layCorners : (m_X12_layCorners.1.cls ≠ "java/lang/invoke/MethodHandle" ∧ m_X12_layCorners.1.cls ≠ "java/lang/invoke/VarHandle" ∧ (parseMethodDescriptor m_X12_layCorners.1.desc).map (fun d => d.parameters.length) = some 0) ∧ m_X12_layCorners.2.2.1 ≤ 22 := ⟨⟨by decide +kernel, by decide +kernel, by decide +kernel⟩, by decide⟩
theorem ml_X12_478 : s_MV RX12 478 m_X12_layCorners 0 := ⟨wd_2020, wd_2022, wd_98, wd_158, wd_2023, md_X12_layCorners.1, md_X12_layCorners.2⟩
theorem md_X12_beginsAt : (m_X12_beginsAt.1.cls ≠ "java/lang/invoke/MethodHandle" ∧ m_X12_beginsAt.1.cls ≠ "java/lang/invoke/VarHandle" ∧ (parseMethodDescriptor m_X12_beginsAt.1.desc).map (fun d => d.parameters.length) = some 1) ∧ m_X12_beginsAt.2.2.1 ≤ 22 := ⟨⟨by decide +kernel, by decide +kernel, by decide +kernel⟩, by decide⟩
theorem ml_X12_464 : s_MV RX12 464 m_X12_beginsAt 1 := ⟨wd_2024, wd_2026, wd_99, wd_158, wd_2027, md_X12_beginsAt.1, md_X12_beginsAt.2⟩
theorem md_X12_cornerAt : (m_X12_cornerAt.1.cls ≠ "java/lang/invoke/MethodHandle" ∧ m_X12_cornerAt.1.cls ≠ "java/lang/invoke/VarHandle" ∧ (parseMethodDescriptor m_X12_cornerAt.1.desc).map (fun d => d.parameters.length) = some 2) ∧ m_X12_cornerAt.2.2.1 ≤ 22 := ⟨⟨by decide +kernel, by decide +kernel, by decide +kernel⟩, by decide⟩
theorem ml_X12_454 : s_MS RX12 454 m_X12_cornerAt 2 := ⟨Or.inl (wd_2028), wd_2029, wd_158, wd_2030, md_X12_cornerAt.1, md_X12_cornerAt.2⟩
theorem md_X12_goOn : (m_X12_goOn.1.cls ≠ "java/lang/invoke/MethodHandle" ∧ m_X12_goOn.1.cls ≠ "java/lang/invoke/VarHandle" ∧ (parseMethodDescriptor m_X12_goOn.1.desc).map (fun d => d.parameters.length) = some 5) ∧ m_X12_goOn.2.2.1 ≤ 22 := ⟨⟨by decide +kernel, by decide +kernel, by decide +kernel⟩, by decide⟩
theorem ml_X12_467 : s_MV RX12 467 m_X12_goOn 5 := ⟨wd_2031, wd_2033, wd_100, wd_158, wd_2034, md_X12_goOn.1, md_X12_goOn.2⟩
theorem md_X12_helps : (m_X12_helps.1.cls ≠ "java/lang/invoke/MethodHandle" ∧ m_X12_helps.1.cls ≠ "java/lang/invoke/VarHandle" ∧ (parseMethodDescriptor m_X12_helps.1.desc).map (fun d => d.parameters.length) = some 3) ∧ m_X12_helps.2.2.1 ≤ 22 := ⟨⟨by decide +kernel, by decide +kernel, by decide +kernel⟩, by decide⟩
theorem ml_X12_457 : s_MV RX12 457 m_X12_helps 3 := ⟨wd_2035, wd_2037, wd_101, wd_158, wd_2038, md_X12_helps.1, md_X12_helps.2⟩
theorem md_X12_isWet : (m_X12_isWet.1.cls ≠ "java/lang/invoke/MethodHandle" ∧ m_X12_isWet.1.cls ≠ "java/lang/invoke/VarHandle" ∧ (parseMethodDescriptor m_X12_isWet.1.desc).map (fun d => d.parameters.length) = some 1) ∧ m_X12_isWet.2.2.1 ≤ 22 := ⟨⟨by decide +kernel, by decide +kernel, by decide +kernel⟩, by decide⟩
theorem ml_X12_442 : s_MV RX12 442 m_X12_isWet 1 := ⟨wd_2039, wd_2041, wd_102, wd_158, wd_2042, md_X12_isWet.1, md_X12_isWet.2⟩
theorem md_X12_xOf : (m_X12_xOf.1.cls ≠ "java/lang/invoke/MethodHandle" ∧ m_X12_xOf.1.cls ≠ "java/lang/invoke/VarHandle" ∧ (parseMethodDescriptor m_X12_xOf.1.desc).map (fun d => d.parameters.length) = some 1) ∧ m_X12_xOf.2.2.1 ≤ 22 := ⟨⟨by decide +kernel, by decide +kernel, by decide +kernel⟩, by decide⟩
theorem ml_X12_417 : s_MS RX12 417 m_X12_xOf 1 := ⟨Or.inl (wd_2043), wd_2044, wd_158, wd_2045, md_X12_xOf.1, md_X12_xOf.2⟩
theorem md_X12_yOf : (m_X12_yOf.1.cls ≠ "java/lang/invoke/MethodHandle" ∧ m_X12_yOf.1.cls ≠ "java/lang/invoke/VarHandle" ∧ (parseMethodDescriptor m_X12_yOf.1.desc).map (fun d => d.parameters.length) = some 1) ∧ m_X12_yOf.2.2.1 ≤ 22 := ⟨⟨by decide +kernel, by decide +kernel, by decide +kernel⟩, by decide⟩
theorem ml_X12_420 : s_MS RX12 420 m_X12_yOf 1 := ⟨Or.inl (wd_2046), wd_2047, wd_158, wd_2048, md_X12_yOf.1, md_X12_yOf.2⟩
theorem k_X12_440 : Cond.constantLong RX12 440 (7 : Int64) ∈ s_tb := wd_2049
theorem md_X12_isBarred : (m_X12_isBarred.1.cls ≠ "java/lang/invoke/MethodHandle" ∧ m_X12_isBarred.1.cls ≠ "java/lang/invoke/VarHandle" ∧ (parseMethodDescriptor m_X12_isBarred.1.desc).map (fun d => d.parameters.length) = some 3) ∧ m_X12_isBarred.2.2.1 ≤ 22 := ⟨⟨by decide +kernel, by decide +kernel, by decide +kernel⟩, by decide⟩
theorem ml_X12_445 : s_MV RX12 445 m_X12_isBarred 3 := ⟨wd_2050, wd_2052, wd_103, wd_158, wd_2053, md_X12_isBarred.1, md_X12_isBarred.2⟩
theorem md_X12_tells : (m_X12_tells.1.cls ≠ "java/lang/invoke/MethodHandle" ∧ m_X12_tells.1.cls ≠ "java/lang/invoke/VarHandle" ∧ (parseMethodDescriptor m_X12_tells.1.desc).map (fun d => d.parameters.length) = some 8) ∧ m_X12_tells.2.2.1 ≤ 22 := ⟨⟨by decide +kernel, by decide +kernel, by decide +kernel⟩, by decide⟩
theorem ml_X12_432 : s_MV RX12 432 m_X12_tells 8 := ⟨wd_2054, wd_2056, wd_104, wd_158, wd_2057, md_X12_tells.1, md_X12_tells.2⟩
theorem md_X12_isSo : (m_X12_isSo.1.cls ≠ "java/lang/invoke/MethodHandle" ∧ m_X12_isSo.1.cls ≠ "java/lang/invoke/VarHandle" ∧ (parseMethodDescriptor m_X12_isSo.1.desc).map (fun d => d.parameters.length) = some 1) ∧ m_X12_isSo.2.2.1 ≤ 22 := ⟨⟨by decide +kernel, by decide +kernel, by decide +kernel⟩, by decide⟩
theorem ml_X12_429 : s_MV RX12 429 m_X12_isSo 1 := ⟨wd_2058, wd_2060, wd_105, wd_158, wd_2061, md_X12_isSo.1, md_X12_isSo.2⟩
theorem md_X12_reckonAll : (m_X12_reckonAll.1.cls ≠ "java/lang/invoke/MethodHandle" ∧ m_X12_reckonAll.1.cls ≠ "java/lang/invoke/VarHandle" ∧ (parseMethodDescriptor m_X12_reckonAll.1.desc).map (fun d => d.parameters.length) = some 2) ∧ m_X12_reckonAll.2.2.1 ≤ 22 := ⟨⟨by decide +kernel, by decide +kernel, by decide +kernel⟩, by decide⟩
theorem ml_X12_423 : s_MV RX12 423 m_X12_reckonAll 2 := ⟨wd_2062, wd_2064, wd_106, wd_158, wd_2065, md_X12_reckonAll.1, md_X12_reckonAll.2⟩
theorem md_X12_toldOf : (m_X12_toldOf.1.cls ≠ "java/lang/invoke/MethodHandle" ∧ m_X12_toldOf.1.cls ≠ "java/lang/invoke/VarHandle" ∧ (parseMethodDescriptor m_X12_toldOf.1.desc).map (fun d => d.parameters.length) = some 2) ∧ m_X12_toldOf.2.2.1 ≤ 22 := ⟨⟨by decide +kernel, by decide +kernel, by decide +kernel⟩, by decide⟩
theorem ml_X12_400 : s_MV RX12 400 m_X12_toldOf 2 := ⟨wd_2066, wd_2068, wd_107, wd_158, wd_2069, md_X12_toldOf.1, md_X12_toldOf.2⟩
theorem k_X12_415 : Cond.constantLong RX12 415 (100 : Int64) ∈ s_tb := wd_2070
theorem md_X12_reckon : (m_X12_reckon.1.cls ≠ "java/lang/invoke/MethodHandle" ∧ m_X12_reckon.1.cls ≠ "java/lang/invoke/VarHandle" ∧ (parseMethodDescriptor m_X12_reckon.1.desc).map (fun d => d.parameters.length) = some 3) ∧ m_X12_reckon.2.2.1 ≤ 22 := ⟨⟨by decide +kernel, by decide +kernel, by decide +kernel⟩, by decide⟩
theorem ml_X12_404 : s_MV RX12 404 m_X12_reckon 3 := ⟨wd_2071, wd_2073, wd_108, wd_158, wd_2074, md_X12_reckon.1, md_X12_reckon.2⟩
theorem k_X12_408 : Cond.constantLong RX12 408 (-1000000000 : Int64) ∈ s_tb := wd_2075
theorem k_X12_410 : Cond.constantLong RX12 410 (1000000000 : Int64) ∈ s_tb := wd_2076
theorem md_X12_goes : (m_X12_goes.1.cls ≠ "java/lang/invoke/MethodHandle" ∧ m_X12_goes.1.cls ≠ "java/lang/invoke/VarHandle" ∧ (parseMethodDescriptor m_X12_goes.1.desc).map (fun d => d.parameters.length) = some 5) ∧ m_X12_goes.2.2.1 ≤ 22 := ⟨⟨by decide +kernel, by decide +kernel, by decide +kernel⟩, by decide⟩
theorem ml_X12_460 : s_MV RX12 460 m_X12_goes 5 := ⟨wd_2077, wd_2079, wd_109, wd_158, wd_2080, md_X12_goes.1, md_X12_goes.2⟩
theorem md_X12_stepX : (m_X12_stepX.1.cls ≠ "java/lang/invoke/MethodHandle" ∧ m_X12_stepX.1.cls ≠ "java/lang/invoke/VarHandle" ∧ (parseMethodDescriptor m_X12_stepX.1.desc).map (fun d => d.parameters.length) = some 1) ∧ m_X12_stepX.2.2.1 ≤ 22 := ⟨⟨by decide +kernel, by decide +kernel, by decide +kernel⟩, by decide⟩
theorem ml_X12_448 : s_MS RX12 448 m_X12_stepX 1 := ⟨Or.inl (wd_2081), wd_2082, wd_158, wd_2083, md_X12_stepX.1, md_X12_stepX.2⟩
theorem md_X12_stepY : (m_X12_stepY.1.cls ≠ "java/lang/invoke/MethodHandle" ∧ m_X12_stepY.1.cls ≠ "java/lang/invoke/VarHandle" ∧ (parseMethodDescriptor m_X12_stepY.1.desc).map (fun d => d.parameters.length) = some 1) ∧ m_X12_stepY.2.2.1 ≤ 22 := ⟨⟨by decide +kernel, by decide +kernel, by decide +kernel⟩, by decide⟩
theorem ml_X12_451 : s_MS RX12 451 m_X12_stepY 1 := ⟨Or.inl (wd_2084), wd_2085, wd_158, wd_2086, md_X12_stepY.1, md_X12_stepY.2⟩
theorem md_X12_shadeOf : (m_X12_shadeOf.1.cls ≠ "java/lang/invoke/MethodHandle" ∧ m_X12_shadeOf.1.cls ≠ "java/lang/invoke/VarHandle" ∧ (parseMethodDescriptor m_X12_shadeOf.1.desc).map (fun d => d.parameters.length) = some 2) ∧ m_X12_shadeOf.2.2.1 ≤ 22 := ⟨⟨by decide +kernel, by decide +kernel, by decide +kernel⟩, by decide⟩
theorem ml_X12_481 : s_MV RX12 481 m_X12_shadeOf 2 := ⟨wd_2087, wd_2089, wd_110, wd_158, wd_2090, md_X12_shadeOf.1, md_X12_shadeOf.2⟩
theorem md_X12_shades : (m_X12_shades.1.cls ≠ "java/lang/invoke/MethodHandle" ∧ m_X12_shades.1.cls ≠ "java/lang/invoke/VarHandle" ∧ (parseMethodDescriptor m_X12_shades.1.desc).map (fun d => d.parameters.length) = some 3) ∧ m_X12_shades.2.2.1 ≤ 22 := ⟨⟨by decide +kernel, by decide +kernel, by decide +kernel⟩, by decide⟩
theorem ml_X12_475 : s_MV RX12 475 m_X12_shades 3 := ⟨wd_2091, wd_2093, wd_111, wd_158, wd_2094, md_X12_shades.1, md_X12_shades.2⟩
theorem md_X12_covers : (m_X12_covers.1.cls ≠ "java/lang/invoke/MethodHandle" ∧ m_X12_covers.1.cls ≠ "java/lang/invoke/VarHandle" ∧ (parseMethodDescriptor m_X12_covers.1.desc).map (fun d => d.parameters.length) = some 4) ∧ m_X12_covers.2.2.1 ≤ 22 := ⟨⟨by decide +kernel, by decide +kernel, by decide +kernel⟩, by decide⟩
theorem ml_X12_471 : s_MS RX12 471 m_X12_covers 4 := ⟨Or.inl (wd_2095), wd_2096, wd_158, wd_2097, md_X12_covers.1, md_X12_covers.2⟩
theorem k_X12_484 : Cond.constantLong RX12 484 (5 : Int64) ∈ s_tb := wd_2098
theorem md_X12_fieldTells : (m_X12_fieldTells.1.cls ≠ "java/lang/invoke/MethodHandle" ∧ m_X12_fieldTells.1.cls ≠ "java/lang/invoke/VarHandle" ∧ (parseMethodDescriptor m_X12_fieldTells.1.desc).map (fun d => d.parameters.length) = some 5) ∧ m_X12_fieldTells.2.2.1 ≤ 22 := ⟨⟨by decide +kernel, by decide +kernel, by decide +kernel⟩, by decide⟩
theorem ml_X12_486 : s_MV RX12 486 m_X12_fieldTells 5 := ⟨wd_2099, wd_2101, wd_112, wd_158, wd_2102, md_X12_fieldTells.1, md_X12_fieldTells.2⟩
theorem md_X12_within : (m_X12_within.1.cls ≠ "java/lang/invoke/MethodHandle" ∧ m_X12_within.1.cls ≠ "java/lang/invoke/VarHandle" ∧ (parseMethodDescriptor m_X12_within.1.desc).map (fun d => d.parameters.length) = some 3) ∧ m_X12_within.2.2.1 ≤ 22 := ⟨⟨by decide +kernel, by decide +kernel, by decide +kernel⟩, by decide⟩
theorem ml_X12_436 : s_MS RX12 436 m_X12_within 3 := ⟨Or.inl (wd_2103), wd_2104, wd_158, wd_2105, md_X12_within.1, md_X12_within.2⟩
theorem md_X12_at : (m_X12_at.1.cls ≠ "java/lang/invoke/MethodHandle" ∧ m_X12_at.1.cls ≠ "java/lang/invoke/VarHandle" ∧ (parseMethodDescriptor m_X12_at.1.desc).map (fun d => d.parameters.length) = some 3) ∧ m_X12_at.2.2.1 ≤ 22 := ⟨⟨by decide +kernel, by decide +kernel, by decide +kernel⟩, by decide⟩
theorem ml_L_101 : s_MV RL 101 m_X12_at 3 := ⟨wd_2106, wd_2107, wd_2108, wd_158, wd_2109, md_X12_at.1, md_X12_at.2⟩
theorem md_X12_cornerOf : (m_X12_cornerOf.1.cls ≠ "java/lang/invoke/MethodHandle" ∧ m_X12_cornerOf.1.cls ≠ "java/lang/invoke/VarHandle" ∧ (parseMethodDescriptor m_X12_cornerOf.1.desc).map (fun d => d.parameters.length) = some 2) ∧ m_X12_cornerOf.2.2.1 ≤ 22 := ⟨⟨by decide +kernel, by decide +kernel, by decide +kernel⟩, by decide⟩
theorem ml_X12_490 : s_MV RX12 490 m_X12_cornerOf 2 := ⟨wd_2110, wd_2112, wd_113, wd_158, wd_2113, md_X12_cornerOf.1, md_X12_cornerOf.2⟩
theorem md_X12_dark : (m_X12_dark.1.cls ≠ "java/lang/invoke/MethodHandle" ∧ m_X12_dark.1.cls ≠ "java/lang/invoke/VarHandle" ∧ (parseMethodDescriptor m_X12_dark.1.desc).map (fun d => d.parameters.length) = some 1) ∧ m_X12_dark.2.2.1 ≤ 22 := ⟨⟨by decide +kernel, by decide +kernel, by decide +kernel⟩, by decide⟩
theorem ml_L_105 : s_MV RL 105 m_X12_dark 1 := ⟨wd_2114, wd_2115, wd_2116, wd_158, wd_2117, md_X12_dark.1, md_X12_dark.2⟩
theorem md_X12_heat : (m_X12_heat.1.cls ≠ "java/lang/invoke/MethodHandle" ∧ m_X12_heat.1.cls ≠ "java/lang/invoke/VarHandle" ∧ (parseMethodDescriptor m_X12_heat.1.desc).map (fun d => d.parameters.length) = some 2) ∧ m_X12_heat.2.2.1 ≤ 22 := ⟨⟨by decide +kernel, by decide +kernel, by decide +kernel⟩, by decide⟩
theorem ml_L_109 : s_MV RL 109 m_X12_heat 2 := ⟨wd_2118, wd_2119, wd_2120, wd_158, wd_2121, md_X12_heat.1, md_X12_heat.2⟩
theorem k_X12_496 : Cond.constantLong RX12 496 (12 : Int64) ∈ s_tb := wd_2122
theorem md_X12_layHeat : (m_X12_layHeat.1.cls ≠ "java/lang/invoke/MethodHandle" ∧ m_X12_layHeat.1.cls ≠ "java/lang/invoke/VarHandle" ∧ (parseMethodDescriptor m_X12_layHeat.1.desc).map (fun d => d.parameters.length) = some 1) ∧ m_X12_layHeat.2.2.1 ≤ 22 := ⟨⟨by decide +kernel, by decide +kernel, by decide +kernel⟩, by decide⟩
theorem ml_X12_493 : s_MV RX12 493 m_X12_layHeat 1 := ⟨wd_2123, wd_2125, wd_114, wd_158, wd_2126, md_X12_layHeat.1, md_X12_layHeat.2⟩
theorem md_X12_scorched : (m_X12_scorched.1.cls ≠ "java/lang/invoke/MethodHandle" ∧ m_X12_scorched.1.cls ≠ "java/lang/invoke/VarHandle" ∧ (parseMethodDescriptor m_X12_scorched.1.desc).map (fun d => d.parameters.length) = some 1) ∧ m_X12_scorched.2.2.1 ≤ 22 := ⟨⟨by decide +kernel, by decide +kernel, by decide +kernel⟩, by decide⟩
theorem ml_L_113 : s_MV RL 113 m_X12_scorched 1 := ⟨wd_2127, wd_2128, wd_2129, wd_158, wd_2130, md_X12_scorched.1, md_X12_scorched.2⟩
theorem md_X12_isScorched : (m_X12_isScorched.1.cls ≠ "java/lang/invoke/MethodHandle" ∧ m_X12_isScorched.1.cls ≠ "java/lang/invoke/VarHandle" ∧ (parseMethodDescriptor m_X12_isScorched.1.desc).map (fun d => d.parameters.length) = some 1) ∧ m_X12_isScorched.2.2.1 ≤ 22 := ⟨⟨by decide +kernel, by decide +kernel, by decide +kernel⟩, by decide⟩
theorem ml_X12_498 : s_MV RX12 498 m_X12_isScorched 1 := ⟨wd_2131, wd_2133, wd_115, wd_158, wd_2134, md_X12_isScorched.1, md_X12_isScorched.2⟩
theorem md_X12_broken : (m_X12_broken.1.cls ≠ "java/lang/invoke/MethodHandle" ∧ m_X12_broken.1.cls ≠ "java/lang/invoke/VarHandle" ∧ (parseMethodDescriptor m_X12_broken.1.desc).map (fun d => d.parameters.length) = some 1) ∧ m_X12_broken.2.2.1 ≤ 22 := ⟨⟨by decide +kernel, by decide +kernel, by decide +kernel⟩, by decide⟩
theorem ml_L_117 : s_MV RL 117 m_X12_broken 1 := ⟨wd_2135, wd_2136, wd_2137, wd_158, wd_2138, md_X12_broken.1, md_X12_broken.2⟩
theorem md_X12_brokenIn : (m_X12_brokenIn.1.cls ≠ "java/lang/invoke/MethodHandle" ∧ m_X12_brokenIn.1.cls ≠ "java/lang/invoke/VarHandle" ∧ (parseMethodDescriptor m_X12_brokenIn.1.desc).map (fun d => d.parameters.length) = some 1) ∧ m_X12_brokenIn.2.2.1 ≤ 22 := ⟨⟨by decide +kernel, by decide +kernel, by decide +kernel⟩, by decide⟩
theorem ml_X12_504 : s_MV RX12 504 m_X12_brokenIn 1 := ⟨wd_2139, wd_2141, wd_116, wd_158, wd_2142, md_X12_brokenIn.1, md_X12_brokenIn.2⟩
theorem md_X12_ofContract : (m_X12_ofContract.1.cls ≠ "java/lang/invoke/MethodHandle" ∧ m_X12_ofContract.1.cls ≠ "java/lang/invoke/VarHandle" ∧ (parseMethodDescriptor m_X12_ofContract.1.desc).map (fun d => d.parameters.length) = some 2) ∧ m_X12_ofContract.2.2.1 ≤ 22 := ⟨⟨by decide +kernel, by decide +kernel, by decide +kernel⟩, by decide⟩
theorem ml_X12_501 : s_MV RX12 501 m_X12_ofContract 2 := ⟨wd_2143, wd_2145, wd_117, wd_158, wd_2146, md_X12_ofContract.1, md_X12_ofContract.2⟩
theorem md_X12_judge : (m_X12_judge.1.cls ≠ "java/lang/invoke/MethodHandle" ∧ m_X12_judge.1.cls ≠ "java/lang/invoke/VarHandle" ∧ (parseMethodDescriptor m_X12_judge.1.desc).map (fun d => d.parameters.length) = some 1) ∧ m_X12_judge.2.2.1 ≤ 22 := ⟨⟨by decide +kernel, by decide +kernel, by decide +kernel⟩, by decide⟩
theorem ml_L_121 : s_MV RL 121 m_X12_judge 1 := ⟨wd_2147, wd_2148, wd_2149, wd_158, wd_2150, md_X12_judge.1, md_X12_judge.2⟩
theorem k_X12_507 : Cond.constant RX12 507 (100000000 : Int32) ∈ s_tb := wd_2151
theorem md_X12_drive : (m_X12_drive.1.cls ≠ "java/lang/invoke/MethodHandle" ∧ m_X12_drive.1.cls ≠ "java/lang/invoke/VarHandle" ∧ (parseMethodDescriptor m_X12_drive.1.desc).map (fun d => d.parameters.length) = some 5) ∧ m_X12_drive.2.2.1 ≤ 22 := ⟨⟨by decide +kernel, by decide +kernel, by decide +kernel⟩, by decide⟩
theorem ml_L_125 : s_MV RL 125 m_X12_drive 5 := ⟨wd_2152, wd_2153, wd_2154, wd_158, wd_2155, md_X12_drive.1, md_X12_drive.2⟩
theorem md_X12_layWorks : (m_X12_layWorks.1.cls ≠ "java/lang/invoke/MethodHandle" ∧ m_X12_layWorks.1.cls ≠ "java/lang/invoke/VarHandle" ∧ (parseMethodDescriptor m_X12_layWorks.1.desc).map (fun d => d.parameters.length) = some 1) ∧ m_X12_layWorks.2.2.1 ≤ 22 := ⟨⟨by decide +kernel, by decide +kernel, by decide +kernel⟩, by decide⟩
theorem ml_X12_515 : s_MV RX12 515 m_X12_layWorks 1 := ⟨wd_2156, wd_2158, wd_118, wd_158, wd_2159, md_X12_layWorks.1, md_X12_layWorks.2⟩
theorem md_X12_findDrive : (m_X12_findDrive.1.cls ≠ "java/lang/invoke/MethodHandle" ∧ m_X12_findDrive.1.cls ≠ "java/lang/invoke/VarHandle" ∧ (parseMethodDescriptor m_X12_findDrive.1.desc).map (fun d => d.parameters.length) = some 4) ∧ m_X12_findDrive.2.2.1 ≤ 22 := ⟨⟨by decide +kernel, by decide +kernel, by decide +kernel⟩, by decide⟩
theorem ml_X12_518 : s_MV RX12 518 m_X12_findDrive 4 := ⟨wd_2160, wd_2162, wd_119, wd_158, wd_2163, md_X12_findDrive.1, md_X12_findDrive.2⟩
theorem md_X12_fewestBy : (m_X12_fewestBy.1.cls ≠ "java/lang/invoke/MethodHandle" ∧ m_X12_fewestBy.1.cls ≠ "java/lang/invoke/VarHandle" ∧ (parseMethodDescriptor m_X12_fewestBy.1.desc).map (fun d => d.parameters.length) = some 4) ∧ m_X12_fewestBy.2.2.1 ≤ 22 := ⟨⟨by decide +kernel, by decide +kernel, by decide +kernel⟩, by decide⟩
theorem ml_X12_511 : s_MV RX12 511 m_X12_fewestBy 4 := ⟨wd_2164, wd_2166, wd_120, wd_158, wd_2167, md_X12_fewestBy.1, md_X12_fewestBy.2⟩
theorem md_X12_nextOf : (m_X12_nextOf.1.cls ≠ "java/lang/invoke/MethodHandle" ∧ m_X12_nextOf.1.cls ≠ "java/lang/invoke/VarHandle" ∧ (parseMethodDescriptor m_X12_nextOf.1.desc).map (fun d => d.parameters.length) = some 5) ∧ m_X12_nextOf.2.2.1 ≤ 22 := ⟨⟨by decide +kernel, by decide +kernel, by decide +kernel⟩, by decide⟩
theorem ml_X12_508 : s_MV RX12 508 m_X12_nextOf 5 := ⟨wd_2168, wd_2170, wd_121, wd_158, wd_2171, md_X12_nextOf.1, md_X12_nextOf.2⟩
theorem md_X12_pasture : (m_X12_pasture.1.cls ≠ "java/lang/invoke/MethodHandle" ∧ m_X12_pasture.1.cls ≠ "java/lang/invoke/VarHandle" ∧ (parseMethodDescriptor m_X12_pasture.1.desc).map (fun d => d.parameters.length) = some 3) ∧ m_X12_pasture.2.2.1 ≤ 22 := ⟨⟨by decide +kernel, by decide +kernel, by decide +kernel⟩, by decide⟩
theorem ml_L_129 : s_MV RL 129 m_X12_pasture 3 := ⟨wd_2172, wd_2173, wd_2174, wd_158, wd_2175, md_X12_pasture.1, md_X12_pasture.2⟩
theorem md_X12_findPasture : (m_X12_findPasture.1.cls ≠ "java/lang/invoke/MethodHandle" ∧ m_X12_findPasture.1.cls ≠ "java/lang/invoke/VarHandle" ∧ (parseMethodDescriptor m_X12_findPasture.1.desc).map (fun d => d.parameters.length) = some 1) ∧ m_X12_findPasture.2.2.1 ≤ 22 := ⟨⟨by decide +kernel, by decide +kernel, by decide +kernel⟩, by decide⟩
theorem ml_X12_529 : s_MV RX12 529 m_X12_findPasture 1 := ⟨wd_2176, wd_2178, wd_122, wd_158, wd_2179, md_X12_findPasture.1, md_X12_findPasture.2⟩
theorem md_X12_worthAt : (m_X12_worthAt.1.cls ≠ "java/lang/invoke/MethodHandle" ∧ m_X12_worthAt.1.cls ≠ "java/lang/invoke/VarHandle" ∧ (parseMethodDescriptor m_X12_worthAt.1.desc).map (fun d => d.parameters.length) = some 3) ∧ m_X12_worthAt.2.2.1 ≤ 22 := ⟨⟨by decide +kernel, by decide +kernel, by decide +kernel⟩, by decide⟩
theorem ml_X12_522 : s_MV RX12 522 m_X12_worthAt 3 := ⟨wd_2180, wd_2182, wd_123, wd_158, wd_2183, md_X12_worthAt.1, md_X12_worthAt.2⟩
theorem md_X12_pastureBy : (m_X12_pastureBy.1.cls ≠ "java/lang/invoke/MethodHandle" ∧ m_X12_pastureBy.1.cls ≠ "java/lang/invoke/VarHandle" ∧ (parseMethodDescriptor m_X12_pastureBy.1.desc).map (fun d => d.parameters.length) = some 5) ∧ m_X12_pastureBy.2.2.1 ≤ 22 := ⟨⟨by decide +kernel, by decide +kernel, by decide +kernel⟩, by decide⟩
theorem ml_X12_525 : s_MV RX12 525 m_X12_pastureBy 5 := ⟨wd_2184, wd_2186, wd_124, wd_158, wd_2187, md_X12_pastureBy.1, md_X12_pastureBy.2⟩
theorem md_X12_serve : (m_X12_serve.1.cls ≠ "java/lang/invoke/MethodHandle" ∧ m_X12_serve.1.cls ≠ "java/lang/invoke/VarHandle" ∧ (parseMethodDescriptor m_X12_serve.1.desc).map (fun d => d.parameters.length) = some 2) ∧ m_X12_serve.2.2.1 ≤ 22 := ⟨⟨by decide +kernel, by decide +kernel, by decide +kernel⟩, by decide⟩
theorem ml_L_133 : s_MV RL 133 m_X12_serve 2 := ⟨wd_2188, wd_2189, wd_2190, wd_158, wd_2191, md_X12_serve.1, md_X12_serve.2⟩
theorem md_X12_is : (m_X12_is.1.cls ≠ "java/lang/invoke/MethodHandle" ∧ m_X12_is.1.cls ≠ "java/lang/invoke/VarHandle" ∧ (parseMethodDescriptor m_X12_is.1.desc).map (fun d => d.parameters.length) = some 2) ∧ m_X12_is.2.2.1 ≤ 22 := ⟨⟨by decide +kernel, by decide +kernel, by decide +kernel⟩, by decide⟩
theorem ml_X12_532 : s_MS RX12 532 m_X12_is 2 := ⟨Or.inl (wd_2192), wd_2193, wd_158, wd_2194, md_X12_is.1, md_X12_is.2⟩
theorem md_X12_canServe : (m_X12_canServe.1.cls ≠ "java/lang/invoke/MethodHandle" ∧ m_X12_canServe.1.cls ≠ "java/lang/invoke/VarHandle" ∧ (parseMethodDescriptor m_X12_canServe.1.desc).map (fun d => d.parameters.length) = some 2) ∧ m_X12_canServe.2.2.1 ≤ 22 := ⟨⟨by decide +kernel, by decide +kernel, by decide +kernel⟩, by decide⟩
theorem ml_X12_542 : s_MV RX12 542 m_X12_canServe 2 := ⟨wd_2195, wd_2197, wd_125, wd_158, wd_2198, md_X12_canServe.1, md_X12_canServe.2⟩
theorem md_X12_isOver : (m_X12_isOver.1.cls ≠ "java/lang/invoke/MethodHandle" ∧ m_X12_isOver.1.cls ≠ "java/lang/invoke/VarHandle" ∧ (parseMethodDescriptor m_X12_isOver.1.desc).map (fun d => d.parameters.length) = some 2) ∧ m_X12_isOver.2.2.1 ≤ 22 := ⟨⟨by decide +kernel, by decide +kernel, by decide +kernel⟩, by decide⟩
theorem ml_X12_536 : s_MV RX12 536 m_X12_isOver 2 := ⟨wd_2199, wd_2201, wd_126, wd_158, wd_2202, md_X12_isOver.1, md_X12_isOver.2⟩
theorem md_X12_serves : (m_X12_serves.1.cls ≠ "java/lang/invoke/MethodHandle" ∧ m_X12_serves.1.cls ≠ "java/lang/invoke/VarHandle" ∧ (parseMethodDescriptor m_X12_serves.1.desc).map (fun d => d.parameters.length) = some 4) ∧ m_X12_serves.2.2.1 ≤ 22 := ⟨⟨by decide +kernel, by decide +kernel, by decide +kernel⟩, by decide⟩
theorem ml_X12_539 : s_MV RX12 539 m_X12_serves 4 := ⟨wd_2203, wd_2205, wd_127, wd_158, wd_2206, md_X12_serves.1, md_X12_serves.2⟩
theorem md_X12_cross : (m_X12_cross.1.cls ≠ "java/lang/invoke/MethodHandle" ∧ m_X12_cross.1.cls ≠ "java/lang/invoke/VarHandle" ∧ (parseMethodDescriptor m_X12_cross.1.desc).map (fun d => d.parameters.length) = some 3) ∧ m_X12_cross.2.2.1 ≤ 22 := ⟨⟨by decide +kernel, by decide +kernel, by decide +kernel⟩, by decide⟩
theorem ml_L_137 : s_MV RL 137 m_X12_cross 3 := ⟨wd_2207, wd_2208, wd_2209, wd_158, wd_2210, md_X12_cross.1, md_X12_cross.2⟩
theorem md_X12_common : (m_X12_common.1.cls ≠ "java/lang/invoke/MethodHandle" ∧ m_X12_common.1.cls ≠ "java/lang/invoke/VarHandle" ∧ (parseMethodDescriptor m_X12_common.1.desc).map (fun d => d.parameters.length) = some 4) ∧ m_X12_common.2.2.1 ≤ 22 := ⟨⟨by decide +kernel, by decide +kernel, by decide +kernel⟩, by decide⟩
theorem ml_X12_545 : s_MV RX12 545 m_X12_common 4 := ⟨wd_2211, wd_2213, wd_128, wd_158, wd_2214, md_X12_common.1, md_X12_common.2⟩
theorem md_X12_part : (m_X12_part.1.cls ≠ "java/lang/invoke/MethodHandle" ∧ m_X12_part.1.cls ≠ "java/lang/invoke/VarHandle" ∧ (parseMethodDescriptor m_X12_part.1.desc).map (fun d => d.parameters.length) = some 2) ∧ m_X12_part.2.2.1 ≤ 22 := ⟨⟨by decide +kernel, by decide +kernel, by decide +kernel⟩, by decide⟩
theorem ml_L_141 : s_MV RL 141 m_X12_part 2 := ⟨wd_2215, wd_2216, wd_2217, wd_158, wd_2218, md_X12_part.1, md_X12_part.2⟩
theorem md_X12_likely : (m_X12_likely.1.cls ≠ "java/lang/invoke/MethodHandle" ∧ m_X12_likely.1.cls ≠ "java/lang/invoke/VarHandle" ∧ (parseMethodDescriptor m_X12_likely.1.desc).map (fun d => d.parameters.length) = some 3) ∧ m_X12_likely.2.2.1 ≤ 22 := ⟨⟨by decide +kernel, by decide +kernel, by decide +kernel⟩, by decide⟩
theorem ml_L_146 : s_MV RL 146 m_X12_likely 3 := ⟨wd_2219, wd_2220, wd_2221, wd_158, wd_2222, md_X12_likely.1, md_X12_likely.2⟩
theorem k_X12_548 : Cond.constantLong RX12 548 (1000000000000 : Int64) ∈ s_tb := wd_2223
theorem md_X12_surest : (m_X12_surest.1.cls ≠ "java/lang/invoke/MethodHandle" ∧ m_X12_surest.1.cls ≠ "java/lang/invoke/VarHandle" ∧ (parseMethodDescriptor m_X12_surest.1.desc).map (fun d => d.parameters.length) = some 3) ∧ m_X12_surest.2.2.1 ≤ 22 := ⟨⟨by decide +kernel, by decide +kernel, by decide +kernel⟩, by decide⟩
theorem ml_L_150 : s_MV RL 150 m_X12_surest 3 := ⟨wd_2224, wd_2225, wd_2226, wd_158, wd_2227, md_X12_surest.1, md_X12_surest.2⟩
theorem md_X12_findSurest : (m_X12_findSurest.1.cls ≠ "java/lang/invoke/MethodHandle" ∧ m_X12_findSurest.1.cls ≠ "java/lang/invoke/VarHandle" ∧ (parseMethodDescriptor m_X12_findSurest.1.desc).map (fun d => d.parameters.length) = some 3) ∧ m_X12_findSurest.2.2.1 ≤ 22 := ⟨⟨by decide +kernel, by decide +kernel, by decide +kernel⟩, by decide⟩
theorem ml_X12_554 : s_MV RX12 554 m_X12_findSurest 3 := ⟨wd_2228, wd_2230, wd_129, wd_158, wd_2231, md_X12_findSurest.1, md_X12_findSurest.2⟩
theorem md_X12_chanceBy : (m_X12_chanceBy.1.cls ≠ "java/lang/invoke/MethodHandle" ∧ m_X12_chanceBy.1.cls ≠ "java/lang/invoke/VarHandle" ∧ (parseMethodDescriptor m_X12_chanceBy.1.desc).map (fun d => d.parameters.length) = some 4) ∧ m_X12_chanceBy.2.2.1 ≤ 22 := ⟨⟨by decide +kernel, by decide +kernel, by decide +kernel⟩, by decide⟩
theorem ml_X12_550 : s_MV RX12 550 m_X12_chanceBy 4 := ⟨wd_2232, wd_2234, wd_130, wd_158, wd_2235, md_X12_chanceBy.1, md_X12_chanceBy.2⟩
theorem md_X12_steer : (m_X12_steer.1.cls ≠ "java/lang/invoke/MethodHandle" ∧ m_X12_steer.1.cls ≠ "java/lang/invoke/VarHandle" ∧ (parseMethodDescriptor m_X12_steer.1.desc).map (fun d => d.parameters.length) = some 6) ∧ m_X12_steer.2.2.1 ≤ 22 := ⟨⟨by decide +kernel, by decide +kernel, by decide +kernel⟩, by decide⟩
theorem ml_L_155 : s_MV RL 155 m_X12_steer 6 := ⟨wd_2236, wd_2237, wd_2238, wd_158, wd_2239, md_X12_steer.1, md_X12_steer.2⟩
theorem md_X12_sight : (m_X12_sight.1.cls ≠ "java/lang/invoke/MethodHandle" ∧ m_X12_sight.1.cls ≠ "java/lang/invoke/VarHandle" ∧ (parseMethodDescriptor m_X12_sight.1.desc).map (fun d => d.parameters.length) = some 3) ∧ m_X12_sight.2.2.1 ≤ 22 := ⟨⟨by decide +kernel, by decide +kernel, by decide +kernel⟩, by decide⟩
theorem ml_L_159 : s_MV RL 159 m_X12_sight 3 := ⟨wd_2240, wd_2241, wd_2242, wd_158, wd_2243, md_X12_sight.1, md_X12_sight.2⟩
theorem md_X12_forget : (m_X12_forget.1.cls ≠ "java/lang/invoke/MethodHandle" ∧ m_X12_forget.1.cls ≠ "java/lang/invoke/VarHandle" ∧ (parseMethodDescriptor m_X12_forget.1.desc).map (fun d => d.parameters.length) = some 0) ∧ m_X12_forget.2.2.1 ≤ 22 := ⟨⟨by decide +kernel, by decide +kernel, by decide +kernel⟩, by decide⟩
theorem ml_L_163 : s_MV RL 163 m_X12_forget 0 := ⟨wd_2244, wd_2245, wd_2246, wd_158, wd_2247, md_X12_forget.1, md_X12_forget.2⟩
theorem md_X12_stray : (m_X12_stray.1.cls ≠ "java/lang/invoke/MethodHandle" ∧ m_X12_stray.1.cls ≠ "java/lang/invoke/VarHandle" ∧ (parseMethodDescriptor m_X12_stray.1.desc).map (fun d => d.parameters.length) = some 4) ∧ m_X12_stray.2.2.1 ≤ 22 := ⟨⟨by decide +kernel, by decide +kernel, by decide +kernel⟩, by decide⟩
theorem ml_L_168 : s_MV RL 168 m_X12_stray 4 := ⟨wd_2248, wd_2249, wd_2250, wd_158, wd_2251, md_X12_stray.1, md_X12_stray.2⟩
theorem md_X12_isStray : (m_X12_isStray.1.cls ≠ "java/lang/invoke/MethodHandle" ∧ m_X12_isStray.1.cls ≠ "java/lang/invoke/VarHandle" ∧ (parseMethodDescriptor m_X12_isStray.1.desc).map (fun d => d.parameters.length) = some 4) ∧ m_X12_isStray.2.2.1 ≤ 22 := ⟨⟨by decide +kernel, by decide +kernel, by decide +kernel⟩, by decide⟩
theorem ml_X12_558 : s_MV RX12 558 m_X12_isStray 4 := ⟨wd_2252, wd_2254, wd_131, wd_158, wd_2255, md_X12_isStray.1, md_X12_isStray.2⟩
theorem md_X12_rustled : (m_X12_rustled.1.cls ≠ "java/lang/invoke/MethodHandle" ∧ m_X12_rustled.1.cls ≠ "java/lang/invoke/VarHandle" ∧ (parseMethodDescriptor m_X12_rustled.1.desc).map (fun d => d.parameters.length) = some 1) ∧ m_X12_rustled.2.2.1 ≤ 22 := ⟨⟨by decide +kernel, by decide +kernel, by decide +kernel⟩, by decide⟩
theorem ml_L_172 : s_MV RL 172 m_X12_rustled 1 := ⟨wd_2256, wd_2257, wd_2258, wd_158, wd_2259, md_X12_rustled.1, md_X12_rustled.2⟩
theorem md_X12_layWith : (m_X12_layWith.1.cls ≠ "java/lang/invoke/MethodHandle" ∧ m_X12_layWith.1.cls ≠ "java/lang/invoke/VarHandle" ∧ (parseMethodDescriptor m_X12_layWith.1.desc).map (fun d => d.parameters.length) = some 3) ∧ m_X12_layWith.2.2.1 ≤ 22 := ⟨⟨by decide +kernel, by decide +kernel, by decide +kernel⟩, by decide⟩
theorem ml_X12_561 : s_MV RX12 561 m_X12_layWith 3 := ⟨wd_2260, wd_2262, wd_132, wd_158, wd_2263, md_X12_layWith.1, md_X12_layWith.2⟩
theorem md_X12_areSo : (m_X12_areSo.1.cls ≠ "java/lang/invoke/MethodHandle" ∧ m_X12_areSo.1.cls ≠ "java/lang/invoke/VarHandle" ∧ (parseMethodDescriptor m_X12_areSo.1.desc).map (fun d => d.parameters.length) = some 0) ∧ m_X12_areSo.2.2.1 ≤ 22 := ⟨⟨by decide +kernel, by decide +kernel, by decide +kernel⟩, by decide⟩
theorem ml_X12_564 : s_MV RX12 564 m_X12_areSo 0 := ⟨wd_2264, wd_2266, wd_133, wd_158, wd_2267, md_X12_areSo.1, md_X12_areSo.2⟩
theorem md_X12_men : (m_X12_men.1.cls ≠ "java/lang/invoke/MethodHandle" ∧ m_X12_men.1.cls ≠ "java/lang/invoke/VarHandle" ∧ (parseMethodDescriptor m_X12_men.1.desc).map (fun d => d.parameters.length) = some 0) ∧ m_X12_men.2.2.1 ≤ 22 := ⟨⟨by decide +kernel, by decide +kernel, by decide +kernel⟩, by decide⟩
theorem ml_L_176 : s_MV RL 176 m_X12_men 0 := ⟨wd_2268, wd_2269, wd_2270, wd_158, wd_2271, md_X12_men.1, md_X12_men.2⟩
theorem md_X12_augment : (m_X12_augment.1.cls ≠ "java/lang/invoke/MethodHandle" ∧ m_X12_augment.1.cls ≠ "java/lang/invoke/VarHandle" ∧ (parseMethodDescriptor m_X12_augment.1.desc).map (fun d => d.parameters.length) = some 1) ∧ m_X12_augment.2.2.1 ≤ 22 := ⟨⟨by decide +kernel, by decide +kernel, by decide +kernel⟩, by decide⟩
theorem ml_X12_576 : s_MV RX12 576 m_X12_augment 1 := ⟨wd_2272, wd_2274, wd_134, wd_158, wd_2275, md_X12_augment.1, md_X12_augment.2⟩
theorem md_X12_canGoOn : (m_X12_canGoOn.1.cls ≠ "java/lang/invoke/MethodHandle" ∧ m_X12_canGoOn.1.cls ≠ "java/lang/invoke/VarHandle" ∧ (parseMethodDescriptor m_X12_canGoOn.1.desc).map (fun d => d.parameters.length) = some 2) ∧ m_X12_canGoOn.2.2.1 ≤ 22 := ⟨⟨by decide +kernel, by decide +kernel, by decide +kernel⟩, by decide⟩
theorem ml_X12_573 : s_MV RX12 573 m_X12_canGoOn 2 := ⟨wd_2276, wd_2278, wd_135, wd_158, wd_2279, md_X12_canGoOn.1, md_X12_canGoOn.2⟩
theorem md_X12_away : (m_X12_away.1.cls ≠ "java/lang/invoke/MethodHandle" ∧ m_X12_away.1.cls ≠ "java/lang/invoke/VarHandle" ∧ (parseMethodDescriptor m_X12_away.1.desc).map (fun d => d.parameters.length) = some 1) ∧ m_X12_away.2.2.1 ≤ 22 := ⟨⟨by decide +kernel, by decide +kernel, by decide +kernel⟩, by decide⟩
theorem ml_X12_567 : s_MS RX12 567 m_X12_away 1 := ⟨Or.inl (wd_2280), wd_2281, wd_158, wd_2282, md_X12_away.1, md_X12_away.2⟩
theorem md_X12_duel : (m_X12_duel.1.cls ≠ "java/lang/invoke/MethodHandle" ∧ m_X12_duel.1.cls ≠ "java/lang/invoke/VarHandle" ∧ (parseMethodDescriptor m_X12_duel.1.desc).map (fun d => d.parameters.length) = some 4) ∧ m_X12_duel.2.2.1 ≤ 22 := ⟨⟨by decide +kernel, by decide +kernel, by decide +kernel⟩, by decide⟩
theorem ml_L_180 : s_MV RL 180 m_X12_duel 4 := ⟨wd_2283, wd_2284, wd_2285, wd_158, wd_2286, md_X12_duel.1, md_X12_duel.2⟩
theorem md_X12_isWon : (m_X12_isWon.1.cls ≠ "java/lang/invoke/MethodHandle" ∧ m_X12_isWon.1.cls ≠ "java/lang/invoke/VarHandle" ∧ (parseMethodDescriptor m_X12_isWon.1.desc).map (fun d => d.parameters.length) = some 4) ∧ m_X12_isWon.2.2.1 ≤ 22 := ⟨⟨by decide +kernel, by decide +kernel, by decide +kernel⟩, by decide⟩
theorem ml_X12_579 : s_MV RX12 579 m_X12_isWon 4 := ⟨wd_2287, wd_2289, wd_136, wd_158, wd_2290, md_X12_isWon.1, md_X12_isWon.2⟩
theorem md_X12_drives : (m_X12_drives.1.cls ≠ "java/lang/invoke/MethodHandle" ∧ m_X12_drives.1.cls ≠ "java/lang/invoke/VarHandle" ∧ (parseMethodDescriptor m_X12_drives.1.desc).map (fun d => d.parameters.length) = some 0) ∧ m_X12_drives.2.2.1 ≤ 22 := ⟨⟨by decide +kernel, by decide +kernel, by decide +kernel⟩, by decide⟩
theorem ml_L_81 : s_MV RL 81 m_X12_drives 0 := ⟨wd_2291, wd_2292, wd_2293, wd_158, wd_2294, md_X12_drives.1, md_X12_drives.2⟩
theorem md_X12_readDrive : (m_X12_readDrive.1.cls ≠ "java/lang/invoke/MethodHandle" ∧ m_X12_readDrive.1.cls ≠ "java/lang/invoke/VarHandle" ∧ (parseMethodDescriptor m_X12_readDrive.1.desc).map (fun d => d.parameters.length) = some 0) ∧ m_X12_readDrive.2.2.1 ≤ 22 := ⟨⟨by decide +kernel, by decide +kernel, by decide +kernel⟩, by decide⟩
theorem ml_X12_612 : s_MV RX12 612 m_X12_readDrive 0 := ⟨wd_2295, wd_2297, wd_137, wd_158, wd_2298, md_X12_readDrive.1, md_X12_readDrive.2⟩
theorem k_X12_585 : Cond.constantLong RX12 585 (208935 : Int64) ∈ s_tb := wd_2299
theorem md_X12_readSum : (m_X12_readSum.1.cls ≠ "java/lang/invoke/MethodHandle" ∧ m_X12_readSum.1.cls ≠ "java/lang/invoke/VarHandle" ∧ (parseMethodDescriptor m_X12_readSum.1.desc).map (fun d => d.parameters.length) = some 1) ∧ m_X12_readSum.2.2.1 ≤ 22 := ⟨⟨by decide +kernel, by decide +kernel, by decide +kernel⟩, by decide⟩
theorem ml_X12_582 : s_MV RX12 582 m_X12_readSum 1 := ⟨wd_2300, wd_2302, wd_138, wd_158, wd_2303, md_X12_readSum.1, md_X12_readSum.2⟩
theorem k_X12_587 : Cond.constantLong RX12 587 (655 : Int64) ∈ s_tb := wd_2304
theorem md_X12_readBehind : (m_X12_readBehind.1.cls ≠ "java/lang/invoke/MethodHandle" ∧ m_X12_readBehind.1.cls ≠ "java/lang/invoke/VarHandle" ∧ (parseMethodDescriptor m_X12_readBehind.1.desc).map (fun d => d.parameters.length) = some 2) ∧ m_X12_readBehind.2.2.1 ≤ 22 := ⟨⟨by decide +kernel, by decide +kernel, by decide +kernel⟩, by decide⟩
theorem ml_X12_589 : s_MV RX12 589 m_X12_readBehind 2 := ⟨wd_2305, wd_2307, wd_139, wd_158, wd_2308, md_X12_readBehind.1, md_X12_readBehind.2⟩
theorem k_X12_593 : Cond.constantLong RX12 593 (52 : Int64) ∈ s_tb := wd_2309
theorem k_X12_595 : Cond.constantLong RX12 595 (164968 : Int64) ∈ s_tb := wd_2310
theorem k_X12_597 : Cond.constantLong RX12 597 (21279923 : Int64) ∈ s_tb := wd_2311
theorem md_X12_run : (m_X12_run.1.cls ≠ "java/lang/invoke/MethodHandle" ∧ m_X12_run.1.cls ≠ "java/lang/invoke/VarHandle" ∧ (parseMethodDescriptor m_X12_run.1.desc).map (fun d => d.parameters.length) = some 1) ∧ m_X12_run.2.2.1 ≤ 22 := ⟨⟨by decide +kernel, by decide +kernel, by decide +kernel⟩, by decide⟩
theorem ml_X12_615 : s_MV RX12 615 m_X12_run 1 := ⟨wd_2312, wd_2314, wd_140, wd_158, wd_2315, md_X12_run.1, md_X12_run.2⟩
theorem md_X12_sumOf : (m_X12_sumOf.1.cls ≠ "java/lang/invoke/MethodHandle" ∧ m_X12_sumOf.1.cls ≠ "java/lang/invoke/VarHandle" ∧ (parseMethodDescriptor m_X12_sumOf.1.desc).map (fun d => d.parameters.length) = some 1) ∧ m_X12_sumOf.2.2.1 ≤ 22 := ⟨⟨by decide +kernel, by decide +kernel, by decide +kernel⟩, by decide⟩
theorem ml_X12_608 : s_MV RX12 608 m_X12_sumOf 1 := ⟨wd_2316, wd_2318, wd_141, wd_158, wd_2319, md_X12_sumOf.1, md_X12_sumOf.2⟩
theorem md_X12_stopped : (m_X12_stopped.1.cls ≠ "java/lang/invoke/MethodHandle" ∧ m_X12_stopped.1.cls ≠ "java/lang/invoke/VarHandle" ∧ (parseMethodDescriptor m_X12_stopped.1.desc).map (fun d => d.parameters.length) = some 0) ∧ m_X12_stopped.2.2.1 ≤ 22 := ⟨⟨by decide +kernel, by decide +kernel, by decide +kernel⟩, by decide⟩
theorem ml_L_89 : s_MV RL 89 m_X12_stopped 0 := ⟨wd_2320, wd_2321, wd_2322, wd_158, wd_2323, md_X12_stopped.1, md_X12_stopped.2⟩
theorem md_X12_summer : (m_X12_summer.1.cls ≠ "java/lang/invoke/MethodHandle" ∧ m_X12_summer.1.cls ≠ "java/lang/invoke/VarHandle" ∧ (parseMethodDescriptor m_X12_summer.1.desc).map (fun d => d.parameters.length) = some 2) ∧ m_X12_summer.2.2.1 ≤ 22 := ⟨⟨by decide +kernel, by decide +kernel, by decide +kernel⟩, by decide⟩
theorem ml_L_184 : s_MV RL 184 m_X12_summer 2 := ⟨wd_2324, wd_2325, wd_2326, wd_158, wd_2327, md_X12_summer.1, md_X12_summer.2⟩
theorem k_X12_630 : Cond.constantLong RX12 630 (30 : Int64) ∈ s_tb := wd_2328
theorem md_X12_drawDay : (m_X12_drawDay.1.cls ≠ "java/lang/invoke/MethodHandle" ∧ m_X12_drawDay.1.cls ≠ "java/lang/invoke/VarHandle" ∧ (parseMethodDescriptor m_X12_drawDay.1.desc).map (fun d => d.parameters.length) = some 0) ∧ m_X12_drawDay.2.2.1 ≤ 22 := ⟨⟨by decide +kernel, by decide +kernel, by decide +kernel⟩, by decide⟩
theorem ml_X12_635 : s_MV RX12 635 m_X12_drawDay 0 := ⟨wd_2329, wd_2331, wd_142, wd_158, wd_2332, md_X12_drawDay.1, md_X12_drawDay.2⟩
theorem md_X12_draw : (m_X12_draw.1.cls ≠ "java/lang/invoke/MethodHandle" ∧ m_X12_draw.1.cls ≠ "java/lang/invoke/VarHandle" ∧ (parseMethodDescriptor m_X12_draw.1.desc).map (fun d => d.parameters.length) = some 1) ∧ m_X12_draw.2.2.1 ≤ 22 := ⟨⟨by decide +kernel, by decide +kernel, by decide +kernel⟩, by decide⟩
theorem ml_X12_627 : s_MV RX12 627 m_X12_draw 1 := ⟨wd_2333, wd_2335, wd_143, wd_158, wd_2336, md_X12_draw.1, md_X12_draw.2⟩
theorem k_X12_621 : Cond.constantLong RX12 621 (1103 : Int64) ∈ s_tb := wd_2337
theorem k_X12_623 : Cond.constantLong RX12 623 (12345 : Int64) ∈ s_tb := wd_2338
theorem k_X12_625 : Cond.constantLong RX12 625 (1000003 : Int64) ∈ s_tb := wd_2339
theorem md_X12_drawn : (m_X12_drawn.1.cls ≠ "java/lang/invoke/MethodHandle" ∧ m_X12_drawn.1.cls ≠ "java/lang/invoke/VarHandle" ∧ (parseMethodDescriptor m_X12_drawn.1.desc).map (fun d => d.parameters.length) = some 1) ∧ m_X12_drawn.2.2.1 ≤ 22 := ⟨⟨by decide +kernel, by decide +kernel, by decide +kernel⟩, by decide⟩
theorem ml_L_188 : s_MV RL 188 m_X12_drawn 1 := ⟨wd_2340, wd_2341, wd_2342, wd_158, wd_2343, md_X12_drawn.1, md_X12_drawn.2⟩
theorem md_X12_count : (m_X12_count.1.cls ≠ "java/lang/invoke/MethodHandle" ∧ m_X12_count.1.cls ≠ "java/lang/invoke/VarHandle" ∧ (parseMethodDescriptor m_X12_count.1.desc).map (fun d => d.parameters.length) = some 1) ∧ m_X12_count.2.2.1 ≤ 22 := ⟨⟨by decide +kernel, by decide +kernel, by decide +kernel⟩, by decide⟩
theorem ml_L_200 : s_MV RL 200 m_X12_count 1 := ⟨wd_2344, wd_2345, wd_2346, wd_158, wd_2347, md_X12_count.1, md_X12_count.2⟩
theorem k_X12_638 : Cond.constantLong RX12 638 (14 : Int64) ∈ s_tb := wd_2348
theorem md_X12_status : (m_X12_status.1.cls ≠ "java/lang/invoke/MethodHandle" ∧ m_X12_status.1.cls ≠ "java/lang/invoke/VarHandle" ∧ (parseMethodDescriptor m_X12_status.1.desc).map (fun d => d.parameters.length) = some 0) ∧ m_X12_status.2.2.1 ≤ 22 := ⟨⟨by decide +kernel, by decide +kernel, by decide +kernel⟩, by decide⟩
theorem ml_L_204 : s_MV RL 204 m_X12_status 0 := ⟨wd_2349, wd_2350, wd_2351, wd_158, wd_2352, md_X12_status.1, md_X12_status.2⟩
theorem ac_int : Cond.arrayClass .int ∈ s_tb := wd_247
theorem ac_boolean : Cond.arrayClass .boolean ∈ s_tb := wd_286
theorem ac_long : Cond.arrayClass .long ∈ s_tb := wd_469
theorem sf_X8_37 : ∃ host, Cond.fieldLinkNest RX8 37 "ShadowHerds" "STEP_X" "[I" host ∈ s_nw := ⟨_, wn_1044⟩
theorem sf_X8_40 : ∃ host, Cond.fieldLinkNest RX8 40 "ShadowHerds" "STEP_Y" "[I" host ∈ s_nw := ⟨_, wn_1049⟩
