
theorem gR_01 {r : Int} (h : r = 0 ∨ r = 1) : gR r := ⟨by omega, by omega⟩
theorem gR_max {a b : Int} (ha : gR a) (hb : gR b) : gR (max a b) := by obtain ⟨a1, a2⟩ := ha; obtain ⟨b1, b2⟩ := hb; exact ⟨by omega, by omega⟩
theorem gR_min {a b : Int} (ha : gR a) (hb : gR b) : gR (min a b) := by obtain ⟨a1, a2⟩ := ha; obtain ⟨b1, b2⟩ := hb; exact ⟨by omega, by omega⟩

abbrev mX0_add : gM := (yX0_add, cX0_add, 7, (some .int), { frames := 0, cells := 0, slots := 0, locals := 0 })
abbrev mX0_tell : gM := (yX0_tell, cX0_tell, 3, (some .int), { frames := 0, cells := 0, slots := 0, locals := 0 })
abbrev mX0_waitOf : gM := (yX0_waitOf, cX0_waitOf, 2, (some .int), { frames := 0, cells := 0, slots := 0, locals := 0 })
abbrev mX1_begin : gM := (yX1_begin, cX1_begin, 2, none, { frames := 0, cells := 0, slots := 0, locals := 0 })
abbrev mX1_keepIfSo : gM := (yX1_keepIfSo, cX1_keepIfSo, 5, none, { frames := 3, cells := 0, slots := 0, locals := 73 })
abbrev mX1_allSo : gM := (yX1_allSo, cX1_allSo, 9, (some .boolean), { frames := 2, cells := 0, slots := 0, locals := 45 })
abbrev mX1_tell : gM := (yX1_tell, cX1_tell, 2, (some .int), { frames := 3, cells := 0, slots := 0, locals := 71 })
abbrev mX1_sureOf : gM := (yX1_sureOf, cX1_sureOf, 5, (some .int), { frames := 0, cells := 0, slots := 0, locals := 0 })
abbrev mX1_bestToAsk : gM := (yX1_bestToAsk, cX1_bestToAsk, 6, (some .int), { frames := 2, cells := 0, slots := 0, locals := 46 })
abbrev mX1_mostAlike : gM := (yX1_mostAlike, cX1_mostAlike, 6, (some .int), { frames := 1, cells := 0, slots := 0, locals := 21 })
abbrev mX2_begin : gM := (yX2_begin, cX2_begin, 4, none, { frames := 2, cells := 0, slots := 0, locals := 44 })
abbrev mX2_passSlot : gM := (yX2_passSlot, cX2_passSlot, 1, none, { frames := 4, cells := 0, slots := 0, locals := 91 })
abbrev mX2_inputAt : gM := (yX2_inputAt, cX2_inputAt, 6, (some .int), { frames := 5, cells := 0, slots := 0, locals := 111 })
abbrev mX2_tellRhythm : gM := (yX2_tellRhythm, cX2_tellRhythm, 4, (some .int), { frames := 6, cells := 0, slots := 0, locals := 133 })
abbrev mX2_findRhythm : gM := (yX2_findRhythm, cX2_findRhythm, 3, none, { frames := 5, cells := 0, slots := 0, locals := 111 })
abbrev mX2_pointersNow : gM := (yX2_pointersNow, cX2_pointersNow, 4, (some .long), { frames := 0, cells := 0, slots := 0, locals := 0 })
abbrev mX2_madeFrom : gM := (yX2_madeFrom, cX2_madeFrom, 4, (some .int), { frames := 0, cells := 0, slots := 0, locals := 0 })
abbrev mX2_stepAt : gM := (yX2_stepAt, cX2_stepAt, 2, (some .int), { frames := 0, cells := 0, slots := 0, locals := 0 })
abbrev mX3_tell : gM := (yX3_tell, cX3_tell, 3, (some .int), { frames := 5, cells := 0, slots := 0, locals := 111 })
abbrev mX3_bestOf : gM := (yX3_bestOf, cX3_bestOf, 6, (some .int), { frames := 3, cells := 0, slots := 0, locals := 69 })
abbrev mX3_bestFrom : gM := (yX3_bestFrom, cX3_bestFrom, 6, (some .int), { frames := 2, cells := 0, slots := 0, locals := 44 })
abbrev mX3_mayPair : gM := (yX3_mayPair, cX3_mayPair, 4, (some .boolean), { frames := 1, cells := 0, slots := 0, locals := 21 })
abbrev mX3_sumWith : gM := (yX3_sumWith, cX3_sumWith, 6, (some .int), { frames := 0, cells := 0, slots := 0, locals := 0 })
abbrev mX3_firstRow : gM := (yX3_firstRow, cX3_firstRow, 7, (some .int), { frames := 2, cells := 0, slots := 0, locals := 44 })
abbrev mX3_cellsOfMatched : gM := (yX3_cellsOfMatched, cX3_cellsOfMatched, 4, (some .int), { frames := 0, cells := 0, slots := 0, locals := 0 })
abbrev mX3_roundsNeeded : gM := (yX3_roundsNeeded, cX3_roundsNeeded, 4, (some .int), { frames := 3, cells := 0, slots := 0, locals := 68 })
abbrev mX4_begin : gM := (yX4_begin, cX4_begin, 4, none, { frames := 1, cells := 0, slots := 0, locals := 21 })
abbrev mX4_free : gM := (yX4_free, cX4_free, 2, none, { frames := 0, cells := 0, slots := 0, locals := 0 })
abbrev mX4_passRound : gM := (yX4_passRound, cX4_passRound, 5, (some .int), { frames := 2, cells := 0, slots := 0, locals := 44 })
abbrev mX4_pair : gM := (yX4_pair, cX4_pair, 4, none, { frames := 1, cells := 0, slots := 0, locals := 21 })
abbrev mX4_passRounds : gM := (yX4_passRounds, cX4_passRounds, 4, none, { frames := 3, cells := 0, slots := 0, locals := 68 })
abbrev mX4_couldMatchMore : gM := (yX4_couldMatchMore, cX4_couldMatchMore, 2, (some .boolean), { frames := 1, cells := 0, slots := 0, locals := 21 })
abbrev mX5_gatherFlows : gM := (yX5_gatherFlows, cX5_gatherFlows, 5, none, { frames := 1, cells := 0, slots := 0, locals := 23 })
abbrev mX5_noteCell : gM := (yX5_noteCell, cX5_noteCell, 4, none, { frames := 0, cells := 0, slots := 0, locals := 0 })
abbrev mX5_tellFlow : gM := (yX5_tellFlow, cX5_tellFlow, 4, (some .int), { frames := 1, cells := 0, slots := 0, locals := 20 })
abbrev mX5_queueOf : gM := (yX5_queueOf, cX5_queueOf, 1, (some .int), { frames := 0, cells := 0, slots := 0, locals := 0 })
abbrev mX5_tell : gM := (yX5_tell, cX5_tell, 3, (some .int), { frames := 3, cells := 0, slots := 0, locals := 70 })
abbrev mX5_worst : gM := (yX5_worst, cX5_worst, 3, (some .int), { frames := 1, cells := 0, slots := 0, locals := 21 })
abbrev mX5_longestWait : gM := (yX5_longestWait, cX5_longestWait, 2, (some .int), { frames := 2, cells := 0, slots := 0, locals := 43 })
abbrev mX5_sumOfWaits : gM := (yX5_sumOfWaits, cX5_sumOfWaits, 3, (some .int), { frames := 1, cells := 0, slots := 0, locals := 21 })
abbrev mX5_splits : gM := (yX5_splits, cX5_splits, 3, (some .int), { frames := 0, cells := 0, slots := 0, locals := 0 })
abbrev mX5_idleSlots : gM := (yX5_idleSlots, cX5_idleSlots, 3, (some .int), { frames := 0, cells := 0, slots := 0, locals := 0 })
abbrev mX5_bestSlot : gM := (yX5_bestSlot, cX5_bestSlot, 5, (some .int), { frames := 1, cells := 0, slots := 0, locals := 20 })
abbrev mX5_fairest : gM := (yX5_fairest, cX5_fairest, 4, (some .int), { frames := 2, cells := 0, slots := 0, locals := 47 })
abbrev mX5_meets : gM := (yX5_meets, cX5_meets, 4, (some .int), { frames := 0, cells := 0, slots := 0, locals := 0 })
abbrev mX5_starved : gM := (yX5_starved, cX5_starved, 4, (some .int), { frames := 1, cells := 0, slots := 0, locals := 23 })
abbrev mX5_hasSomething : gM := (yX5_hasSomething, cX5_hasSomething, 4, (some .boolean), { frames := 0, cells := 0, slots := 0, locals := 0 })
abbrev mX5_alikeInputs : gM := (yX5_alikeInputs, cX5_alikeInputs, 4, (some .int), { frames := 1, cells := 0, slots := 0, locals := 23 })
abbrev mX5_areAlike : gM := (yX5_areAlike, cX5_areAlike, 4, (some .boolean), { frames := 0, cells := 0, slots := 0, locals := 0 })
abbrev mX5_turns : gM := (yX5_turns, cX5_turns, 6, (some .int), { frames := 1, cells := 0, slots := 0, locals := 21 })
abbrev mX6_note : gM := (yX6_note, cX6_note, 4, none, { frames := 0, cells := 0, slots := 0, locals := 0 })
abbrev mX6_inputOf : gM := (yX6_inputOf, cX6_inputOf, 2, (some .int), { frames := 0, cells := 0, slots := 0, locals := 0 })
abbrev mX6_wereMatched : gM := (yX6_wereMatched, cX6_wereMatched, 4, (some .boolean), { frames := 1, cells := 0, slots := 0, locals := 21 })
abbrev mX7_read : gM := (yX7_read, cX7_read, 6, none, { frames := 7, cells := 0, slots := 0, locals := 195 })
abbrev mX7_readLine : gM := (yX7_readLine, cX7_readLine, 4, (some .boolean), { frames := 6, cells := 0, slots := 0, locals := 172 })
abbrev mX7_takeNumber : gM := (yX7_takeNumber, cX7_takeNumber, 4, none, { frames := 1, cells := 0, slots := 0, locals := 21 })
abbrev mX7_keepLine : gM := (yX7_keepLine, cX7_keepLine, 4, none, { frames := 1, cells := 0, slots := 0, locals := 34 })
abbrev mX7_limitOf : gM := (yX7_limitOf, cX7_limitOf, 1, (some .int), { frames := 0, cells := 0, slots := 0, locals := 0 })
abbrev mX7_noTextGoesOn : gM := (yX7_noTextGoesOn, cX7_noTextGoesOn, 1, (some .boolean), { frames := 0, cells := 0, slots := 0, locals := 0 })
abbrev mX7_noteFault : gM := (yX7_noteFault, cX7_noteFault, 2, none, { frames := 0, cells := 0, slots := 0, locals := 0 })
abbrev mX7_wordHere : gM := (yX7_wordHere, cX7_wordHere, 3, (some .int), { frames := 5, cells := 0, slots := 0, locals := 150 })
abbrev mX7_isHere : gM := (yX7_isHere, cX7_isHere, 3, (some .boolean), { frames := 4, cells := 0, slots := 0, locals := 128 })
abbrev mX7_letters : gM := (yX7_letters, cX7_letters, 1, (some (.object "java/lang/String")), { frames := 0, cells := 0, slots := 0, locals := 0 })
abbrev mX7_nextToken : gM := (yX7_nextToken, cX7_nextToken, 1, none, { frames := 2, cells := 0, slots := 0, locals := 40 })
abbrev mX7_takeWord : gM := (yX7_takeWord, cX7_takeWord, 1, none, { frames := 1, cells := 0, slots := 0, locals := 20 })
abbrev mX7_takeDigits : gM := (yX7_takeDigits, cX7_takeDigits, 1, none, { frames := 1, cells := 0, slots := 0, locals := 20 })
abbrev mX7_isLetter : gM := (yX7_isLetter, cX7_isLetter, 1, (some .boolean), { frames := 0, cells := 0, slots := 0, locals := 0 })
abbrev mX7_isDigit : gM := (yX7_isDigit, cX7_isDigit, 1, (some .boolean), { frames := 0, cells := 0, slots := 0, locals := 0 })
abbrev mX8_begin : gM := (yX8_begin, cX8_begin, 3, none, { frames := 3, cells := 0, slots := 0, locals := 69 })
abbrev mX8_begin_ : gM := (yX8_begin_, cX8_begin_, 6, none, { frames := 2, cells := 0, slots := 0, locals := 44 })
abbrev mX8_follow : gM := (yX8_follow, cX8_follow, 11, (some .int), { frames := 5, cells := 0, slots := 0, locals := 113 })
abbrev mX8_slotsOf : gM := (yX8_slotsOf, cX8_slotsOf, 2, (some .int), { frames := 0, cells := 0, slots := 0, locals := 0 })
abbrev mX8_bring : gM := (yX8_bring, cX8_bring, 5, (some .boolean), { frames := 3, cells := 0, slots := 0, locals := 76 })
abbrev mX8_takeCell : gM := (yX8_takeCell, cX8_takeCell, 6, (some .boolean), { frames := 1, cells := 0, slots := 0, locals := 26 })
abbrev mX8_takeFan : gM := (yX8_takeFan, cX8_takeFan, 5, none, { frames := 1, cells := 0, slots := 0, locals := 26 })
abbrev mX8_takeBurst : gM := (yX8_takeBurst, cX8_takeBurst, 6, none, { frames := 2, cells := 0, slots := 0, locals := 51 })
abbrev mX8_passSlot : gM := (yX8_passSlot, cX8_passSlot, 3, none, { frames := 4, cells := 0, slots := 0, locals := 91 })
abbrev mX8_inputsWithFans : gM := (yX8_inputsWithFans, cX8_inputsWithFans, 3, (some .int), { frames := 0, cells := 0, slots := 0, locals := 0 })
abbrev mX8_sendFans : gM := (yX8_sendFans, cX8_sendFans, 6, none, { frames := 2, cells := 0, slots := 0, locals := 47 })
abbrev mX8_mostApart : gM := (yX8_mostApart, cX8_mostApart, 4, (some .int), { frames := 1, cells := 0, slots := 0, locals := 24 })
abbrev mX8_areApart : gM := (yX8_areApart, cX8_areApart, 5, (some .boolean), { frames := 0, cells := 0, slots := 0, locals := 0 })
abbrev mX8_sendFan : gM := (yX8_sendFan, cX8_sendFan, 4, none, { frames := 1, cells := 0, slots := 0, locals := 21 })
abbrev mX8_endSending : gM := (yX8_endSending, cX8_endSending, 3, none, { frames := 1, cells := 0, slots := 0, locals := 23 })
abbrev mX8_sendCell : gM := (yX8_sendCell, cX8_sendCell, 4, none, { frames := 1, cells := 0, slots := 0, locals := 23 })
abbrev mX8_moveUp : gM := (yX8_moveUp, cX8_moveUp, 4, none, { frames := 0, cells := 0, slots := 0, locals := 0 })
abbrev mX8_draw : gM := (yX8_draw, cX8_draw, 6, none, { frames := 5, cells := 0, slots := 0, locals := 113 })
abbrev mX8_drawBelow : gM := (yX8_drawBelow, cX8_drawBelow, 2, (some .int), { frames := 0, cells := 0, slots := 0, locals := 0 })
abbrev mX8_tell : gM := (yX8_tell, cX8_tell, 4, (some .int), { frames := 1, cells := 0, slots := 0, locals := 21 })
abbrev mX8_tellSum : gM := (yX8_tellSum, cX8_tellSum, 2, (some .int), { frames := 0, cells := 0, slots := 0, locals := 0 })
abbrev mX8_matchNow : gM := (yX8_matchNow, cX8_matchNow, 1, none, { frames := 4, cells := 0, slots := 0, locals := 91 })
abbrev mX9_take : gM := (yX9_take, cX9_take, 7, none, { frames := 2, cells := 0, slots := 0, locals := 45 })
abbrev mX9_setNextIdeal : gM := (yX9_setNextIdeal, cX9_setNextIdeal, 4, none, { frames := 1, cells := 0, slots := 0, locals := 22 })
abbrev mX9_comesBefore : gM := (yX9_comesBefore, cX9_comesBefore, 3, (some .boolean), { frames := 0, cells := 0, slots := 0, locals := 0 })
abbrev mX9_tell : gM := (yX9_tell, cX9_tell, 5, (some .int), { frames := 4, cells := 0, slots := 0, locals := 94 })
abbrev mX9_passAll : gM := (yX9_passAll, cX9_passAll, 4, none, { frames := 3, cells := 0, slots := 0, locals := 71 })
abbrev mX9_comeAll : gM := (yX9_comeAll, cX9_comeAll, 3, none, { frames := 2, cells := 0, slots := 0, locals := 47 })
abbrev mX9_putInRow : gM := (yX9_putInRow, cX9_putInRow, 7, none, { frames := 1, cells := 0, slots := 0, locals := 21 })
abbrev mX9_matchStable : gM := (yX9_matchStable, cX9_matchStable, 4, none, { frames := 2, cells := 0, slots := 0, locals := 48 })
abbrev mX9_askNext : gM := (yX9_askNext, cX9_askNext, 4, (some .boolean), { frames := 1, cells := 0, slots := 0, locals := 25 })
abbrev mX9_leastIdeal : gM := (yX9_leastIdeal, cX9_leastIdeal, 6, (some .int), { frames := 0, cells := 0, slots := 0, locals := 0 })
abbrev mX9_isAhead : gM := (yX9_isAhead, cX9_isAhead, 6, (some .boolean), { frames := 0, cells := 0, slots := 0, locals := 0 })
abbrev mX9_takeFromRow : gM := (yX9_takeFromRow, cX9_takeFromRow, 6, none, { frames := 0, cells := 0, slots := 0, locals := 0 })
abbrev mX9_sendAll : gM := (yX9_sendAll, cX9_sendAll, 5, (some .int), { frames := 1, cells := 0, slots := 0, locals := 25 })
abbrev mX10_put : gM := (yX10_put, cX10_put, 3, none, { frames := 0, cells := 0, slots := 0, locals := 0 })
abbrev mX10_has : gM := (yX10_has, cX10_has, 3, (some .boolean), { frames := 0, cells := 0, slots := 0, locals := 0 })
abbrev mX10_hasRoom : gM := (yX10_hasRoom, cX10_hasRoom, 3, (some .boolean), { frames := 1, cells := 0, slots := 0, locals := 22 })
abbrev mX10_bar : gM := (yX10_bar, cX10_bar, 3, (some .int), { frames := 0, cells := 0, slots := 0, locals := 0 })
abbrev mX10_placeOf : gM := (yX10_placeOf, cX10_placeOf, 2, (some .int), { frames := 0, cells := 0, slots := 0, locals := 0 })
abbrev mX10_lineCount : gM := (yX10_lineCount, cX10_lineCount, 3, (some .int), { frames := 1, cells := 0, slots := 0, locals := 21 })
abbrev mX10_line : gM := (yX10_line, cX10_line, 5, (some .int), { frames := 1, cells := 0, slots := 0, locals := 21 })
abbrev mX10_keep : gM := (yX10_keep, cX10_keep, 7, (some .int), { frames := 1, cells := 0, slots := 0, locals := 34 })
abbrev mX10_copy : gM := (yX10_copy, cX10_copy, 2, none, { frames := 1, cells := 0, slots := 0, locals := 34 })
abbrev mX11_feed : gM := (yX11_feed, cX11_feed, 6, (some .int), { frames := 1, cells := 0, slots := 0, locals := 22 })
abbrev mX11_end : gM := (yX11_end, cX11_end, 2, (some .int), { frames := 0, cells := 0, slots := 0, locals := 0 })
abbrev mX11_text : gM := (yX11_text, cX11_text, 4, (some .int), { frames := 8, cells := 0, slots := 0, locals := 220 })
abbrev mX11_fault : gM := (yX11_fault, cX11_fault, 2, (some .int), { frames := 0, cells := 0, slots := 0, locals := 0 })
abbrev mX11_crossbar : gM := (yX11_crossbar, cX11_crossbar, 3, (some .int), { frames := 1, cells := 0, slots := 0, locals := 22 })
abbrev mX11_deed : gM := (yX11_deed, cX11_deed, 4, (some .int), { frames := 3, cells := 0, slots := 0, locals := 71 })
abbrev mX11_stop : gM := (yX11_stop, cX11_stop, 3, (some .int), { frames := 6, cells := 0, slots := 0, locals := 143 })
abbrev mX11_state : gM := (yX11_state, cX11_state, 5, (some .int), { frames := 7, cells := 0, slots := 0, locals := 166 })
abbrev mX11_cell : gM := (yX11_cell, cX11_cell, 5, (some .int), { frames := 6, cells := 0, slots := 0, locals := 143 })
abbrev mX11_full : gM := (yX11_full, cX11_full, 4, (some .int), { frames := 6, cells := 0, slots := 0, locals := 136 })
abbrev mX11_rhythm : gM := (yX11_rhythm, cX11_rhythm, 3, (some .int), { frames := 7, cells := 0, slots := 0, locals := 156 })
abbrev mX11_judge : gM := (yX11_judge, cX11_judge, 5, (some .int), { frames := 7, cells := 0, slots := 0, locals := 166 })
abbrev mX11_mimic : gM := (yX11_mimic, cX11_mimic, 5, (some .int), { frames := 6, cells := 0, slots := 0, locals := 143 })
abbrev mX11_flow : gM := (yX11_flow, cX11_flow, 5, (some .int), { frames := 6, cells := 0, slots := 0, locals := 143 })
abbrev mX11_after : gM := (yX11_after, cX11_after, 4, (some .int), { frames := 6, cells := 0, slots := 0, locals := 143 })
abbrev mX11_fact : gM := (yX11_fact, cX11_fact, 4, (some .int), { frames := 3, cells := 0, slots := 0, locals := 71 })
abbrev mX11_fits : gM := (yX11_fits, cX11_fits, 7, (some .int), { frames := 6, cells := 0, slots := 0, locals := 143 })
abbrev mX11_drawn : gM := (yX11_drawn, cX11_drawn, 5, (some .int), { frames := 6, cells := 0, slots := 0, locals := 138 })
abbrev mX11_count : gM := (yX11_count, cX11_count, 2, (some .int), { frames := 0, cells := 0, slots := 0, locals := 0 })
abbrev mX11_image : gM := (yX11_image, cX11_image, 2, (some .boolean), { frames := 2, cells := 0, slots := 0, locals := 55 })
abbrev mX11_again : gM := (yX11_again, cX11_again, 2, (some .boolean), { frames := 2, cells := 0, slots := 0, locals := 55 })
abbrev mX11_begins : gM := (yX11_begins, cX11_begins, 3, (some .boolean), { frames := 4, cells := 0, slots := 0, locals := 91 })
abbrev mX11_reaches : gM := (yX11_reaches, cX11_reaches, 4, (some .boolean), { frames := 6, cells := 0, slots := 0, locals := 143 })
abbrev mX11_tellLine : gM := (yX11_tellLine, cX11_tellLine, 7, (some .int), { frames := 2, cells := 0, slots := 0, locals := 45 })
abbrev mX11_firstFrom : gM := (yX11_firstFrom, cX11_firstFrom, 5, (some .int), { frames := 0, cells := 0, slots := 0, locals := 0 })
abbrev mX11_holds : gM := (yX11_holds, cX11_holds, 2, (some .boolean), { frames := 0, cells := 0, slots := 0, locals := 0 })
abbrev mX11_next : gM := (yX11_next, cX11_next, 2, (some .int), { frames := 0, cells := 0, slots := 0, locals := 0 })
abbrev mX12_isIn : gM := (yX12_isIn, cX12_isIn, 3, (some .boolean), { frames := 0, cells := 0, slots := 0, locals := 0 })
abbrev mX12_feed : gM := (yX12_feed, cX12_feed, 8, (some .int), { frames := 0, cells := 0, slots := 0, locals := 0 })
abbrev mX12_end : gM := (yX12_end, cX12_end, 2, (some .int), { frames := 0, cells := 0, slots := 0, locals := 0 })
abbrev mX12_byteAt : gM := (yX12_byteAt, cX12_byteAt, 2, (some .int), { frames := 0, cells := 0, slots := 0, locals := 0 })
abbrev mX12_isLetter : gM := (yX12_isLetter, cX12_isLetter, 1, (some .boolean), { frames := 0, cells := 0, slots := 0, locals := 0 })
abbrev mX12_isDigit : gM := (yX12_isDigit, cX12_isDigit, 1, (some .boolean), { frames := 0, cells := 0, slots := 0, locals := 0 })
abbrev mX12_four : gM := (yX12_four, cX12_four, 4, (some .long), { frames := 0, cells := 0, slots := 0, locals := 0 })
abbrev mX12_eight : gM := (yX12_eight, cX12_eight, 8, (some .long), { frames := 1, cells := 0, slots := 0, locals := 23 })
abbrev mX12_wordOf : gM := (yX12_wordOf, cX12_wordOf, 2, (some .int), { frames := 2, cells := 0, slots := 0, locals := 50 })
abbrev mX12_advance : gM := (yX12_advance, cX12_advance, 4, none, { frames := 3, cells := 0, slots := 0, locals := 71 })
abbrev mX12_ends : gM := (yX12_ends, cX12_ends, 1, none, { frames := 0, cells := 0, slots := 0, locals := 0 })
abbrev mX12_also : gM := (yX12_also, cX12_also, 3, none, { frames := 0, cells := 0, slots := 0, locals := 0 })
abbrev mX12_numbered : gM := (yX12_numbered, cX12_numbered, 4, (some .int), { frames := 4, cells := 0, slots := 0, locals := 94 })
abbrev mX12_wordIn : gM := (yX12_wordIn, cX12_wordIn, 4, (some .int), { frames := 4, cells := 0, slots := 0, locals := 94 })
abbrev mX12_endsLine : gM := (yX12_endsLine, cX12_endsLine, 1, none, { frames := 4, cells := 0, slots := 0, locals := 94 })
abbrev mX12_crossbarLine : gM := (yX12_crossbarLine, cX12_crossbarLine, 2, none, { frames := 5, cells := 0, slots := 0, locals := 117 })
abbrev mX12_trafficLine : gM := (yX12_trafficLine, cX12_trafficLine, 6, none, { frames := 5, cells := 0, slots := 0, locals := 117 })
abbrev mX12_logLine : gM := (yX12_logLine, cX12_logLine, 7, none, { frames := 5, cells := 0, slots := 0, locals := 117 })
abbrev mX12_placeOf : gM := (yX12_placeOf, cX12_placeOf, 2, (some .int), { frames := 0, cells := 0, slots := 0, locals := 0 })
abbrev mX12_sizeOf : gM := (yX12_sizeOf, cX12_sizeOf, 1, (some .int), { frames := 0, cells := 0, slots := 0, locals := 0 })
abbrev mX12_isOf : gM := (yX12_isOf, cX12_isOf, 3, (some .boolean), { frames := 1, cells := 0, slots := 0, locals := 22 })
abbrev mX12_text : gM := (yX12_text, cX12_text, 5, (some .int), { frames := 6, cells := 0, slots := 0, locals := 143 })
abbrev mX12_fault : gM := (yX12_fault, cX12_fault, 2, (some .int), { frames := 0, cells := 0, slots := 0, locals := 0 })
abbrev mX12_isCrossbar : gM := (yX12_isCrossbar, cX12_isCrossbar, 3, (some .boolean), { frames := 2, cells := 0, slots := 0, locals := 44 })
abbrev mX12_isPort : gM := (yX12_isPort, cX12_isPort, 2, (some .boolean), { frames := 1, cells := 0, slots := 0, locals := 22 })
abbrev mX12_crossbar : gM := (yX12_crossbar, cX12_crossbar, 3, (some .int), { frames := 2, cells := 0, slots := 0, locals := 44 })
abbrev mX12_isTraffic : gM := (yX12_isTraffic, cX12_isTraffic, 2, (some .boolean), { frames := 2, cells := 0, slots := 0, locals := 44 })
abbrev mX12_deed : gM := (yX12_deed, cX12_deed, 4, (some .int), { frames := 3, cells := 0, slots := 0, locals := 65 })
abbrev mX12_bitsOf : gM := (yX12_bitsOf, cX12_bitsOf, 3, (some .int), { frames := 0, cells := 0, slots := 0, locals := 0 })
abbrev mX12_begins : gM := (yX12_begins, cX12_begins, 2, none, { frames := 0, cells := 0, slots := 0, locals := 0 })
abbrev mX12_at : gM := (yX12_at, cX12_at, 2, (some .int), { frames := 0, cells := 0, slots := 0, locals := 0 })
abbrev mX12_comes : gM := (yX12_comes, cX12_comes, 6, (some .int), { frames := 0, cells := 0, slots := 0, locals := 0 })
abbrev mX12_loses : gM := (yX12_loses, cX12_loses, 2, (some .boolean), { frames := 0, cells := 0, slots := 0, locals := 0 })
abbrev mX12_cellComes : gM := (yX12_cellComes, cX12_cellComes, 5, (some .boolean), { frames := 1, cells := 0, slots := 0, locals := 25 })
abbrev mX12_fanComes : gM := (yX12_fanComes, cX12_fanComes, 4, none, { frames := 1, cells := 0, slots := 0, locals := 25 })
abbrev mX12_bursts : gM := (yX12_bursts, cX12_bursts, 6, none, { frames := 2, cells := 0, slots := 0, locals := 49 })
abbrev mX12_headOf : gM := (yX12_headOf, cX12_headOf, 2, (some .int), { frames := 0, cells := 0, slots := 0, locals := 0 })
abbrev mX12_leftOf : gM := (yX12_leftOf, cX12_leftOf, 2, (some .int), { frames := 0, cells := 0, slots := 0, locals := 0 })
abbrev mX12_servedSet : gM := (yX12_servedSet, cX12_servedSet, 6, (some .int), { frames := 1, cells := 0, slots := 0, locals := 22 })
abbrev mX12_sendsFans : gM := (yX12_sendsFans, cX12_sendsFans, 5, none, { frames := 2, cells := 0, slots := 0, locals := 47 })
abbrev mX12_asks : gM := (yX12_asks, cX12_asks, 4, (some .boolean), { frames := 1, cells := 0, slots := 0, locals := 21 })
abbrev mX12_round : gM := (yX12_round, cX12_round, 7, none, { frames := 2, cells := 0, slots := 0, locals := 44 })
abbrev mX12_matches : gM := (yX12_matches, cX12_matches, 4, none, { frames := 3, cells := 0, slots := 0, locals := 70 })
abbrev mX12_goesSlot : gM := (yX12_goesSlot, cX12_goesSlot, 4, none, { frames := 4, cells := 0, slots := 0, locals := 93 })
abbrev mX12_can : gM := (yX12_can, cX12_can, 4, (some .boolean), { frames := 2, cells := 0, slots := 0, locals := 43 })
abbrev mX12_does : gM := (yX12_does, cX12_does, 5, none, { frames := 5, cells := 0, slots := 0, locals := 116 })
abbrev mX12_goes : gM := (yX12_goes, cX12_goes, 3, none, { frames := 6, cells := 0, slots := 0, locals := 140 })
abbrev mX12_stop : gM := (yX12_stop, cX12_stop, 3, (some .int), { frames := 7, cells := 0, slots := 0, locals := 162 })
abbrev mX12_nowOf : gM := (yX12_nowOf, cX12_nowOf, 3, (some .int), { frames := 2, cells := 0, slots := 0, locals := 43 })
abbrev mX12_isState : gM := (yX12_isState, cX12_isState, 4, (some .boolean), { frames := 7, cells := 0, slots := 0, locals := 162 })
abbrev mX12_state : gM := (yX12_state, cX12_state, 5, (some .int), { frames := 8, cells := 0, slots := 0, locals := 185 })
abbrev mX12_cell : gM := (yX12_cell, cX12_cell, 5, (some .int), { frames := 7, cells := 0, slots := 0, locals := 162 })
abbrev mX12_matchedNow : gM := (yX12_matchedNow, cX12_matchedNow, 3, (some .int), { frames := 0, cells := 0, slots := 0, locals := 0 })
abbrev mX12_loads : gM := (yX12_loads, cX12_loads, 1, none, { frames := 4, cells := 0, slots := 0, locals := 93 })
abbrev mX12_full : gM := (yX12_full, cX12_full, 5, (some .int), { frames := 5, cells := 0, slots := 0, locals := 113 })
abbrev mX12_keepsPointers : gM := (yX12_keepsPointers, cX12_keepsPointers, 3, none, { frames := 0, cells := 0, slots := 0, locals := 0 })
abbrev mX12_likeOf : gM := (yX12_likeOf, cX12_likeOf, 5, (some .int), { frames := 0, cells := 0, slots := 0, locals := 0 })
abbrev mX12_rhythm : gM := (yX12_rhythm, cX12_rhythm, 7, (some .int), { frames := 5, cells := 0, slots := 0, locals := 113 })
abbrev mX12_worth : gM := (yX12_worth, cX12_worth, 4, (some .int), { frames := 1, cells := 0, slots := 0, locals := 21 })
abbrev mX12_judges : gM := (yX12_judges, cX12_judges, 7, none, { frames := 2, cells := 0, slots := 0, locals := 44 })
abbrev mX12_rowOf : gM := (yX12_rowOf, cX12_rowOf, 7, (some .int), { frames := 2, cells := 0, slots := 0, locals := 44 })
abbrev mX12_tries : gM := (yX12_tries, cX12_tries, 3, none, { frames := 4, cells := 0, slots := 0, locals := 93 })
abbrev mX12_needOf : gM := (yX12_needOf, cX12_needOf, 5, (some .int), { frames := 5, cells := 0, slots := 0, locals := 115 })
abbrev mX12_judge : gM := (yX12_judge, cX12_judge, 7, (some .int), { frames := 8, cells := 0, slots := 0, locals := 185 })
abbrev mX12_outputOf : gM := (yX12_outputOf, cX12_outputOf, 2, (some .int), { frames := 0, cells := 0, slots := 0, locals := 0 })
abbrev mX12_shadows : gM := (yX12_shadows, cX12_shadows, 4, none, { frames := 1, cells := 0, slots := 0, locals := 23 })
abbrev mX12_firstOf : gM := (yX12_firstOf, cX12_firstOf, 4, (some .int), { frames := 0, cells := 0, slots := 0, locals := 0 })
abbrev mX12_putsIn : gM := (yX12_putsIn, cX12_putsIn, 6, none, { frames := 0, cells := 0, slots := 0, locals := 0 })
abbrev mX12_placeIn : gM := (yX12_placeIn, cX12_placeIn, 3, (some .int), { frames := 0, cells := 0, slots := 0, locals := 0 })
abbrev mX12_nextAsk : gM := (yX12_nextAsk, cX12_nextAsk, 4, (some .int), { frames := 0, cells := 0, slots := 0, locals := 0 })
abbrev mX12_isKept : gM := (yX12_isKept, cX12_isKept, 4, (some .boolean), { frames := 0, cells := 0, slots := 0, locals := 0 })
abbrev mX12_stable : gM := (yX12_stable, cX12_stable, 5, none, { frames := 1, cells := 0, slots := 0, locals := 23 })
abbrev mX12_sendsLeast : gM := (yX12_sendsLeast, cX12_sendsLeast, 6, (some .int), { frames := 0, cells := 0, slots := 0, locals := 0 })
abbrev mX12_mimics : gM := (yX12_mimics, cX12_mimics, 5, none, { frames := 2, cells := 0, slots := 0, locals := 47 })
abbrev mX12_mimic : gM := (yX12_mimic, cX12_mimic, 7, (some .int), { frames := 7, cells := 0, slots := 0, locals := 162 })
abbrev mX12_laysFlows : gM := (yX12_laysFlows, cX12_laysFlows, 4, none, { frames := 0, cells := 0, slots := 0, locals := 0 })
abbrev mX12_flow : gM := (yX12_flow, cX12_flow, 5, (some .int), { frames := 7, cells := 0, slots := 0, locals := 162 })
abbrev mX12_fairOf : gM := (yX12_fairOf, cX12_fairOf, 3, (some .int), { frames := 1, cells := 0, slots := 0, locals := 23 })
abbrev mX12_waitOf : gM := (yX12_waitOf, cX12_waitOf, 2, (some .int), { frames := 0, cells := 0, slots := 0, locals := 0 })
abbrev mX12_worstOf : gM := (yX12_worstOf, cX12_worstOf, 3, (some .int), { frames := 1, cells := 0, slots := 0, locals := 21 })
abbrev mX12_sumOf : gM := (yX12_sumOf, cX12_sumOf, 3, (some .int), { frames := 1, cells := 0, slots := 0, locals := 21 })
abbrev mX12_splitsOf : gM := (yX12_splitsOf, cX12_splitsOf, 3, (some .int), { frames := 0, cells := 0, slots := 0, locals := 0 })
abbrev mX12_takenIn : gM := (yX12_takenIn, cX12_takenIn, 4, (some .int), { frames := 0, cells := 0, slots := 0, locals := 0 })
abbrev mX12_idleOf : gM := (yX12_idleOf, cX12_idleOf, 3, (some .int), { frames := 1, cells := 0, slots := 0, locals := 23 })
abbrev mX12_bestOf : gM := (yX12_bestOf, cX12_bestOf, 3, (some .int), { frames := 1, cells := 0, slots := 0, locals := 23 })
abbrev mX12_meetsOf : gM := (yX12_meetsOf, cX12_meetsOf, 7, (some .int), { frames := 0, cells := 0, slots := 0, locals := 0 })
abbrev mX12_starvedOf : gM := (yX12_starvedOf, cX12_starvedOf, 6, (some .int), { frames := 1, cells := 0, slots := 0, locals := 21 })
abbrev mX12_sameOf : gM := (yX12_sameOf, cX12_sameOf, 6, (some .int), { frames := 1, cells := 0, slots := 0, locals := 21 })
abbrev mX12_turnsOf : gM := (yX12_turnsOf, cX12_turnsOf, 6, (some .int), { frames := 0, cells := 0, slots := 0, locals := 0 })
abbrev mX12_after : gM := (yX12_after, cX12_after, 4, (some .int), { frames := 7, cells := 0, slots := 0, locals := 162 })
abbrev mX12_isLog : gM := (yX12_isLog, cX12_isLog, 2, (some .boolean), { frames := 2, cells := 0, slots := 0, locals := 44 })
abbrev mX12_fact : gM := (yX12_fact, cX12_fact, 4, (some .int), { frames := 3, cells := 0, slots := 0, locals := 65 })
abbrev mX12_factsAreSo : gM := (yX12_factsAreSo, cX12_factsAreSo, 4, (some .boolean), { frames := 2, cells := 0, slots := 0, locals := 43 })
abbrev mX12_laysFits : gM := (yX12_laysFits, cX12_laysFits, 4, none, { frames := 7, cells := 0, slots := 0, locals := 162 })
abbrev mX12_sureOf : gM := (yX12_sureOf, cX12_sureOf, 5, (some .int), { frames := 0, cells := 0, slots := 0, locals := 0 })
abbrev mX12_askOf : gM := (yX12_askOf, cX12_askOf, 8, (some .int), { frames := 0, cells := 0, slots := 0, locals := 0 })
abbrev mX12_fits : gM := (yX12_fits, cX12_fits, 5, (some .int), { frames := 8, cells := 0, slots := 0, locals := 185 })
abbrev mX12_below : gM := (yX12_below, cX12_below, 2, (some .int), { frames := 0, cells := 0, slots := 0, locals := 0 })
abbrev mX12_draws : gM := (yX12_draws, cX12_draws, 5, none, { frames := 6, cells := 0, slots := 0, locals := 140 })
abbrev mX12_drawn : gM := (yX12_drawn, cX12_drawn, 6, (some .int), { frames := 7, cells := 0, slots := 0, locals := 164 })
abbrev mX12_count : gM := (yX12_count, cX12_count, 2, (some .int), { frames := 1, cells := 0, slots := 0, locals := 22 })
abbrev mX12_image : gM := (yX12_image, cX12_image, 3, (some .boolean), { frames := 1, cells := 0, slots := 0, locals := 22 })
abbrev mX12_again : gM := (yX12_again, cX12_again, 3, (some .boolean), { frames := 1, cells := 0, slots := 0, locals := 22 })
abbrev mJ6_bitCount_0f7a4 : gM := (yJ6_bitCount_0f7a4, cJ6_bitCount_0f7a4, 1, (some .int), { frames := 0, cells := 0, slots := 0, locals := 0 })
set_option maxRecDepth 100000 in
theorem fX0_9 : gFld RX0 9 0 1 := ⟨RX0, TX0, 8, rfl, by decide, gin_X0, gT_of 257 rfl rfl, rfl⟩
set_option maxRecDepth 100000 in
theorem fX0_15 : gFld RX0 15 0 2 := ⟨RX0, TX0, 8, rfl, by decide, gin_X0, gT_of 258 rfl rfl, rfl⟩
set_option maxRecDepth 100000 in
theorem fX0_18 : gFld RX0 18 0 3 := ⟨RX0, TX0, 8, rfl, by decide, gin_X0, gT_of 260 rfl rfl, rfl⟩
set_option maxRecDepth 100000 in
theorem fX0_22 : gFld RX0 22 0 4 := ⟨RX0, TX0, 8, rfl, by decide, gin_X0, gT_of 261 rfl rfl, rfl⟩
set_option maxRecDepth 100000 in
theorem fX0_25 : gFld RX0 25 0 5 := ⟨RX0, TX0, 8, rfl, by decide, gin_X0, gT_of 262 rfl rfl, rfl⟩
set_option maxRecDepth 100000 in
theorem fX0_28 : gFld RX0 28 0 6 := ⟨RX0, TX0, 8, rfl, by decide, gin_X0, gT_of 265 rfl rfl, rfl⟩
set_option maxRecDepth 100000 in
theorem fX0_31 : gFld RX0 31 0 7 := ⟨RX0, TX0, 8, rfl, by decide, gin_X0, gT_of 266 rfl rfl, rfl⟩
set_option maxRecDepth 100000 in
theorem fX0_34 : gFld RX0 34 0 0 := ⟨RX0, TX0, 8, rfl, by decide, gin_X0, gT_of 254 rfl rfl, rfl⟩
set_option maxRecDepth 100000 in
theorem fX1_9 : gFld RX1 9 1 3 := ⟨RX1, TX1, 6, rfl, by decide, gin_X1, gT_of 541 rfl rfl, rfl⟩
set_option maxRecDepth 100000 in
theorem fX1_15 : gFld RX1 15 1 4 := ⟨RX1, TX1, 6, rfl, by decide, gin_X1, gT_of 542 rfl rfl, rfl⟩
set_option maxRecDepth 100000 in
theorem fX1_18 : gFld RX1 18 1 5 := ⟨RX1, TX1, 6, rfl, by decide, gin_X1, gT_of 543 rfl rfl, rfl⟩
set_option maxRecDepth 100000 in
theorem fX1_21 : gFld RX1 21 1 1 := ⟨RX1, TX1, 6, rfl, by decide, gin_X1, gT_of 539 rfl rfl, rfl⟩
set_option maxRecDepth 100000 in
theorem fX1_25 : gFld RX1 25 1 2 := ⟨RX1, TX1, 6, rfl, by decide, gin_X1, gT_of 540 rfl rfl, rfl⟩
set_option maxRecDepth 100000 in
theorem fX1_28 : gFld RX1 28 1 0 := ⟨RX1, TX1, 6, rfl, by decide, gin_X1, gT_of 537 rfl rfl, rfl⟩
set_option maxRecDepth 100000 in
theorem fX1_35 : gFld RX1 35 6 0 := ⟨RX6, TX6, 4, rfl, by decide, gin_X6, gT_of 294 rfl rfl, rfl⟩
set_option maxRecDepth 100000 in
theorem fX1_38 : gFld RX1 38 6 1 := ⟨RX6, TX6, 4, rfl, by decide, gin_X6, gT_of 298 rfl rfl, rfl⟩
set_option maxRecDepth 100000 in
theorem fX10_9 : gFld RX10 9 10 0 := ⟨RX10, TX10, 8, rfl, by decide, gin_X10, gT_of 160 rfl rfl, rfl⟩
set_option maxRecDepth 100000 in
theorem fX10_15 : gFld RX10 15 10 1 := ⟨RX10, TX10, 8, rfl, by decide, gin_X10, gT_of 162 rfl rfl, rfl⟩
set_option maxRecDepth 100000 in
theorem fX10_19 : gFld RX10 19 10 2 := ⟨RX10, TX10, 8, rfl, by decide, gin_X10, gT_of 164 rfl rfl, rfl⟩
set_option maxRecDepth 100000 in
theorem fX10_22 : gFld RX10 22 10 3 := ⟨RX10, TX10, 8, rfl, by decide, gin_X10, gT_of 166 rfl rfl, rfl⟩
set_option maxRecDepth 100000 in
theorem fX10_25 : gFld RX10 25 10 4 := ⟨RX10, TX10, 8, rfl, by decide, gin_X10, gT_of 168 rfl rfl, rfl⟩
set_option maxRecDepth 100000 in
theorem fX10_29 : gFld RX10 29 10 5 := ⟨RX10, TX10, 8, rfl, by decide, gin_X10, gT_of 170 rfl rfl, rfl⟩
set_option maxRecDepth 100000 in
theorem fX10_32 : gFld RX10 32 10 6 := ⟨RX10, TX10, 8, rfl, by decide, gin_X10, gT_of 171 rfl rfl, rfl⟩
set_option maxRecDepth 100000 in
theorem fX10_35 : gFld RX10 35 10 7 := ⟨RX10, TX10, 8, rfl, by decide, gin_X10, gT_of 172 rfl rfl, rfl⟩
set_option maxRecDepth 100000 in
theorem fX10_46 : gFld RX10 46 7 0 := ⟨RX7, TX7, 12, rfl, by decide, gin_X7, gT_of 200 rfl rfl, rfl⟩
set_option maxRecDepth 100000 in
theorem fX10_57 : gFld RX10 57 7 1 := ⟨RX7, TX7, 12, rfl, by decide, gin_X7, gT_of 202 rfl rfl, rfl⟩
set_option maxRecDepth 100000 in
theorem fX10_58 : gFld RX10 58 7 2 := ⟨RX7, TX7, 12, rfl, by decide, gin_X7, gT_of 204 rfl rfl, rfl⟩
set_option maxRecDepth 100000 in
theorem fX11_12 : gFld RX11 12 11 0 := ⟨RX11, TX11, 10, rfl, by decide, gin_X11, gT_of 557 rfl rfl, rfl⟩
set_option maxRecDepth 100000 in
theorem fX11_16 : gFld RX11 16 11 1 := ⟨RX11, TX11, 10, rfl, by decide, gin_X11, gT_of 558 rfl rfl, rfl⟩
set_option maxRecDepth 100000 in
theorem fX11_20 : gFld RX11 20 11 2 := ⟨RX11, TX11, 10, rfl, by decide, gin_X11, gT_of 559 rfl rfl, rfl⟩
set_option maxRecDepth 100000 in
theorem fX11_27 : gFld RX11 27 11 3 := ⟨RX11, TX11, 10, rfl, by decide, gin_X11, gT_of 560 rfl rfl, rfl⟩
set_option maxRecDepth 100000 in
theorem fX11_34 : gFld RX11 34 11 4 := ⟨RX11, TX11, 10, rfl, by decide, gin_X11, gT_of 561 rfl rfl, rfl⟩
set_option maxRecDepth 100000 in
theorem fX11_41 : gFld RX11 41 11 5 := ⟨RX11, TX11, 10, rfl, by decide, gin_X11, gT_of 562 rfl rfl, rfl⟩
set_option maxRecDepth 100000 in
theorem fX11_48 : gFld RX11 48 11 6 := ⟨RX11, TX11, 10, rfl, by decide, gin_X11, gT_of 563 rfl rfl, rfl⟩
set_option maxRecDepth 100000 in
theorem fX11_55 : gFld RX11 55 11 7 := ⟨RX11, TX11, 10, rfl, by decide, gin_X11, gT_of 564 rfl rfl, rfl⟩
set_option maxRecDepth 100000 in
theorem fX11_62 : gFld RX11 62 11 8 := ⟨RX11, TX11, 10, rfl, by decide, gin_X11, gT_of 565 rfl rfl, rfl⟩
set_option maxRecDepth 100000 in
theorem fX11_69 : gFld RX11 69 11 9 := ⟨RX11, TX11, 10, rfl, by decide, gin_X11, gT_of 566 rfl rfl, rfl⟩
set_option maxRecDepth 100000 in
theorem fX11_73 : gFld RX11 73 10 1 := ⟨RX10, TX10, 8, rfl, by decide, gin_X10, gT_of 163 rfl rfl, rfl⟩
set_option maxRecDepth 100000 in
theorem fX11_81 : gFld RX11 81 10 2 := ⟨RX10, TX10, 8, rfl, by decide, gin_X10, gT_of 165 rfl rfl, rfl⟩
set_option maxRecDepth 100000 in
theorem fX11_84 : gFld RX11 84 10 3 := ⟨RX10, TX10, 8, rfl, by decide, gin_X10, gT_of 167 rfl rfl, rfl⟩
set_option maxRecDepth 100000 in
theorem fX11_91 : gFld RX11 91 10 0 := ⟨RX10, TX10, 8, rfl, by decide, gin_X10, gT_of 161 rfl rfl, rfl⟩
set_option maxRecDepth 100000 in
theorem fX11_99 : gFld RX11 99 7 3 := ⟨RX7, TX7, 12, rfl, by decide, gin_X7, gT_of 206 rfl rfl, rfl⟩
set_option maxRecDepth 100000 in
theorem fX11_100 : gFld RX11 100 7 4 := ⟨RX7, TX7, 12, rfl, by decide, gin_X7, gT_of 208 rfl rfl, rfl⟩
set_option maxRecDepth 100000 in
theorem fX11_131 : gFld RX11 131 8 0 := ⟨RX8, TX8, 19, rfl, by decide, gin_X8, gT_of 364 rfl rfl, rfl⟩
set_option maxRecDepth 100000 in
theorem fX11_153 : gFld RX11 153 9 0 := ⟨RX9, TX9, 12, rfl, by decide, gin_X9, gT_of 478 rfl rfl, rfl⟩
set_option maxRecDepth 100000 in
theorem fX11_169 : gFld RX11 169 1 0 := ⟨RX1, TX1, 6, rfl, by decide, gin_X1, gT_of 538 rfl rfl, rfl⟩
set_option maxRecDepth 100000 in
theorem fX11_175 : gFld RX11 175 8 1 := ⟨RX8, TX8, 19, rfl, by decide, gin_X8, gT_of 367 rfl rfl, rfl⟩
set_option maxRecDepth 100000 in
theorem fX11_191 : gFld RX11 191 10 4 := ⟨RX10, TX10, 8, rfl, by decide, gin_X10, gT_of 169 rfl rfl, rfl⟩
set_option maxRecDepth 100000 in
theorem fX12_7 : gFld RX12 7 12 0 := ⟨RX12, TX12, 69, rfl, by decide, gin_X12, gT_of 1238 rfl rfl, rfl⟩
set_option maxRecDepth 100000 in
theorem fX12_13 : gFld RX12 13 12 1 := ⟨RX12, TX12, 69, rfl, by decide, gin_X12, gT_of 1239 rfl rfl, rfl⟩
set_option maxRecDepth 100000 in
theorem fX12_17 : gFld RX12 17 12 9 := ⟨RX12, TX12, 69, rfl, by decide, gin_X12, gT_of 1247 rfl rfl, rfl⟩
set_option maxRecDepth 100000 in
theorem fX12_20 : gFld RX12 20 12 15 := ⟨RX12, TX12, 69, rfl, by decide, gin_X12, gT_of 1253 rfl rfl, rfl⟩
set_option maxRecDepth 100000 in
theorem fX12_23 : gFld RX12 23 12 16 := ⟨RX12, TX12, 69, rfl, by decide, gin_X12, gT_of 1254 rfl rfl, rfl⟩
set_option maxRecDepth 100000 in
theorem fX12_26 : gFld RX12 26 12 17 := ⟨RX12, TX12, 69, rfl, by decide, gin_X12, gT_of 1255 rfl rfl, rfl⟩
set_option maxRecDepth 100000 in
theorem fX12_29 : gFld RX12 29 12 18 := ⟨RX12, TX12, 69, rfl, by decide, gin_X12, gT_of 1256 rfl rfl, rfl⟩
set_option maxRecDepth 100000 in
theorem fX12_32 : gFld RX12 32 12 19 := ⟨RX12, TX12, 69, rfl, by decide, gin_X12, gT_of 1257 rfl rfl, rfl⟩
set_option maxRecDepth 100000 in
theorem fX12_35 : gFld RX12 35 12 20 := ⟨RX12, TX12, 69, rfl, by decide, gin_X12, gT_of 1258 rfl rfl, rfl⟩
set_option maxRecDepth 100000 in
theorem fX12_38 : gFld RX12 38 12 21 := ⟨RX12, TX12, 69, rfl, by decide, gin_X12, gT_of 1259 rfl rfl, rfl⟩
set_option maxRecDepth 100000 in
theorem fX12_41 : gFld RX12 41 12 22 := ⟨RX12, TX12, 69, rfl, by decide, gin_X12, gT_of 1260 rfl rfl, rfl⟩
set_option maxRecDepth 100000 in
theorem fX12_44 : gFld RX12 44 12 30 := ⟨RX12, TX12, 69, rfl, by decide, gin_X12, gT_of 1268 rfl rfl, rfl⟩
set_option maxRecDepth 100000 in
theorem fX12_47 : gFld RX12 47 12 31 := ⟨RX12, TX12, 69, rfl, by decide, gin_X12, gT_of 1269 rfl rfl, rfl⟩
set_option maxRecDepth 100000 in
theorem fX12_50 : gFld RX12 50 12 32 := ⟨RX12, TX12, 69, rfl, by decide, gin_X12, gT_of 1270 rfl rfl, rfl⟩
set_option maxRecDepth 100000 in
theorem fX12_53 : gFld RX12 53 12 33 := ⟨RX12, TX12, 69, rfl, by decide, gin_X12, gT_of 1271 rfl rfl, rfl⟩
set_option maxRecDepth 100000 in
theorem fX12_56 : gFld RX12 56 12 34 := ⟨RX12, TX12, 69, rfl, by decide, gin_X12, gT_of 1272 rfl rfl, rfl⟩
set_option maxRecDepth 100000 in
theorem fX12_59 : gFld RX12 59 12 35 := ⟨RX12, TX12, 69, rfl, by decide, gin_X12, gT_of 1273 rfl rfl, rfl⟩
set_option maxRecDepth 100000 in
theorem fX12_62 : gFld RX12 62 12 36 := ⟨RX12, TX12, 69, rfl, by decide, gin_X12, gT_of 1274 rfl rfl, rfl⟩
set_option maxRecDepth 100000 in
theorem fX12_65 : gFld RX12 65 12 37 := ⟨RX12, TX12, 69, rfl, by decide, gin_X12, gT_of 1275 rfl rfl, rfl⟩
set_option maxRecDepth 100000 in
theorem fX12_68 : gFld RX12 68 12 38 := ⟨RX12, TX12, 69, rfl, by decide, gin_X12, gT_of 1276 rfl rfl, rfl⟩
set_option maxRecDepth 100000 in
theorem fX12_71 : gFld RX12 71 12 39 := ⟨RX12, TX12, 69, rfl, by decide, gin_X12, gT_of 1277 rfl rfl, rfl⟩
set_option maxRecDepth 100000 in
theorem fX12_74 : gFld RX12 74 12 40 := ⟨RX12, TX12, 69, rfl, by decide, gin_X12, gT_of 1278 rfl rfl, rfl⟩
set_option maxRecDepth 100000 in
theorem fX12_77 : gFld RX12 77 12 43 := ⟨RX12, TX12, 69, rfl, by decide, gin_X12, gT_of 1281 rfl rfl, rfl⟩
set_option maxRecDepth 100000 in
theorem fX12_80 : gFld RX12 80 12 44 := ⟨RX12, TX12, 69, rfl, by decide, gin_X12, gT_of 1282 rfl rfl, rfl⟩
set_option maxRecDepth 100000 in
theorem fX12_83 : gFld RX12 83 12 45 := ⟨RX12, TX12, 69, rfl, by decide, gin_X12, gT_of 1283 rfl rfl, rfl⟩
set_option maxRecDepth 100000 in
theorem fX12_86 : gFld RX12 86 12 46 := ⟨RX12, TX12, 69, rfl, by decide, gin_X12, gT_of 1284 rfl rfl, rfl⟩
set_option maxRecDepth 100000 in
theorem fX12_89 : gFld RX12 89 12 47 := ⟨RX12, TX12, 69, rfl, by decide, gin_X12, gT_of 1285 rfl rfl, rfl⟩
set_option maxRecDepth 100000 in
theorem fX12_92 : gFld RX12 92 12 48 := ⟨RX12, TX12, 69, rfl, by decide, gin_X12, gT_of 1286 rfl rfl, rfl⟩
set_option maxRecDepth 100000 in
theorem fX12_95 : gFld RX12 95 12 49 := ⟨RX12, TX12, 69, rfl, by decide, gin_X12, gT_of 1287 rfl rfl, rfl⟩
set_option maxRecDepth 100000 in
theorem fX12_98 : gFld RX12 98 12 51 := ⟨RX12, TX12, 69, rfl, by decide, gin_X12, gT_of 1289 rfl rfl, rfl⟩
set_option maxRecDepth 100000 in
theorem fX12_101 : gFld RX12 101 12 52 := ⟨RX12, TX12, 69, rfl, by decide, gin_X12, gT_of 1290 rfl rfl, rfl⟩
set_option maxRecDepth 100000 in
theorem fX12_104 : gFld RX12 104 12 53 := ⟨RX12, TX12, 69, rfl, by decide, gin_X12, gT_of 1291 rfl rfl, rfl⟩
set_option maxRecDepth 100000 in
theorem fX12_107 : gFld RX12 107 12 54 := ⟨RX12, TX12, 69, rfl, by decide, gin_X12, gT_of 1292 rfl rfl, rfl⟩
set_option maxRecDepth 100000 in
theorem fX12_110 : gFld RX12 110 12 55 := ⟨RX12, TX12, 69, rfl, by decide, gin_X12, gT_of 1293 rfl rfl, rfl⟩
set_option maxRecDepth 100000 in
theorem fX12_113 : gFld RX12 113 12 56 := ⟨RX12, TX12, 69, rfl, by decide, gin_X12, gT_of 1294 rfl rfl, rfl⟩
set_option maxRecDepth 100000 in
theorem fX12_116 : gFld RX12 116 12 57 := ⟨RX12, TX12, 69, rfl, by decide, gin_X12, gT_of 1295 rfl rfl, rfl⟩
set_option maxRecDepth 100000 in
theorem fX12_119 : gFld RX12 119 12 58 := ⟨RX12, TX12, 69, rfl, by decide, gin_X12, gT_of 1296 rfl rfl, rfl⟩
set_option maxRecDepth 100000 in
theorem fX12_122 : gFld RX12 122 12 59 := ⟨RX12, TX12, 69, rfl, by decide, gin_X12, gT_of 1297 rfl rfl, rfl⟩
set_option maxRecDepth 100000 in
theorem fX12_125 : gFld RX12 125 12 60 := ⟨RX12, TX12, 69, rfl, by decide, gin_X12, gT_of 1298 rfl rfl, rfl⟩
set_option maxRecDepth 100000 in
theorem fX12_128 : gFld RX12 128 12 62 := ⟨RX12, TX12, 69, rfl, by decide, gin_X12, gT_of 1300 rfl rfl, rfl⟩
set_option maxRecDepth 100000 in
theorem fX12_131 : gFld RX12 131 12 63 := ⟨RX12, TX12, 69, rfl, by decide, gin_X12, gT_of 1301 rfl rfl, rfl⟩
set_option maxRecDepth 100000 in
theorem fX12_134 : gFld RX12 134 12 66 := ⟨RX12, TX12, 69, rfl, by decide, gin_X12, gT_of 1304 rfl rfl, rfl⟩
set_option maxRecDepth 100000 in
theorem fX12_138 : gFld RX12 138 12 67 := ⟨RX12, TX12, 69, rfl, by decide, gin_X12, gT_of 1305 rfl rfl, rfl⟩
set_option maxRecDepth 100000 in
theorem fX12_141 : gFld RX12 141 12 2 := ⟨RX12, TX12, 69, rfl, by decide, gin_X12, gT_of 1240 rfl rfl, rfl⟩
set_option maxRecDepth 100000 in
theorem fX12_155 : gFld RX12 155 12 3 := ⟨RX12, TX12, 69, rfl, by decide, gin_X12, gT_of 1241 rfl rfl, rfl⟩
set_option maxRecDepth 100000 in
theorem fX12_162 : gFld RX12 162 12 4 := ⟨RX12, TX12, 69, rfl, by decide, gin_X12, gT_of 1242 rfl rfl, rfl⟩
set_option maxRecDepth 100000 in
theorem fX12_165 : gFld RX12 165 12 5 := ⟨RX12, TX12, 69, rfl, by decide, gin_X12, gT_of 1243 rfl rfl, rfl⟩
set_option maxRecDepth 100000 in
theorem fX12_180 : gFld RX12 180 12 7 := ⟨RX12, TX12, 69, rfl, by decide, gin_X12, gT_of 1245 rfl rfl, rfl⟩
set_option maxRecDepth 100000 in
theorem fX12_186 : gFld RX12 186 12 6 := ⟨RX12, TX12, 69, rfl, by decide, gin_X12, gT_of 1244 rfl rfl, rfl⟩
set_option maxRecDepth 100000 in
theorem fX12_189 : gFld RX12 189 12 8 := ⟨RX12, TX12, 69, rfl, by decide, gin_X12, gT_of 1246 rfl rfl, rfl⟩
set_option maxRecDepth 100000 in
theorem fX12_236 : gFld RX12 236 12 10 := ⟨RX12, TX12, 69, rfl, by decide, gin_X12, gT_of 1248 rfl rfl, rfl⟩
set_option maxRecDepth 100000 in
theorem fX12_239 : gFld RX12 239 12 11 := ⟨RX12, TX12, 69, rfl, by decide, gin_X12, gT_of 1249 rfl rfl, rfl⟩
set_option maxRecDepth 100000 in
theorem fX12_242 : gFld RX12 242 12 12 := ⟨RX12, TX12, 69, rfl, by decide, gin_X12, gT_of 1250 rfl rfl, rfl⟩
set_option maxRecDepth 100000 in
theorem fX12_245 : gFld RX12 245 12 13 := ⟨RX12, TX12, 69, rfl, by decide, gin_X12, gT_of 1251 rfl rfl, rfl⟩
set_option maxRecDepth 100000 in
theorem fX12_248 : gFld RX12 248 12 14 := ⟨RX12, TX12, 69, rfl, by decide, gin_X12, gT_of 1252 rfl rfl, rfl⟩
set_option maxRecDepth 100000 in
theorem fX12_254 : gFld RX12 254 12 23 := ⟨RX12, TX12, 69, rfl, by decide, gin_X12, gT_of 1261 rfl rfl, rfl⟩
set_option maxRecDepth 100000 in
theorem fX12_257 : gFld RX12 257 12 24 := ⟨RX12, TX12, 69, rfl, by decide, gin_X12, gT_of 1262 rfl rfl, rfl⟩
set_option maxRecDepth 100000 in
theorem fX12_260 : gFld RX12 260 12 25 := ⟨RX12, TX12, 69, rfl, by decide, gin_X12, gT_of 1263 rfl rfl, rfl⟩
set_option maxRecDepth 100000 in
theorem fX12_263 : gFld RX12 263 12 26 := ⟨RX12, TX12, 69, rfl, by decide, gin_X12, gT_of 1264 rfl rfl, rfl⟩
set_option maxRecDepth 100000 in
theorem fX12_266 : gFld RX12 266 12 27 := ⟨RX12, TX12, 69, rfl, by decide, gin_X12, gT_of 1265 rfl rfl, rfl⟩
set_option maxRecDepth 100000 in
theorem fX12_269 : gFld RX12 269 12 28 := ⟨RX12, TX12, 69, rfl, by decide, gin_X12, gT_of 1266 rfl rfl, rfl⟩
set_option maxRecDepth 100000 in
theorem fX12_272 : gFld RX12 272 12 29 := ⟨RX12, TX12, 69, rfl, by decide, gin_X12, gT_of 1267 rfl rfl, rfl⟩
set_option maxRecDepth 100000 in
theorem fX12_299 : gFld RX12 299 12 41 := ⟨RX12, TX12, 69, rfl, by decide, gin_X12, gT_of 1279 rfl rfl, rfl⟩
set_option maxRecDepth 100000 in
theorem fX12_302 : gFld RX12 302 12 42 := ⟨RX12, TX12, 69, rfl, by decide, gin_X12, gT_of 1280 rfl rfl, rfl⟩
set_option maxRecDepth 100000 in
theorem fX12_386 : gFld RX12 386 12 50 := ⟨RX12, TX12, 69, rfl, by decide, gin_X12, gT_of 1288 rfl rfl, rfl⟩
set_option maxRecDepth 100000 in
theorem fX12_419 : gFld RX12 419 12 61 := ⟨RX12, TX12, 69, rfl, by decide, gin_X12, gT_of 1299 rfl rfl, rfl⟩
set_option maxRecDepth 100000 in
theorem fX12_461 : gFld RX12 461 12 64 := ⟨RX12, TX12, 69, rfl, by decide, gin_X12, gT_of 1302 rfl rfl, rfl⟩
set_option maxRecDepth 100000 in
theorem fX12_467 : gFld RX12 467 12 65 := ⟨RX12, TX12, 69, rfl, by decide, gin_X12, gT_of 1303 rfl rfl, rfl⟩
set_option maxRecDepth 100000 in
theorem fX12_484 : gFld RX12 484 12 68 := ⟨RX12, TX12, 69, rfl, by decide, gin_X12, gT_of 1306 rfl rfl, rfl⟩
set_option maxRecDepth 100000 in
theorem fX2_12 : gFld RX2 12 2 0 := ⟨RX2, TX2, 6, rfl, by decide, gin_X2, gT_of 438 rfl rfl, rfl⟩
set_option maxRecDepth 100000 in
theorem fX2_18 : gFld RX2 18 2 2 := ⟨RX2, TX2, 6, rfl, by decide, gin_X2, gT_of 440 rfl rfl, rfl⟩
set_option maxRecDepth 100000 in
theorem fX2_22 : gFld RX2 22 2 3 := ⟨RX2, TX2, 6, rfl, by decide, gin_X2, gT_of 441 rfl rfl, rfl⟩
set_option maxRecDepth 100000 in
theorem fX2_36 : gFld RX2 36 2 1 := ⟨RX2, TX2, 6, rfl, by decide, gin_X2, gT_of 439 rfl rfl, rfl⟩
set_option maxRecDepth 100000 in
theorem fX2_40 : gFld RX2 40 4 0 := ⟨RX4, TX4, 8, rfl, by decide, gin_X4, gT_of 319 rfl rfl, rfl⟩
set_option maxRecDepth 100000 in
theorem fX2_43 : gFld RX2 43 4 3 := ⟨RX4, TX4, 8, rfl, by decide, gin_X4, gT_of 329 rfl rfl, rfl⟩
set_option maxRecDepth 100000 in
theorem fX2_59 : gFld RX2 59 4 4 := ⟨RX4, TX4, 8, rfl, by decide, gin_X4, gT_of 333 rfl rfl, rfl⟩
set_option maxRecDepth 100000 in
theorem fX2_65 : gFld RX2 65 2 4 := ⟨RX2, TX2, 6, rfl, by decide, gin_X2, gT_of 442 rfl rfl, rfl⟩
set_option maxRecDepth 100000 in
theorem fX2_68 : gFld RX2 68 2 5 := ⟨RX2, TX2, 6, rfl, by decide, gin_X2, gT_of 443 rfl rfl, rfl⟩
set_option maxRecDepth 100000 in
theorem fX2_83 : gFld RX2 83 4 6 := ⟨RX4, TX4, 8, rfl, by decide, gin_X4, gT_of 342 rfl rfl, rfl⟩
set_option maxRecDepth 100000 in
theorem fX2_91 : gFld RX2 91 4 1 := ⟨RX4, TX4, 8, rfl, by decide, gin_X4, gT_of 323 rfl rfl, rfl⟩
set_option maxRecDepth 100000 in
theorem fX2_94 : gFld RX2 94 4 2 := ⟨RX4, TX4, 8, rfl, by decide, gin_X4, gT_of 326 rfl rfl, rfl⟩
set_option maxRecDepth 100000 in
theorem fX3_9 : gFld RX3 9 3 0 := ⟨RX3, TX3, 2, rfl, by decide, gin_X3, gT_of 464 rfl rfl, rfl⟩
set_option maxRecDepth 100000 in
theorem fX3_24 : gFld RX3 24 8 3 := ⟨RX8, TX8, 19, rfl, by decide, gin_X8, gT_of 372 rfl rfl, rfl⟩
set_option maxRecDepth 100000 in
theorem fX3_28 : gFld RX3 28 8 2 := ⟨RX8, TX8, 19, rfl, by decide, gin_X8, gT_of 369 rfl rfl, rfl⟩
set_option maxRecDepth 100000 in
theorem fX3_32 : gFld RX3 32 4 6 := ⟨RX4, TX4, 8, rfl, by decide, gin_X4, gT_of 339 rfl rfl, rfl⟩
set_option maxRecDepth 100000 in
theorem fX3_55 : gFld RX3 55 3 1 := ⟨RX3, TX3, 2, rfl, by decide, gin_X3, gT_of 465 rfl rfl, rfl⟩
set_option maxRecDepth 100000 in
theorem fX3_81 : gFld RX3 81 8 13 := ⟨RX8, TX8, 19, rfl, by decide, gin_X8, gT_of 384 rfl rfl, rfl⟩
set_option maxRecDepth 100000 in
theorem fX3_84 : gFld RX3 84 4 4 := ⟨RX4, TX4, 8, rfl, by decide, gin_X4, gT_of 334 rfl rfl, rfl⟩
set_option maxRecDepth 100000 in
theorem fX4_9 : gFld RX4 9 4 0 := ⟨RX4, TX4, 8, rfl, by decide, gin_X4, gT_of 318 rfl rfl, rfl⟩
set_option maxRecDepth 100000 in
theorem fX4_15 : gFld RX4 15 4 1 := ⟨RX4, TX4, 8, rfl, by decide, gin_X4, gT_of 322 rfl rfl, rfl⟩
set_option maxRecDepth 100000 in
theorem fX4_19 : gFld RX4 19 4 2 := ⟨RX4, TX4, 8, rfl, by decide, gin_X4, gT_of 325 rfl rfl, rfl⟩
set_option maxRecDepth 100000 in
theorem fX4_22 : gFld RX4 22 4 3 := ⟨RX4, TX4, 8, rfl, by decide, gin_X4, gT_of 328 rfl rfl, rfl⟩
set_option maxRecDepth 100000 in
theorem fX4_25 : gFld RX4 25 4 4 := ⟨RX4, TX4, 8, rfl, by decide, gin_X4, gT_of 331 rfl rfl, rfl⟩
set_option maxRecDepth 100000 in
theorem fX4_28 : gFld RX4 28 4 7 := ⟨RX4, TX4, 8, rfl, by decide, gin_X4, gT_of 344 rfl rfl, rfl⟩
set_option maxRecDepth 100000 in
theorem fX4_43 : gFld RX4 43 4 5 := ⟨RX4, TX4, 8, rfl, by decide, gin_X4, gT_of 337 rfl rfl, rfl⟩
set_option maxRecDepth 100000 in
theorem fX4_46 : gFld RX4 46 4 6 := ⟨RX4, TX4, 8, rfl, by decide, gin_X4, gT_of 341 rfl rfl, rfl⟩
set_option maxRecDepth 100000 in
theorem fX5_9 : gFld RX5 9 5 1 := ⟨RX5, TX5, 3, rfl, by decide, gin_X5, gT_of 522 rfl rfl, rfl⟩
set_option maxRecDepth 100000 in
theorem fX5_15 : gFld RX5 15 5 2 := ⟨RX5, TX5, 3, rfl, by decide, gin_X5, gT_of 523 rfl rfl, rfl⟩
set_option maxRecDepth 100000 in
theorem fX5_18 : gFld RX5 18 5 0 := ⟨RX5, TX5, 3, rfl, by decide, gin_X5, gT_of 521 rfl rfl, rfl⟩
set_option maxRecDepth 100000 in
theorem fX5_22 : gFld RX5 22 8 1 := ⟨RX8, TX8, 19, rfl, by decide, gin_X8, gT_of 366 rfl rfl, rfl⟩
set_option maxRecDepth 100000 in
theorem fX5_28 : gFld RX5 28 6 0 := ⟨RX6, TX6, 4, rfl, by decide, gin_X6, gT_of 293 rfl rfl, rfl⟩
set_option maxRecDepth 100000 in
theorem fX5_33 : gFld RX5 33 8 3 := ⟨RX8, TX8, 19, rfl, by decide, gin_X8, gT_of 371 rfl rfl, rfl⟩
set_option maxRecDepth 100000 in
theorem fX5_36 : gFld RX5 36 6 1 := ⟨RX6, TX6, 4, rfl, by decide, gin_X6, gT_of 297 rfl rfl, rfl⟩
set_option maxRecDepth 100000 in
theorem fX5_51 : gFld RX5 51 8 13 := ⟨RX8, TX8, 19, rfl, by decide, gin_X8, gT_of 383 rfl rfl, rfl⟩
set_option maxRecDepth 100000 in
theorem fX5_54 : gFld RX5 54 8 0 := ⟨RX8, TX8, 19, rfl, by decide, gin_X8, gT_of 363 rfl rfl, rfl⟩
set_option maxRecDepth 100000 in
theorem fX5_95 : gFld RX5 95 0 0 := ⟨RX0, TX0, 8, rfl, by decide, gin_X0, gT_of 256 rfl rfl, rfl⟩
set_option maxRecDepth 100000 in
theorem fX5_100 : gFld RX5 100 0 5 := ⟨RX0, TX0, 8, rfl, by decide, gin_X0, gT_of 263 rfl rfl, rfl⟩
set_option maxRecDepth 100000 in
theorem fX5_106 : gFld RX5 106 0 7 := ⟨RX0, TX0, 8, rfl, by decide, gin_X0, gT_of 267 rfl rfl, rfl⟩
set_option maxRecDepth 100000 in
theorem fX5_109 : gFld RX5 109 6 3 := ⟨RX6, TX6, 4, rfl, by decide, gin_X6, gT_of 302 rfl rfl, rfl⟩
set_option maxRecDepth 100000 in
theorem fX5_125 : gFld RX5 125 6 2 := ⟨RX6, TX6, 4, rfl, by decide, gin_X6, gT_of 300 rfl rfl, rfl⟩
set_option maxRecDepth 100000 in
theorem fX5_128 : gFld RX5 128 8 15 := ⟨RX8, TX8, 19, rfl, by decide, gin_X8, gT_of 387 rfl rfl, rfl⟩
set_option maxRecDepth 100000 in
theorem fX6_9 : gFld RX6 9 6 1 := ⟨RX6, TX6, 4, rfl, by decide, gin_X6, gT_of 296 rfl rfl, rfl⟩
set_option maxRecDepth 100000 in
theorem fX6_15 : gFld RX6 15 6 2 := ⟨RX6, TX6, 4, rfl, by decide, gin_X6, gT_of 299 rfl rfl, rfl⟩
set_option maxRecDepth 100000 in
theorem fX6_18 : gFld RX6 18 6 3 := ⟨RX6, TX6, 4, rfl, by decide, gin_X6, gT_of 301 rfl rfl, rfl⟩
set_option maxRecDepth 100000 in
theorem fX6_21 : gFld RX6 21 6 0 := ⟨RX6, TX6, 4, rfl, by decide, gin_X6, gT_of 292 rfl rfl, rfl⟩
set_option maxRecDepth 100000 in
theorem fX6_25 : gFld RX6 25 4 4 := ⟨RX4, TX4, 8, rfl, by decide, gin_X4, gT_of 332 rfl rfl, rfl⟩
set_option maxRecDepth 100000 in
theorem fX6_30 : gFld RX6 30 4 0 := ⟨RX4, TX4, 8, rfl, by decide, gin_X4, gT_of 320 rfl rfl, rfl⟩
set_option maxRecDepth 100000 in
theorem fX6_33 : gFld RX6 33 4 5 := ⟨RX4, TX4, 8, rfl, by decide, gin_X4, gT_of 336 rfl rfl, rfl⟩
set_option maxRecDepth 100000 in
theorem fX6_36 : gFld RX6 36 4 6 := ⟨RX4, TX4, 8, rfl, by decide, gin_X4, gT_of 340 rfl rfl, rfl⟩
set_option maxRecDepth 100000 in
theorem fX7_9 : gFld RX7 9 7 0 := ⟨RX7, TX7, 12, rfl, by decide, gin_X7, gT_of 199 rfl rfl, rfl⟩
set_option maxRecDepth 100000 in
theorem fX7_17 : gFld RX7 17 7 1 := ⟨RX7, TX7, 12, rfl, by decide, gin_X7, gT_of 201 rfl rfl, rfl⟩
set_option maxRecDepth 100000 in
theorem fX7_20 : gFld RX7 20 7 5 := ⟨RX7, TX7, 12, rfl, by decide, gin_X7, gT_of 209 rfl rfl, rfl⟩
set_option maxRecDepth 100000 in
theorem fX7_23 : gFld RX7 23 7 6 := ⟨RX7, TX7, 12, rfl, by decide, gin_X7, gT_of 210 rfl rfl, rfl⟩
set_option maxRecDepth 100000 in
theorem fX7_33 : gFld RX7 33 7 7 := ⟨RX7, TX7, 12, rfl, by decide, gin_X7, gT_of 211 rfl rfl, rfl⟩
set_option maxRecDepth 100000 in
theorem fX7_37 : gFld RX7 37 7 8 := ⟨RX7, TX7, 12, rfl, by decide, gin_X7, gT_of 212 rfl rfl, rfl⟩
set_option maxRecDepth 100000 in
theorem fX7_40 : gFld RX7 40 7 2 := ⟨RX7, TX7, 12, rfl, by decide, gin_X7, gT_of 203 rfl rfl, rfl⟩
set_option maxRecDepth 100000 in
theorem fX7_43 : gFld RX7 43 7 3 := ⟨RX7, TX7, 12, rfl, by decide, gin_X7, gT_of 205 rfl rfl, rfl⟩
set_option maxRecDepth 100000 in
theorem fX7_46 : gFld RX7 46 7 4 := ⟨RX7, TX7, 12, rfl, by decide, gin_X7, gT_of 207 rfl rfl, rfl⟩
set_option maxRecDepth 100000 in
theorem fX7_52 : gFld RX7 52 7 9 := ⟨RX7, TX7, 12, rfl, by decide, gin_X7, gT_of 213 rfl rfl, rfl⟩
set_option maxRecDepth 100000 in
theorem fX7_84 : gFld RX7 84 7 11 := ⟨RX7, TX7, 12, rfl, by decide, gin_X7, gT_of 215 rfl rfl, rfl⟩
set_option maxRecDepth 100000 in
theorem fX7_99 : gFld RX7 99 7 10 := ⟨RX7, TX7, 12, rfl, by decide, gin_X7, gT_of 214 rfl rfl, rfl⟩
set_option maxRecDepth 100000 in
theorem fX8_12 : gFld RX8 12 8 0 := ⟨RX8, TX8, 19, rfl, by decide, gin_X8, gT_of 362 rfl rfl, rfl⟩
set_option maxRecDepth 100000 in
theorem fX8_21 : gFld RX8 21 8 1 := ⟨RX8, TX8, 19, rfl, by decide, gin_X8, gT_of 365 rfl rfl, rfl⟩
set_option maxRecDepth 100000 in
theorem fX8_28 : gFld RX8 28 8 2 := ⟨RX8, TX8, 19, rfl, by decide, gin_X8, gT_of 368 rfl rfl, rfl⟩
set_option maxRecDepth 100000 in
theorem fX8_32 : gFld RX8 32 8 3 := ⟨RX8, TX8, 19, rfl, by decide, gin_X8, gT_of 370 rfl rfl, rfl⟩
set_option maxRecDepth 100000 in
theorem fX8_36 : gFld RX8 36 8 11 := ⟨RX8, TX8, 19, rfl, by decide, gin_X8, gT_of 380 rfl rfl, rfl⟩
set_option maxRecDepth 100000 in
theorem fX8_40 : gFld RX8 40 8 12 := ⟨RX8, TX8, 19, rfl, by decide, gin_X8, gT_of 381 rfl rfl, rfl⟩
set_option maxRecDepth 100000 in
theorem fX8_43 : gFld RX8 43 8 13 := ⟨RX8, TX8, 19, rfl, by decide, gin_X8, gT_of 382 rfl rfl, rfl⟩
set_option maxRecDepth 100000 in
theorem fX8_46 : gFld RX8 46 8 14 := ⟨RX8, TX8, 19, rfl, by decide, gin_X8, gT_of 385 rfl rfl, rfl⟩
set_option maxRecDepth 100000 in
theorem fX8_49 : gFld RX8 49 8 15 := ⟨RX8, TX8, 19, rfl, by decide, gin_X8, gT_of 386 rfl rfl, rfl⟩
set_option maxRecDepth 100000 in
theorem fX8_52 : gFld RX8 52 8 16 := ⟨RX8, TX8, 19, rfl, by decide, gin_X8, gT_of 388 rfl rfl, rfl⟩
set_option maxRecDepth 100000 in
theorem fX8_55 : gFld RX8 55 8 17 := ⟨RX8, TX8, 19, rfl, by decide, gin_X8, gT_of 389 rfl rfl, rfl⟩
set_option maxRecDepth 100000 in
theorem fX8_71 : gFld RX8 71 4 0 := ⟨RX4, TX4, 8, rfl, by decide, gin_X4, gT_of 321 rfl rfl, rfl⟩
set_option maxRecDepth 100000 in
theorem fX8_72 : gFld RX8 72 8 4 := ⟨RX8, TX8, 19, rfl, by decide, gin_X8, gT_of 373 rfl rfl, rfl⟩
set_option maxRecDepth 100000 in
theorem fX8_80 : gFld RX8 80 8 5 := ⟨RX8, TX8, 19, rfl, by decide, gin_X8, gT_of 374 rfl rfl, rfl⟩
set_option maxRecDepth 100000 in
theorem fX8_83 : gFld RX8 83 0 0 := ⟨RX0, TX0, 8, rfl, by decide, gin_X0, gT_of 255 rfl rfl, rfl⟩
set_option maxRecDepth 100000 in
theorem fX8_86 : gFld RX8 86 6 0 := ⟨RX6, TX6, 4, rfl, by decide, gin_X6, gT_of 295 rfl rfl, rfl⟩
set_option maxRecDepth 100000 in
theorem fX8_89 : gFld RX8 89 8 6 := ⟨RX8, TX8, 19, rfl, by decide, gin_X8, gT_of 375 rfl rfl, rfl⟩
set_option maxRecDepth 100000 in
theorem fX8_92 : gFld RX8 92 8 7 := ⟨RX8, TX8, 19, rfl, by decide, gin_X8, gT_of 376 rfl rfl, rfl⟩
set_option maxRecDepth 100000 in
theorem fX8_95 : gFld RX8 95 8 8 := ⟨RX8, TX8, 19, rfl, by decide, gin_X8, gT_of 377 rfl rfl, rfl⟩
set_option maxRecDepth 100000 in
theorem fX8_98 : gFld RX8 98 8 9 := ⟨RX8, TX8, 19, rfl, by decide, gin_X8, gT_of 378 rfl rfl, rfl⟩
set_option maxRecDepth 100000 in
theorem fX8_101 : gFld RX8 101 8 10 := ⟨RX8, TX8, 19, rfl, by decide, gin_X8, gT_of 379 rfl rfl, rfl⟩
set_option maxRecDepth 100000 in
theorem fX8_138 : gFld RX8 138 4 3 := ⟨RX4, TX4, 8, rfl, by decide, gin_X4, gT_of 330 rfl rfl, rfl⟩
set_option maxRecDepth 100000 in
theorem fX8_155 : gFld RX8 155 4 4 := ⟨RX4, TX4, 8, rfl, by decide, gin_X4, gT_of 335 rfl rfl, rfl⟩
set_option maxRecDepth 100000 in
theorem fX8_172 : gFld RX8 172 4 6 := ⟨RX4, TX4, 8, rfl, by decide, gin_X4, gT_of 343 rfl rfl, rfl⟩
set_option maxRecDepth 100000 in
theorem fX8_175 : gFld RX8 175 4 5 := ⟨RX4, TX4, 8, rfl, by decide, gin_X4, gT_of 338 rfl rfl, rfl⟩
set_option maxRecDepth 100000 in
theorem fX8_190 : gFld RX8 190 0 7 := ⟨RX0, TX0, 8, rfl, by decide, gin_X0, gT_of 268 rfl rfl, rfl⟩
set_option maxRecDepth 100000 in
theorem fX8_193 : gFld RX8 193 0 5 := ⟨RX0, TX0, 8, rfl, by decide, gin_X0, gT_of 264 rfl rfl, rfl⟩
set_option maxRecDepth 100000 in
theorem fX8_200 : gFld RX8 200 0 2 := ⟨RX0, TX0, 8, rfl, by decide, gin_X0, gT_of 259 rfl rfl, rfl⟩
set_option maxRecDepth 100000 in
theorem fX8_203 : gFld RX8 203 8 18 := ⟨RX8, TX8, 19, rfl, by decide, gin_X8, gT_of 390 rfl rfl, rfl⟩
set_option maxRecDepth 100000 in
theorem fX8_213 : gFld RX8 213 4 2 := ⟨RX4, TX4, 8, rfl, by decide, gin_X4, gT_of 327 rfl rfl, rfl⟩
set_option maxRecDepth 100000 in
theorem fX8_216 : gFld RX8 216 4 1 := ⟨RX4, TX4, 8, rfl, by decide, gin_X4, gT_of 324 rfl rfl, rfl⟩
set_option maxRecDepth 100000 in
theorem fX9_9 : gFld RX9 9 9 1 := ⟨RX9, TX9, 12, rfl, by decide, gin_X9, gT_of 479 rfl rfl, rfl⟩
set_option maxRecDepth 100000 in
theorem fX9_15 : gFld RX9 15 9 2 := ⟨RX9, TX9, 12, rfl, by decide, gin_X9, gT_of 480 rfl rfl, rfl⟩
set_option maxRecDepth 100000 in
theorem fX9_18 : gFld RX9 18 9 3 := ⟨RX9, TX9, 12, rfl, by decide, gin_X9, gT_of 481 rfl rfl, rfl⟩
set_option maxRecDepth 100000 in
theorem fX9_21 : gFld RX9 21 9 4 := ⟨RX9, TX9, 12, rfl, by decide, gin_X9, gT_of 482 rfl rfl, rfl⟩
set_option maxRecDepth 100000 in
theorem fX9_24 : gFld RX9 24 9 5 := ⟨RX9, TX9, 12, rfl, by decide, gin_X9, gT_of 483 rfl rfl, rfl⟩
set_option maxRecDepth 100000 in
theorem fX9_27 : gFld RX9 27 9 6 := ⟨RX9, TX9, 12, rfl, by decide, gin_X9, gT_of 484 rfl rfl, rfl⟩
set_option maxRecDepth 100000 in
theorem fX9_30 : gFld RX9 30 9 7 := ⟨RX9, TX9, 12, rfl, by decide, gin_X9, gT_of 485 rfl rfl, rfl⟩
set_option maxRecDepth 100000 in
theorem fX9_33 : gFld RX9 33 9 8 := ⟨RX9, TX9, 12, rfl, by decide, gin_X9, gT_of 486 rfl rfl, rfl⟩
set_option maxRecDepth 100000 in
theorem fX9_36 : gFld RX9 36 9 9 := ⟨RX9, TX9, 12, rfl, by decide, gin_X9, gT_of 487 rfl rfl, rfl⟩
set_option maxRecDepth 100000 in
theorem fX9_39 : gFld RX9 39 9 10 := ⟨RX9, TX9, 12, rfl, by decide, gin_X9, gT_of 488 rfl rfl, rfl⟩
set_option maxRecDepth 100000 in
theorem fX9_43 : gFld RX9 43 9 11 := ⟨RX9, TX9, 12, rfl, by decide, gin_X9, gT_of 489 rfl rfl, rfl⟩
set_option maxRecDepth 100000 in
theorem fX9_46 : gFld RX9 46 9 0 := ⟨RX9, TX9, 12, rfl, by decide, gin_X9, gT_of 477 rfl rfl, rfl⟩
theorem pX0_0 : gPut 0 0 .int := fun C T N h => by cases h; exact ⟨rfl, tyX0_ok 0 (by decide), ⟨tyX0, tyX0_ok⟩, nmX0⟩
theorem pX1_0 : gPut 1 0 .int := fun C T N h => by cases h; exact ⟨rfl, tyX1_ok 0 (by decide), ⟨tyX1, tyX1_ok⟩, nmX1⟩
theorem pX1_1 : gPut 1 1 .int := fun C T N h => by cases h; exact ⟨rfl, tyX1_ok 1 (by decide), ⟨tyX1, tyX1_ok⟩, nmX1⟩
theorem pX1_2 : gPut 1 2 .int := fun C T N h => by cases h; exact ⟨rfl, tyX1_ok 2 (by decide), ⟨tyX1, tyX1_ok⟩, nmX1⟩
theorem pX10_1 : gPut 10 1 .int := fun C T N h => by cases h; exact ⟨rfl, tyX10_ok 1 (by decide), ⟨tyX10, tyX10_ok⟩, nmX10⟩
theorem pX10_2 : gPut 10 2 .int := fun C T N h => by cases h; exact ⟨rfl, tyX10_ok 2 (by decide), ⟨tyX10, tyX10_ok⟩, nmX10⟩
theorem pX10_3 : gPut 10 3 .int := fun C T N h => by cases h; exact ⟨rfl, tyX10_ok 3 (by decide), ⟨tyX10, tyX10_ok⟩, nmX10⟩
theorem pX12_2 : gPut 12 2 .int := fun C T N h => by cases h; exact ⟨rfl, tyX12_ok 2 (by decide), ⟨tyX12, tyX12_ok⟩, nmX12⟩
theorem pX12_3 : gPut 12 3 .int := fun C T N h => by cases h; exact ⟨rfl, tyX12_ok 3 (by decide), ⟨tyX12, tyX12_ok⟩, nmX12⟩
theorem pX12_4 : gPut 12 4 .int := fun C T N h => by cases h; exact ⟨rfl, tyX12_ok 4 (by decide), ⟨tyX12, tyX12_ok⟩, nmX12⟩
theorem pX12_5 : gPut 12 5 .int := fun C T N h => by cases h; exact ⟨rfl, tyX12_ok 5 (by decide), ⟨tyX12, tyX12_ok⟩, nmX12⟩
theorem pX12_6 : gPut 12 6 .int := fun C T N h => by cases h; exact ⟨rfl, tyX12_ok 6 (by decide), ⟨tyX12, tyX12_ok⟩, nmX12⟩
theorem pX12_7 : gPut 12 7 .int := fun C T N h => by cases h; exact ⟨rfl, tyX12_ok 7 (by decide), ⟨tyX12, tyX12_ok⟩, nmX12⟩
theorem pX12_8 : gPut 12 8 .boolean := fun C T N h => by cases h; exact ⟨rfl, tyX12_ok 8 (by decide), ⟨tyX12, tyX12_ok⟩, nmX12⟩
theorem pX12_10 : gPut 12 10 .int := fun C T N h => by cases h; exact ⟨rfl, tyX12_ok 10 (by decide), ⟨tyX12, tyX12_ok⟩, nmX12⟩
theorem pX12_11 : gPut 12 11 .int := fun C T N h => by cases h; exact ⟨rfl, tyX12_ok 11 (by decide), ⟨tyX12, tyX12_ok⟩, nmX12⟩
theorem pX12_12 : gPut 12 12 .int := fun C T N h => by cases h; exact ⟨rfl, tyX12_ok 12 (by decide), ⟨tyX12, tyX12_ok⟩, nmX12⟩
theorem pX12_13 : gPut 12 13 .int := fun C T N h => by cases h; exact ⟨rfl, tyX12_ok 13 (by decide), ⟨tyX12, tyX12_ok⟩, nmX12⟩
theorem pX12_14 : gPut 12 14 .int := fun C T N h => by cases h; exact ⟨rfl, tyX12_ok 14 (by decide), ⟨tyX12, tyX12_ok⟩, nmX12⟩
theorem pX12_23 : gPut 12 23 .int := fun C T N h => by cases h; exact ⟨rfl, tyX12_ok 23 (by decide), ⟨tyX12, tyX12_ok⟩, nmX12⟩
theorem pX12_24 : gPut 12 24 .int := fun C T N h => by cases h; exact ⟨rfl, tyX12_ok 24 (by decide), ⟨tyX12, tyX12_ok⟩, nmX12⟩
theorem pX12_25 : gPut 12 25 .int := fun C T N h => by cases h; exact ⟨rfl, tyX12_ok 25 (by decide), ⟨tyX12, tyX12_ok⟩, nmX12⟩
theorem pX12_26 : gPut 12 26 .int := fun C T N h => by cases h; exact ⟨rfl, tyX12_ok 26 (by decide), ⟨tyX12, tyX12_ok⟩, nmX12⟩
theorem pX12_27 : gPut 12 27 .int := fun C T N h => by cases h; exact ⟨rfl, tyX12_ok 27 (by decide), ⟨tyX12, tyX12_ok⟩, nmX12⟩
theorem pX12_28 : gPut 12 28 .int := fun C T N h => by cases h; exact ⟨rfl, tyX12_ok 28 (by decide), ⟨tyX12, tyX12_ok⟩, nmX12⟩
theorem pX12_29 : gPut 12 29 .int := fun C T N h => by cases h; exact ⟨rfl, tyX12_ok 29 (by decide), ⟨tyX12, tyX12_ok⟩, nmX12⟩
theorem pX12_41 : gPut 12 41 .int := fun C T N h => by cases h; exact ⟨rfl, tyX12_ok 41 (by decide), ⟨tyX12, tyX12_ok⟩, nmX12⟩
theorem pX12_42 : gPut 12 42 .int := fun C T N h => by cases h; exact ⟨rfl, tyX12_ok 42 (by decide), ⟨tyX12, tyX12_ok⟩, nmX12⟩
theorem pX12_50 : gPut 12 50 .int := fun C T N h => by cases h; exact ⟨rfl, tyX12_ok 50 (by decide), ⟨tyX12, tyX12_ok⟩, nmX12⟩
theorem pX12_61 : gPut 12 61 .int := fun C T N h => by cases h; exact ⟨rfl, tyX12_ok 61 (by decide), ⟨tyX12, tyX12_ok⟩, nmX12⟩
theorem pX12_64 : gPut 12 64 .int := fun C T N h => by cases h; exact ⟨rfl, tyX12_ok 64 (by decide), ⟨tyX12, tyX12_ok⟩, nmX12⟩
theorem pX12_65 : gPut 12 65 .int := fun C T N h => by cases h; exact ⟨rfl, tyX12_ok 65 (by decide), ⟨tyX12, tyX12_ok⟩, nmX12⟩
theorem pX12_68 : gPut 12 68 .int := fun C T N h => by cases h; exact ⟨rfl, tyX12_ok 68 (by decide), ⟨tyX12, tyX12_ok⟩, nmX12⟩
theorem pX2_1 : gPut 2 1 .int := fun C T N h => by cases h; exact ⟨rfl, tyX2_ok 1 (by decide), ⟨tyX2, tyX2_ok⟩, nmX2⟩
theorem pX2_4 : gPut 2 4 .int := fun C T N h => by cases h; exact ⟨rfl, tyX2_ok 4 (by decide), ⟨tyX2, tyX2_ok⟩, nmX2⟩
theorem pX2_5 : gPut 2 5 .int := fun C T N h => by cases h; exact ⟨rfl, tyX2_ok 5 (by decide), ⟨tyX2, tyX2_ok⟩, nmX2⟩
theorem pX3_1 : gPut 3 1 .boolean := fun C T N h => by cases h; exact ⟨rfl, tyX3_ok 1 (by decide), ⟨tyX3, tyX3_ok⟩, nmX3⟩
theorem pX4_0 : gPut 4 0 .int := fun C T N h => by cases h; exact ⟨rfl, tyX4_ok 0 (by decide), ⟨tyX4, tyX4_ok⟩, nmX4⟩
theorem pX4_5 : gPut 4 5 .int := fun C T N h => by cases h; exact ⟨rfl, tyX4_ok 5 (by decide), ⟨tyX4, tyX4_ok⟩, nmX4⟩
theorem pX4_6 : gPut 4 6 .int := fun C T N h => by cases h; exact ⟨rfl, tyX4_ok 6 (by decide), ⟨tyX4, tyX4_ok⟩, nmX4⟩
theorem pX5_0 : gPut 5 0 .int := fun C T N h => by cases h; exact ⟨rfl, tyX5_ok 0 (by decide), ⟨tyX5, tyX5_ok⟩, nmX5⟩
theorem pX6_0 : gPut 6 0 .int := fun C T N h => by cases h; exact ⟨rfl, tyX6_ok 0 (by decide), ⟨tyX6, tyX6_ok⟩, nmX6⟩
theorem pX7_2 : gPut 7 2 .int := fun C T N h => by cases h; exact ⟨rfl, tyX7_ok 2 (by decide), ⟨tyX7, tyX7_ok⟩, nmX7⟩
theorem pX7_3 : gPut 7 3 .int := fun C T N h => by cases h; exact ⟨rfl, tyX7_ok 3 (by decide), ⟨tyX7, tyX7_ok⟩, nmX7⟩
theorem pX7_4 : gPut 7 4 .int := fun C T N h => by cases h; exact ⟨rfl, tyX7_ok 4 (by decide), ⟨tyX7, tyX7_ok⟩, nmX7⟩
theorem pX7_6 : gPut 7 6 (.array .byte) := fun C T N h => by cases h; exact ⟨rfl, tyX7_ok 6 (by decide), ⟨tyX7, tyX7_ok⟩, nmX7⟩
theorem pX7_7 : gPut 7 7 .int := fun C T N h => by cases h; exact ⟨rfl, tyX7_ok 7 (by decide), ⟨tyX7, tyX7_ok⟩, nmX7⟩
theorem pX7_8 : gPut 7 8 .int := fun C T N h => by cases h; exact ⟨rfl, tyX7_ok 8 (by decide), ⟨tyX7, tyX7_ok⟩, nmX7⟩
theorem pX7_9 : gPut 7 9 .int := fun C T N h => by cases h; exact ⟨rfl, tyX7_ok 9 (by decide), ⟨tyX7, tyX7_ok⟩, nmX7⟩
theorem pX7_10 : gPut 7 10 .int := fun C T N h => by cases h; exact ⟨rfl, tyX7_ok 10 (by decide), ⟨tyX7, tyX7_ok⟩, nmX7⟩
theorem pX7_11 : gPut 7 11 .int := fun C T N h => by cases h; exact ⟨rfl, tyX7_ok 11 (by decide), ⟨tyX7, tyX7_ok⟩, nmX7⟩
theorem pX8_3 : gPut 8 3 .int := fun C T N h => by cases h; exact ⟨rfl, tyX8_ok 3 (by decide), ⟨tyX8, tyX8_ok⟩, nmX8⟩
theorem pX8_4 : gPut 8 4 .int := fun C T N h => by cases h; exact ⟨rfl, tyX8_ok 4 (by decide), ⟨tyX8, tyX8_ok⟩, nmX8⟩
theorem pX8_5 : gPut 8 5 .int := fun C T N h => by cases h; exact ⟨rfl, tyX8_ok 5 (by decide), ⟨tyX8, tyX8_ok⟩, nmX8⟩
theorem pX8_6 : gPut 8 6 .int := fun C T N h => by cases h; exact ⟨rfl, tyX8_ok 6 (by decide), ⟨tyX8, tyX8_ok⟩, nmX8⟩
theorem pX8_7 : gPut 8 7 .int := fun C T N h => by cases h; exact ⟨rfl, tyX8_ok 7 (by decide), ⟨tyX8, tyX8_ok⟩, nmX8⟩
theorem pX8_8 : gPut 8 8 .int := fun C T N h => by cases h; exact ⟨rfl, tyX8_ok 8 (by decide), ⟨tyX8, tyX8_ok⟩, nmX8⟩
theorem pX8_9 : gPut 8 9 .int := fun C T N h => by cases h; exact ⟨rfl, tyX8_ok 9 (by decide), ⟨tyX8, tyX8_ok⟩, nmX8⟩
theorem pX8_10 : gPut 8 10 .int := fun C T N h => by cases h; exact ⟨rfl, tyX8_ok 10 (by decide), ⟨tyX8, tyX8_ok⟩, nmX8⟩
theorem pX8_18 : gPut 8 18 .int := fun C T N h => by cases h; exact ⟨rfl, tyX8_ok 18 (by decide), ⟨tyX8, tyX8_ok⟩, nmX8⟩
theorem pX9_0 : gPut 9 0 .int := fun C T N h => by cases h; exact ⟨rfl, tyX9_ok 0 (by decide), ⟨tyX9, tyX9_ok⟩, nmX9⟩
set_option maxRecDepth 100000 in
theorem wJ6_265 : Cond.constant RJ6 265 (1431655765) ∈ gTbl := gT_of 837 rfl rfl
set_option maxRecDepth 100000 in
theorem wJ6_266 : Cond.constant RJ6 266 (858993459) ∈ gTbl := gT_of 838 rfl rfl
set_option maxRecDepth 100000 in
theorem wJ6_267 : Cond.constant RJ6 267 (252645135) ∈ gTbl := gT_of 839 rfl rfl
set_option maxRecDepth 100000 in
theorem wX1_31 : gSw RX1 31 mX1_allSo 3 := ⟨⟨gT_of 1173 rfl rfl, gT_of 1174 rfl rfl, gT_of 137 rfl rfl, gT_of 1175 rfl rfl⟩, by decide +kernel, by decide +kernel, by decide +kernel⟩
set_option maxRecDepth 100000 in
theorem wX1_39 : Cond.methodLink RX1 39 arraycopyName ∈ gTbl ∧ Cond.native arraycopyName ∈ gTbl ∧ Cond.static arraycopyName ∈ gTbl ∧ Cond.initialized "java/lang/System" ∈ gTbl := ⟨gT_of 1183 rfl rfl, gT_of 740 rfl rfl, gT_of 739 rfl rfl, gT_of 144 rfl rfl⟩
set_option maxRecDepth 100000 in
theorem wX1_45 : gVw RX1 45 mX10_lineCount 2 := ⟨⟨gT_of 1176 rfl rfl, gT_of 771 rfl rfl, gT_of 772 rfl rfl, gT_of 127 rfl rfl, gT_of 773 rfl rfl⟩, by decide +kernel, by decide +kernel, by decide +kernel⟩
set_option maxRecDepth 100000 in
theorem wX1_51 : gVw RX1 51 mX10_line 4 := ⟨⟨gT_of 1177 rfl rfl, gT_of 775 rfl rfl, gT_of 776 rfl rfl, gT_of 127 rfl rfl, gT_of 777 rfl rfl⟩, by decide +kernel, by decide +kernel, by decide +kernel⟩
set_option maxRecDepth 100000 in
theorem wX1_55 : gVw RX1 55 mX6_wereMatched 3 := ⟨⟨gT_of 1178 rfl rfl, gT_of 1179 rfl rfl, gT_of 1180 rfl rfl, gT_of 131 rfl rfl, gT_of 1181 rfl rfl⟩, by decide +kernel, by decide +kernel, by decide +kernel⟩
set_option maxRecDepth 100000 in
theorem wX1_59 : gVw RX1 59 mX1_sureOf 1 := ⟨⟨gT_of 1188 rfl rfl, gT_of 1190 rfl rfl, gT_of 50 rfl rfl, gT_of 137 rfl rfl, gT_of 1191 rfl rfl⟩, by decide +kernel, by decide +kernel, by decide +kernel⟩
set_option maxRecDepth 100000 in
theorem wX1_63 : gVw RX1 63 mX1_bestToAsk 0 := ⟨⟨gT_of 1192 rfl rfl, gT_of 1194 rfl rfl, gT_of 51 rfl rfl, gT_of 137 rfl rfl, gT_of 1195 rfl rfl⟩, by decide +kernel, by decide +kernel, by decide +kernel⟩
set_option maxRecDepth 100000 in
theorem wX1_67 : gVw RX1 67 mX1_mostAlike 2 := ⟨⟨gT_of 1196 rfl rfl, gT_of 1198 rfl rfl, gT_of 52 rfl rfl, gT_of 137 rfl rfl, gT_of 1199 rfl rfl⟩, by decide +kernel, by decide +kernel, by decide +kernel⟩
set_option maxRecDepth 100000 in
theorem wX1_70 : gSw RX1 70 mX6_inputOf 2 := ⟨⟨gT_of 1200 rfl rfl, gT_of 1089 rfl rfl, gT_of 131 rfl rfl, gT_of 1090 rfl rfl⟩, by decide +kernel, by decide +kernel, by decide +kernel⟩
set_option maxRecDepth 100000 in
theorem wX1_73 : Cond.methodLink RX1 73 Lib.Math.max.name ∈ gTbl ∧ Cond.static Lib.Math.max.name ∈ gTbl ∧ Cond.initialized "java/lang/Math" ∈ gTbl ∧ Cond.code Lib.Math.max.name Lib.Math.max.code 2 (some .int) ∈ gTbl := ⟨gT_of 1201 rfl rfl, gT_of 801 rfl rfl, gT_of 139 rfl rfl, gT_of 802 rfl rfl⟩
set_option maxRecDepth 100000 in
theorem wX10_38 : gVw RX10 38 mX10_has 2 := ⟨⟨gT_of 608 rfl rfl, gT_of 609 rfl rfl, gT_of 610 rfl rfl, gT_of 127 rfl rfl, gT_of 611 rfl rfl⟩, by decide +kernel, by decide +kernel, by decide +kernel⟩
set_option maxRecDepth 100000 in
theorem wX10_42 : gSw RX10 42 mX10_placeOf 2 := ⟨⟨gT_of 746 rfl rfl, gT_of 747 rfl rfl, gT_of 127 rfl rfl, gT_of 748 rfl rfl⟩, by decide +kernel, by decide +kernel, by decide +kernel⟩
set_option maxRecDepth 100000 in
theorem wX10_51 : Cond.methodLink RX10 51 arraycopyName ∈ gTbl ∧ Cond.native arraycopyName ∈ gTbl ∧ Cond.static arraycopyName ∈ gTbl ∧ Cond.initialized "java/lang/System" ∈ gTbl := ⟨gT_of 745 rfl rfl, gT_of 740 rfl rfl, gT_of 739 rfl rfl, gT_of 144 rfl rfl⟩
set_option maxRecDepth 100000 in
theorem wX11_77 : gVw RX11 77 mX10_put 1 := ⟨⟨gT_of 592 rfl rfl, gT_of 593 rfl rfl, gT_of 594 rfl rfl, gT_of 127 rfl rfl, gT_of 595 rfl rfl⟩, by decide +kernel, by decide +kernel, by decide +kernel⟩
set_option maxRecDepth 100000 in
theorem wX11_87 : gVw RX11 87 mX10_hasRoom 2 := ⟨⟨gT_of 604 rfl rfl, gT_of 605 rfl rfl, gT_of 606 rfl rfl, gT_of 127 rfl rfl, gT_of 607 rfl rfl⟩, by decide +kernel, by decide +kernel, by decide +kernel⟩
set_option maxRecDepth 100000 in
theorem wX11_95 : gVw RX11 95 mX7_read 3 := ⟨⟨gT_of 612 rfl rfl, gT_of 613 rfl rfl, gT_of 614 rfl rfl, gT_of 128 rfl rfl, gT_of 615 rfl rfl⟩, by decide +kernel, by decide +kernel, by decide +kernel⟩
set_option maxRecDepth 100000 in
theorem wX11_101 : gVw RX11 101 mX10_keep 3 := ⟨⟨gT_of 741 rfl rfl, gT_of 742 rfl rfl, gT_of 743 rfl rfl, gT_of 127 rfl rfl, gT_of 744 rfl rfl⟩, by decide +kernel, by decide +kernel, by decide +kernel⟩
set_option maxRecDepth 100000 in
theorem wX11_105 : gVw RX11 105 mX10_has 2 := ⟨⟨gT_of 757 rfl rfl, gT_of 609 rfl rfl, gT_of 610 rfl rfl, gT_of 127 rfl rfl, gT_of 611 rfl rfl⟩, by decide +kernel, by decide +kernel, by decide +kernel⟩
set_option maxRecDepth 100000 in
theorem wX11_108 : gVw RX11 108 mX10_bar 2 := ⟨⟨gT_of 758 rfl rfl, gT_of 759 rfl rfl, gT_of 760 rfl rfl, gT_of 127 rfl rfl, gT_of 761 rfl rfl⟩, by decide +kernel, by decide +kernel, by decide +kernel⟩
set_option maxRecDepth 100000 in
theorem wX11_112 : gVw RX11 112 mX11_tellLine 5 := ⟨⟨gT_of 766 rfl rfl, gT_of 768 rfl rfl, gT_of 10 rfl rfl, gT_of 126 rfl rfl, gT_of 769 rfl rfl⟩, by decide +kernel, by decide +kernel, by decide +kernel⟩
set_option maxRecDepth 100000 in
theorem wX11_116 : gVw RX11 116 mX11_begins 2 := ⟨⟨gT_of 782 rfl rfl, gT_of 784 rfl rfl, gT_of 11 rfl rfl, gT_of 126 rfl rfl, gT_of 785 rfl rfl⟩, by decide +kernel, by decide +kernel, by decide +kernel⟩
set_option maxRecDepth 100000 in
theorem wX11_119 : gVw RX11 119 mX8_follow 3 := ⟨⟨gT_of 808 rfl rfl, gT_of 809 rfl rfl, gT_of 810 rfl rfl, gT_of 129 rfl rfl, gT_of 811 rfl rfl⟩, by decide +kernel, by decide +kernel, by decide +kernel⟩
set_option maxRecDepth 100000 in
theorem wX11_123 : gVw RX11 123 mX11_reaches 3 := ⟨⟨gT_of 909 rfl rfl, gT_of 911 rfl rfl, gT_of 25 rfl rfl, gT_of 126 rfl rfl, gT_of 912 rfl rfl⟩, by decide +kernel, by decide +kernel, by decide +kernel⟩
set_option maxRecDepth 100000 in
theorem wX11_127 : gVw RX11 127 mX8_tell 1 := ⟨⟨gT_of 913 rfl rfl, gT_of 914 rfl rfl, gT_of 915 rfl rfl, gT_of 129 rfl rfl, gT_of 916 rfl rfl⟩, by decide +kernel, by decide +kernel, by decide +kernel⟩
set_option maxRecDepth 100000 in
theorem wX11_135 : gVw RX11 135 mX0_tell 2 := ⟨⟨gT_of 925 rfl rfl, gT_of 926 rfl rfl, gT_of 927 rfl rfl, gT_of 130 rfl rfl, gT_of 928 rfl rfl⟩, by decide +kernel, by decide +kernel, by decide +kernel⟩
set_option maxRecDepth 100000 in
theorem wX11_139 : gVw RX11 139 mX2_inputAt 4 := ⟨⟨gT_of 933 rfl rfl, gT_of 934 rfl rfl, gT_of 935 rfl rfl, gT_of 133 rfl rfl, gT_of 936 rfl rfl⟩, by decide +kernel, by decide +kernel, by decide +kernel⟩
set_option maxRecDepth 100000 in
theorem wX11_143 : gVw RX11 143 mX2_tellRhythm 3 := ⟨⟨gT_of 953 rfl rfl, gT_of 954 rfl rfl, gT_of 955 rfl rfl, gT_of 133 rfl rfl, gT_of 956 rfl rfl⟩, by decide +kernel, by decide +kernel, by decide +kernel⟩
set_option maxRecDepth 100000 in
theorem wX11_146 : gVw RX11 146 mX3_tell 2 := ⟨⟨gT_of 978 rfl rfl, gT_of 979 rfl rfl, gT_of 980 rfl rfl, gT_of 134 rfl rfl, gT_of 981 rfl rfl⟩, by decide +kernel, by decide +kernel, by decide +kernel⟩
set_option maxRecDepth 100000 in
theorem wX11_149 : gVw RX11 149 mX9_take 3 := ⟨⟨gT_of 1024 rfl rfl, gT_of 1025 rfl rfl, gT_of 1026 rfl rfl, gT_of 135 rfl rfl, gT_of 1027 rfl rfl⟩, by decide +kernel, by decide +kernel, by decide +kernel⟩
set_option maxRecDepth 100000 in
theorem wX11_156 : gVw RX11 156 mX9_tell 2 := ⟨⟨gT_of 1039 rfl rfl, gT_of 1040 rfl rfl, gT_of 1041 rfl rfl, gT_of 135 rfl rfl, gT_of 1042 rfl rfl⟩, by decide +kernel, by decide +kernel, by decide +kernel⟩
set_option maxRecDepth 100000 in
theorem wX11_157 : gVw RX11 157 mX5_gatherFlows 1 := ⟨⟨gT_of 1084 rfl rfl, gT_of 1085 rfl rfl, gT_of 1086 rfl rfl, gT_of 136 rfl rfl, gT_of 1087 rfl rfl⟩, by decide +kernel, by decide +kernel, by decide +kernel⟩
set_option maxRecDepth 100000 in
theorem wX11_161 : gVw RX11 161 mX5_tellFlow 3 := ⟨⟨gT_of 1095 rfl rfl, gT_of 1096 rfl rfl, gT_of 1097 rfl rfl, gT_of 136 rfl rfl, gT_of 1098 rfl rfl⟩, by decide +kernel, by decide +kernel, by decide +kernel⟩
set_option maxRecDepth 100000 in
theorem wX11_165 : gVw RX11 165 mX5_tell 2 := ⟨⟨gT_of 1106 rfl rfl, gT_of 1107 rfl rfl, gT_of 1108 rfl rfl, gT_of 136 rfl rfl, gT_of 1109 rfl rfl⟩, by decide +kernel, by decide +kernel, by decide +kernel⟩
set_option maxRecDepth 100000 in
theorem wX11_166 : gVw RX11 166 mX1_begin 1 := ⟨⟨gT_of 1164 rfl rfl, gT_of 1165 rfl rfl, gT_of 1166 rfl rfl, gT_of 137 rfl rfl, gT_of 1167 rfl rfl⟩, by decide +kernel, by decide +kernel, by decide +kernel⟩
set_option maxRecDepth 100000 in
theorem wX11_172 : gVw RX11 172 mX8_begin_ 4 := ⟨⟨gT_of 1168 rfl rfl, gT_of 792 rfl rfl, gT_of 793 rfl rfl, gT_of 129 rfl rfl, gT_of 794 rfl rfl⟩, by decide +kernel, by decide +kernel, by decide +kernel⟩
set_option maxRecDepth 100000 in
theorem wX11_179 : gVw RX11 179 mX1_keepIfSo 4 := ⟨⟨gT_of 1169 rfl rfl, gT_of 1170 rfl rfl, gT_of 1171 rfl rfl, gT_of 137 rfl rfl, gT_of 1172 rfl rfl⟩, by decide +kernel, by decide +kernel, by decide +kernel⟩
set_option maxRecDepth 100000 in
theorem wX11_183 : gVw RX11 183 mX1_tell 1 := ⟨⟨gT_of 1184 rfl rfl, gT_of 1185 rfl rfl, gT_of 1186 rfl rfl, gT_of 137 rfl rfl, gT_of 1187 rfl rfl⟩, by decide +kernel, by decide +kernel, by decide +kernel⟩
set_option maxRecDepth 100000 in
theorem wX11_184 : gVw RX11 184 mX8_begin 2 := ⟨⟨gT_of 786 rfl rfl, gT_of 787 rfl rfl, gT_of 788 rfl rfl, gT_of 129 rfl rfl, gT_of 789 rfl rfl⟩, by decide +kernel, by decide +kernel, by decide +kernel⟩
set_option maxRecDepth 100000 in
theorem wX11_187 : gVw RX11 187 mX8_draw 2 := ⟨⟨gT_of 1206 rfl rfl, gT_of 1207 rfl rfl, gT_of 1208 rfl rfl, gT_of 129 rfl rfl, gT_of 1209 rfl rfl⟩, by decide +kernel, by decide +kernel, by decide +kernel⟩
set_option maxRecDepth 100000 in
theorem wX11_195 : gVw RX11 195 mX10_copy 1 := ⟨⟨gT_of 1223 rfl rfl, gT_of 1224 rfl rfl, gT_of 1225 rfl rfl, gT_of 127 rfl rfl, gT_of 1226 rfl rfl⟩, by decide +kernel, by decide +kernel, by decide +kernel⟩
set_option maxRecDepth 100000 in
theorem wX11_199 : gVw RX11 199 mX10_lineCount 2 := ⟨⟨gT_of 770 rfl rfl, gT_of 771 rfl rfl, gT_of 772 rfl rfl, gT_of 127 rfl rfl, gT_of 773 rfl rfl⟩, by decide +kernel, by decide +kernel, by decide +kernel⟩
set_option maxRecDepth 100000 in
theorem wX11_202 : gVw RX11 202 mX10_line 4 := ⟨⟨gT_of 774 rfl rfl, gT_of 775 rfl rfl, gT_of 776 rfl rfl, gT_of 127 rfl rfl, gT_of 777 rfl rfl⟩, by decide +kernel, by decide +kernel, by decide +kernel⟩
set_option maxRecDepth 100000 in
theorem wX12_145 : gSw RX12 145 mX12_four 4 := ⟨⟨gT_of 1484 rfl rfl, gT_of 1485 rfl rfl, gT_of 138 rfl rfl, gT_of 1486 rfl rfl⟩, by decide +kernel, by decide +kernel, by decide +kernel⟩
set_option maxRecDepth 100000 in
theorem wX12_149 : Cond.constantLong RX12 149 (1048576) ∈ gTbl := gT_of 1487 rfl rfl
set_option maxRecDepth 100000 in
theorem wX12_151 : gSw RX12 151 mX12_eight 8 := ⟨⟨gT_of 1481 rfl rfl, gT_of 1482 rfl rfl, gT_of 138 rfl rfl, gT_of 1483 rfl rfl⟩, by decide +kernel, by decide +kernel, by decide +kernel⟩
set_option maxRecDepth 100000 in
theorem wX12_158 : gVw RX12 158 mX12_byteAt 1 := ⟨⟨gT_of 1469 rfl rfl, gT_of 1471 rfl rfl, gT_of 56 rfl rfl, gT_of 138 rfl rfl, gT_of 1472 rfl rfl⟩, by decide +kernel, by decide +kernel, by decide +kernel⟩
set_option maxRecDepth 100000 in
theorem wX12_168 : gSw RX12 168 mX12_isLetter 1 := ⟨⟨gT_of 1473 rfl rfl, gT_of 1474 rfl rfl, gT_of 138 rfl rfl, gT_of 1475 rfl rfl⟩, by decide +kernel, by decide +kernel, by decide +kernel⟩
set_option maxRecDepth 100000 in
theorem wX12_172 : Cond.constantLong RX12 172 (32) ∈ gTbl := gT_of 1476 rfl rfl
set_option maxRecDepth 100000 in
theorem wX12_174 : Cond.constantLong RX12 174 (96) ∈ gTbl := gT_of 1477 rfl rfl
set_option maxRecDepth 100000 in
theorem wX12_176 : gSw RX12 176 mX12_wordOf 1 := ⟨⟨gT_of 1478 rfl rfl, gT_of 1479 rfl rfl, gT_of 138 rfl rfl, gT_of 1480 rfl rfl⟩, by decide +kernel, by decide +kernel, by decide +kernel⟩
set_option maxRecDepth 100000 in
theorem wX12_183 : gSw RX12 183 mX12_isDigit 1 := ⟨⟨gT_of 1488 rfl rfl, gT_of 1489 rfl rfl, gT_of 138 rfl rfl, gT_of 1490 rfl rfl⟩, by decide +kernel, by decide +kernel, by decide +kernel⟩
set_option maxRecDepth 100000 in
theorem wX12_193 : gVw RX12 193 mX12_ends 0 := ⟨⟨gT_of 1499 rfl rfl, gT_of 1501 rfl rfl, gT_of 59 rfl rfl, gT_of 138 rfl rfl, gT_of 1502 rfl rfl⟩, by decide +kernel, by decide +kernel, by decide +kernel⟩
set_option maxRecDepth 100000 in
theorem wX12_196 : gSw RX12 196 mX12_isIn 3 := ⟨⟨gT_of 1458 rfl rfl, gT_of 1459 rfl rfl, gT_of 138 rfl rfl, gT_of 1460 rfl rfl⟩, by decide +kernel, by decide +kernel, by decide +kernel⟩
set_option maxRecDepth 100000 in
theorem wX12_200 : gVw RX12 200 mX12_also 2 := ⟨⟨gT_of 1507 rfl rfl, gT_of 1509 rfl rfl, gT_of 61 rfl rfl, gT_of 138 rfl rfl, gT_of 1510 rfl rfl⟩, by decide +kernel, by decide +kernel, by decide +kernel⟩
set_option maxRecDepth 100000 in
theorem wX12_204 : gVw RX12 204 mX12_advance 0 := ⟨⟨gT_of 1465 rfl rfl, gT_of 1467 rfl rfl, gT_of 55 rfl rfl, gT_of 138 rfl rfl, gT_of 1468 rfl rfl⟩, by decide +kernel, by decide +kernel, by decide +kernel⟩
set_option maxRecDepth 100000 in
theorem wX12_207 : gVw RX12 207 mX12_wordIn 2 := ⟨⟨gT_of 1495 rfl rfl, gT_of 1497 rfl rfl, gT_of 58 rfl rfl, gT_of 138 rfl rfl, gT_of 1498 rfl rfl⟩, by decide +kernel, by decide +kernel, by decide +kernel⟩
set_option maxRecDepth 100000 in
theorem wX12_211 : gVw RX12 211 mX12_numbered 2 := ⟨⟨gT_of 1503 rfl rfl, gT_of 1505 rfl rfl, gT_of 60 rfl rfl, gT_of 138 rfl rfl, gT_of 1506 rfl rfl⟩, by decide +kernel, by decide +kernel, by decide +kernel⟩
set_option maxRecDepth 100000 in
theorem wX12_214 : gVw RX12 214 mX12_endsLine 0 := ⟨⟨gT_of 1511 rfl rfl, gT_of 1513 rfl rfl, gT_of 62 rfl rfl, gT_of 138 rfl rfl, gT_of 1514 rfl rfl⟩, by decide +kernel, by decide +kernel, by decide +kernel⟩
set_option maxRecDepth 100000 in
theorem wX12_217 : gVw RX12 217 mX12_isOf 2 := ⟨⟨gT_of 1461 rfl rfl, gT_of 1463 rfl rfl, gT_of 54 rfl rfl, gT_of 138 rfl rfl, gT_of 1464 rfl rfl⟩, by decide +kernel, by decide +kernel, by decide +kernel⟩
set_option maxRecDepth 100000 in
theorem wX12_221 : gVw RX12 221 mX12_crossbarLine 0 := ⟨⟨gT_of 1491 rfl rfl, gT_of 1493 rfl rfl, gT_of 57 rfl rfl, gT_of 138 rfl rfl, gT_of 1494 rfl rfl⟩, by decide +kernel, by decide +kernel, by decide +kernel⟩
set_option maxRecDepth 100000 in
theorem wX12_224 : gVw RX12 224 mX12_trafficLine 0 := ⟨⟨gT_of 1515 rfl rfl, gT_of 1517 rfl rfl, gT_of 63 rfl rfl, gT_of 138 rfl rfl, gT_of 1518 rfl rfl⟩, by decide +kernel, by decide +kernel, by decide +kernel⟩
set_option maxRecDepth 100000 in
theorem wX12_227 : gVw RX12 227 mX12_logLine 0 := ⟨⟨gT_of 1519 rfl rfl, gT_of 1521 rfl rfl, gT_of 64 rfl rfl, gT_of 138 rfl rfl, gT_of 1522 rfl rfl⟩, by decide +kernel, by decide +kernel, by decide +kernel⟩
set_option maxRecDepth 100000 in
theorem wX12_230 : gSw RX12 230 mX12_sizeOf 1 := ⟨⟨gT_of 1523 rfl rfl, gT_of 1524 rfl rfl, gT_of 138 rfl rfl, gT_of 1525 rfl rfl⟩, by decide +kernel, by decide +kernel, by decide +kernel⟩
set_option maxRecDepth 100000 in
theorem wX12_233 : gSw RX12 233 mX12_placeOf 2 := ⟨⟨gT_of 1526 rfl rfl, gT_of 1527 rfl rfl, gT_of 138 rfl rfl, gT_of 1528 rfl rfl⟩, by decide +kernel, by decide +kernel, by decide +kernel⟩
set_option maxRecDepth 100000 in
theorem wX12_251 : gVw RX12 251 mX12_isTraffic 1 := ⟨⟨gT_of 1541 rfl rfl, gT_of 1543 rfl rfl, gT_of 65 rfl rfl, gT_of 138 rfl rfl, gT_of 1544 rfl rfl⟩, by decide +kernel, by decide +kernel, by decide +kernel⟩
set_option maxRecDepth 100000 in
theorem wX12_275 : gVw RX12 275 mX12_comes 4 := ⟨⟨gT_of 1615 rfl rfl, gT_of 1617 rfl rfl, gT_of 81 rfl rfl, gT_of 138 rfl rfl, gT_of 1618 rfl rfl⟩, by decide +kernel, by decide +kernel, by decide +kernel⟩
set_option maxRecDepth 100000 in
theorem wX12_279 : gSw RX12 279 mX12_at 2 := ⟨⟨gT_of 1608 rfl rfl, gT_of 1609 rfl rfl, gT_of 138 rfl rfl, gT_of 1610 rfl rfl⟩, by decide +kernel, by decide +kernel, by decide +kernel⟩
set_option maxRecDepth 100000 in
theorem wX12_282 : gVw RX12 282 mX12_loses 1 := ⟨⟨gT_of 1619 rfl rfl, gT_of 1621 rfl rfl, gT_of 82 rfl rfl, gT_of 138 rfl rfl, gT_of 1622 rfl rfl⟩, by decide +kernel, by decide +kernel, by decide +kernel⟩
set_option maxRecDepth 100000 in
theorem wX12_285 : gVw RX12 285 mX12_cellComes 3 := ⟨⟨gT_of 1611 rfl rfl, gT_of 1613 rfl rfl, gT_of 80 rfl rfl, gT_of 138 rfl rfl, gT_of 1614 rfl rfl⟩, by decide +kernel, by decide +kernel, by decide +kernel⟩
set_option maxRecDepth 100000 in
theorem wX12_289 : gVw RX12 289 mX12_leftOf 1 := ⟨⟨gT_of 1585 rfl rfl, gT_of 1587 rfl rfl, gT_of 75 rfl rfl, gT_of 138 rfl rfl, gT_of 1588 rfl rfl⟩, by decide +kernel, by decide +kernel, by decide +kernel⟩
set_option maxRecDepth 100000 in
theorem wX12_292 : gSw RX12 292 mX12_bitsOf 1 := ⟨⟨gT_of 1589 rfl rfl, gT_of 1590 rfl rfl, gT_of 138 rfl rfl, gT_of 1591 rfl rfl⟩, by decide +kernel, by decide +kernel, by decide +kernel⟩
set_option maxRecDepth 100000 in
theorem wX12_295 : gVw RX12 295 mX12_servedSet 0 := ⟨⟨gT_of 1581 rfl rfl, gT_of 1583 rfl rfl, gT_of 74 rfl rfl, gT_of 138 rfl rfl, gT_of 1584 rfl rfl⟩, by decide +kernel, by decide +kernel, by decide +kernel⟩
set_option maxRecDepth 100000 in
theorem wX12_305 : gVw RX12 305 mX12_headOf 1 := ⟨⟨gT_of 1592 rfl rfl, gT_of 1594 rfl rfl, gT_of 76 rfl rfl, gT_of 138 rfl rfl, gT_of 1595 rfl rfl⟩, by decide +kernel, by decide +kernel, by decide +kernel⟩
set_option maxRecDepth 100000 in
theorem wX12_308 : gVw RX12 308 mX12_asks 3 := ⟨⟨gT_of 1604 rfl rfl, gT_of 1606 rfl rfl, gT_of 79 rfl rfl, gT_of 138 rfl rfl, gT_of 1607 rfl rfl⟩, by decide +kernel, by decide +kernel, by decide +kernel⟩
set_option maxRecDepth 100000 in
theorem wX12_311 : gVw RX12 311 mX12_round 2 := ⟨⟨gT_of 1600 rfl rfl, gT_of 1602 rfl rfl, gT_of 78 rfl rfl, gT_of 138 rfl rfl, gT_of 1603 rfl rfl⟩, by decide +kernel, by decide +kernel, by decide +kernel⟩
set_option maxRecDepth 100000 in
theorem wX12_315 : gVw RX12 315 mX12_sendsFans 0 := ⟨⟨gT_of 1577 rfl rfl, gT_of 1579 rfl rfl, gT_of 73 rfl rfl, gT_of 138 rfl rfl, gT_of 1580 rfl rfl⟩, by decide +kernel, by decide +kernel, by decide +kernel⟩
set_option maxRecDepth 100000 in
theorem wX12_318 : gVw RX12 318 mX12_matches 2 := ⟨⟨gT_of 1596 rfl rfl, gT_of 1598 rfl rfl, gT_of 77 rfl rfl, gT_of 138 rfl rfl, gT_of 1599 rfl rfl⟩, by decide +kernel, by decide +kernel, by decide +kernel⟩
set_option maxRecDepth 100000 in
theorem wX12_322 : gVw RX12 322 mX12_isPort 1 := ⟨⟨gT_of 1565 rfl rfl, gT_of 1567 rfl rfl, gT_of 70 rfl rfl, gT_of 138 rfl rfl, gT_of 1568 rfl rfl⟩, by decide +kernel, by decide +kernel, by decide +kernel⟩
set_option maxRecDepth 100000 in
theorem wX12_325 : gVw RX12 325 mX12_goesSlot 0 := ⟨⟨gT_of 1573 rfl rfl, gT_of 1575 rfl rfl, gT_of 72 rfl rfl, gT_of 138 rfl rfl, gT_of 1576 rfl rfl⟩, by decide +kernel, by decide +kernel, by decide +kernel⟩
set_option maxRecDepth 100000 in
theorem wX12_328 : gVw RX12 328 mX12_fanComes 2 := ⟨⟨gT_of 1623 rfl rfl, gT_of 1625 rfl rfl, gT_of 83 rfl rfl, gT_of 138 rfl rfl, gT_of 1626 rfl rfl⟩, by decide +kernel, by decide +kernel, by decide +kernel⟩
set_option maxRecDepth 100000 in
theorem wX12_331 : gVw RX12 331 mX12_bursts 2 := ⟨⟨gT_of 1627 rfl rfl, gT_of 1629 rfl rfl, gT_of 84 rfl rfl, gT_of 138 rfl rfl, gT_of 1630 rfl rfl⟩, by decide +kernel, by decide +kernel, by decide +kernel⟩
set_option maxRecDepth 100000 in
theorem wX12_334 : gVw RX12 334 mX12_begins 0 := ⟨⟨gT_of 1557 rfl rfl, gT_of 1559 rfl rfl, gT_of 68 rfl rfl, gT_of 138 rfl rfl, gT_of 1560 rfl rfl⟩, by decide +kernel, by decide +kernel, by decide +kernel⟩
set_option maxRecDepth 100000 in
theorem wX12_337 : gVw RX12 337 mX12_can 3 := ⟨⟨gT_of 1561 rfl rfl, gT_of 1563 rfl rfl, gT_of 69 rfl rfl, gT_of 138 rfl rfl, gT_of 1564 rfl rfl⟩, by decide +kernel, by decide +kernel, by decide +kernel⟩
set_option maxRecDepth 100000 in
theorem wX12_340 : gVw RX12 340 mX12_does 3 := ⟨⟨gT_of 1569 rfl rfl, gT_of 1571 rfl rfl, gT_of 71 rfl rfl, gT_of 138 rfl rfl, gT_of 1572 rfl rfl⟩, by decide +kernel, by decide +kernel, by decide +kernel⟩
set_option maxRecDepth 100000 in
theorem wX12_344 : gVw RX12 344 mX12_isCrossbar 1 := ⟨⟨gT_of 1549 rfl rfl, gT_of 1551 rfl rfl, gT_of 66 rfl rfl, gT_of 138 rfl rfl, gT_of 1552 rfl rfl⟩, by decide +kernel, by decide +kernel, by decide +kernel⟩
set_option maxRecDepth 100000 in
theorem wX12_347 : gVw RX12 347 mX12_goes 1 := ⟨⟨gT_of 1553 rfl rfl, gT_of 1555 rfl rfl, gT_of 67 rfl rfl, gT_of 138 rfl rfl, gT_of 1556 rfl rfl⟩, by decide +kernel, by decide +kernel, by decide +kernel⟩
set_option maxRecDepth 100000 in
theorem wX12_351 : gVw RX12 351 mX12_isState 3 := ⟨⟨gT_of 1635 rfl rfl, gT_of 1637 rfl rfl, gT_of 85 rfl rfl, gT_of 138 rfl rfl, gT_of 1638 rfl rfl⟩, by decide +kernel, by decide +kernel, by decide +kernel⟩
set_option maxRecDepth 100000 in
theorem wX12_354 : gVw RX12 354 mX12_nowOf 1 := ⟨⟨gT_of 1639 rfl rfl, gT_of 1641 rfl rfl, gT_of 86 rfl rfl, gT_of 138 rfl rfl, gT_of 1642 rfl rfl⟩, by decide +kernel, by decide +kernel, by decide +kernel⟩
set_option maxRecDepth 100000 in
theorem wX12_357 : gVw RX12 357 mX12_loads 0 := ⟨⟨gT_of 1651 rfl rfl, gT_of 1653 rfl rfl, gT_of 87 rfl rfl, gT_of 138 rfl rfl, gT_of 1654 rfl rfl⟩, by decide +kernel, by decide +kernel, by decide +kernel⟩
set_option maxRecDepth 100000 in
theorem wX12_360 : gVw RX12 360 mX12_keepsPointers 1 := ⟨⟨gT_of 1659 rfl rfl, gT_of 1661 rfl rfl, gT_of 88 rfl rfl, gT_of 138 rfl rfl, gT_of 1662 rfl rfl⟩, by decide +kernel, by decide +kernel, by decide +kernel⟩
set_option maxRecDepth 100000 in
theorem wX12_363 : gVw RX12 363 mX12_matchedNow 0 := ⟨⟨gT_of 1663 rfl rfl, gT_of 1665 rfl rfl, gT_of 89 rfl rfl, gT_of 138 rfl rfl, gT_of 1666 rfl rfl⟩, by decide +kernel, by decide +kernel, by decide +kernel⟩
set_option maxRecDepth 100000 in
theorem wX12_366 : gVw RX12 366 mX12_likeOf 1 := ⟨⟨gT_of 1667 rfl rfl, gT_of 1669 rfl rfl, gT_of 90 rfl rfl, gT_of 138 rfl rfl, gT_of 1670 rfl rfl⟩, by decide +kernel, by decide +kernel, by decide +kernel⟩
set_option maxRecDepth 100000 in
theorem wX12_369 : gVw RX12 369 mX12_worth 3 := ⟨⟨gT_of 1679 rfl rfl, gT_of 1681 rfl rfl, gT_of 92 rfl rfl, gT_of 138 rfl rfl, gT_of 1682 rfl rfl⟩, by decide +kernel, by decide +kernel, by decide +kernel⟩
set_option maxRecDepth 100000 in
theorem wX12_373 : gVw RX12 373 mX12_tries 1 := ⟨⟨gT_of 1683 rfl rfl, gT_of 1685 rfl rfl, gT_of 93 rfl rfl, gT_of 138 rfl rfl, gT_of 1686 rfl rfl⟩, by decide +kernel, by decide +kernel, by decide +kernel⟩
set_option maxRecDepth 100000 in
theorem wX12_376 : gVw RX12 376 mX12_judges 1 := ⟨⟨gT_of 1675 rfl rfl, gT_of 1677 rfl rfl, gT_of 91 rfl rfl, gT_of 138 rfl rfl, gT_of 1678 rfl rfl⟩, by decide +kernel, by decide +kernel, by decide +kernel⟩
set_option maxRecDepth 100000 in
theorem wX12_380 : gVw RX12 380 mX12_needOf 0 := ⟨⟨gT_of 1687 rfl rfl, gT_of 1689 rfl rfl, gT_of 94 rfl rfl, gT_of 138 rfl rfl, gT_of 1690 rfl rfl⟩, by decide +kernel, by decide +kernel, by decide +kernel⟩
set_option maxRecDepth 100000 in
theorem wX12_383 : gVw RX12 383 mX12_rowOf 1 := ⟨⟨gT_of 1691 rfl rfl, gT_of 1693 rfl rfl, gT_of 95 rfl rfl, gT_of 138 rfl rfl, gT_of 1694 rfl rfl⟩, by decide +kernel, by decide +kernel, by decide +kernel⟩
set_option maxRecDepth 100000 in
theorem wX12_389 : gSw RX12 389 mX12_outputOf 1 := ⟨⟨gT_of 1703 rfl rfl, gT_of 1704 rfl rfl, gT_of 138 rfl rfl, gT_of 1705 rfl rfl⟩, by decide +kernel, by decide +kernel, by decide +kernel⟩
set_option maxRecDepth 100000 in
theorem wX12_392 : gVw RX12 392 mX12_firstOf 1 := ⟨⟨gT_of 1706 rfl rfl, gT_of 1708 rfl rfl, gT_of 97 rfl rfl, gT_of 138 rfl rfl, gT_of 1709 rfl rfl⟩, by decide +kernel, by decide +kernel, by decide +kernel⟩
set_option maxRecDepth 100000 in
theorem wX12_395 : gVw RX12 395 mX12_isKept 1 := ⟨⟨gT_of 1722 rfl rfl, gT_of 1724 rfl rfl, gT_of 101 rfl rfl, gT_of 138 rfl rfl, gT_of 1725 rfl rfl⟩, by decide +kernel, by decide +kernel, by decide +kernel⟩
set_option maxRecDepth 100000 in
theorem wX12_398 : gVw RX12 398 mX12_nextAsk 1 := ⟨⟨gT_of 1726 rfl rfl, gT_of 1728 rfl rfl, gT_of 102 rfl rfl, gT_of 138 rfl rfl, gT_of 1729 rfl rfl⟩, by decide +kernel, by decide +kernel, by decide +kernel⟩
set_option maxRecDepth 100000 in
theorem wX12_401 : gVw RX12 401 mX12_placeIn 1 := ⟨⟨gT_of 1730 rfl rfl, gT_of 1732 rfl rfl, gT_of 103 rfl rfl, gT_of 138 rfl rfl, gT_of 1733 rfl rfl⟩, by decide +kernel, by decide +kernel, by decide +kernel⟩
set_option maxRecDepth 100000 in
theorem wX12_404 : gVw RX12 404 mX12_putsIn 1 := ⟨⟨gT_of 1714 rfl rfl, gT_of 1716 rfl rfl, gT_of 99 rfl rfl, gT_of 138 rfl rfl, gT_of 1717 rfl rfl⟩, by decide +kernel, by decide +kernel, by decide +kernel⟩
set_option maxRecDepth 100000 in
theorem wX12_407 : gVw RX12 407 mX12_stable 0 := ⟨⟨gT_of 1718 rfl rfl, gT_of 1720 rfl rfl, gT_of 100 rfl rfl, gT_of 138 rfl rfl, gT_of 1721 rfl rfl⟩, by decide +kernel, by decide +kernel, by decide +kernel⟩
set_option maxRecDepth 100000 in
theorem wX12_410 : gVw RX12 410 mX12_sendsLeast 1 := ⟨⟨gT_of 1734 rfl rfl, gT_of 1736 rfl rfl, gT_of 104 rfl rfl, gT_of 138 rfl rfl, gT_of 1737 rfl rfl⟩, by decide +kernel, by decide +kernel, by decide +kernel⟩
set_option maxRecDepth 100000 in
theorem wX12_413 : gVw RX12 413 mX12_shadows 0 := ⟨⟨gT_of 1699 rfl rfl, gT_of 1701 rfl rfl, gT_of 96 rfl rfl, gT_of 138 rfl rfl, gT_of 1702 rfl rfl⟩, by decide +kernel, by decide +kernel, by decide +kernel⟩
set_option maxRecDepth 100000 in
theorem wX12_416 : gVw RX12 416 mX12_mimics 1 := ⟨⟨gT_of 1710 rfl rfl, gT_of 1712 rfl rfl, gT_of 98 rfl rfl, gT_of 138 rfl rfl, gT_of 1713 rfl rfl⟩, by decide +kernel, by decide +kernel, by decide +kernel⟩
set_option maxRecDepth 100000 in
theorem wX12_422 : gVw RX12 422 mX12_laysFlows 0 := ⟨⟨gT_of 1742 rfl rfl, gT_of 1744 rfl rfl, gT_of 105 rfl rfl, gT_of 138 rfl rfl, gT_of 1745 rfl rfl⟩, by decide +kernel, by decide +kernel, by decide +kernel⟩
set_option maxRecDepth 100000 in
theorem wX12_425 : gVw RX12 425 mX12_waitOf 1 := ⟨⟨gT_of 1754 rfl rfl, gT_of 1756 rfl rfl, gT_of 107 rfl rfl, gT_of 138 rfl rfl, gT_of 1757 rfl rfl⟩, by decide +kernel, by decide +kernel, by decide +kernel⟩
set_option maxRecDepth 100000 in
theorem wX12_428 : gVw RX12 428 mX12_takenIn 1 := ⟨⟨gT_of 1770 rfl rfl, gT_of 1772 rfl rfl, gT_of 111 rfl rfl, gT_of 138 rfl rfl, gT_of 1773 rfl rfl⟩, by decide +kernel, by decide +kernel, by decide +kernel⟩
set_option maxRecDepth 100000 in
theorem wX12_431 : gVw RX12 431 mX12_worstOf 0 := ⟨⟨gT_of 1750 rfl rfl, gT_of 1752 rfl rfl, gT_of 106 rfl rfl, gT_of 138 rfl rfl, gT_of 1753 rfl rfl⟩, by decide +kernel, by decide +kernel, by decide +kernel⟩
set_option maxRecDepth 100000 in
theorem wX12_434 : gVw RX12 434 mX12_sumOf 0 := ⟨⟨gT_of 1758 rfl rfl, gT_of 1760 rfl rfl, gT_of 108 rfl rfl, gT_of 138 rfl rfl, gT_of 1761 rfl rfl⟩, by decide +kernel, by decide +kernel, by decide +kernel⟩
set_option maxRecDepth 100000 in
theorem wX12_437 : gVw RX12 437 mX12_splitsOf 0 := ⟨⟨gT_of 1762 rfl rfl, gT_of 1764 rfl rfl, gT_of 109 rfl rfl, gT_of 138 rfl rfl, gT_of 1765 rfl rfl⟩, by decide +kernel, by decide +kernel, by decide +kernel⟩
set_option maxRecDepth 100000 in
theorem wX12_440 : gVw RX12 440 mX12_idleOf 0 := ⟨⟨gT_of 1766 rfl rfl, gT_of 1768 rfl rfl, gT_of 110 rfl rfl, gT_of 138 rfl rfl, gT_of 1769 rfl rfl⟩, by decide +kernel, by decide +kernel, by decide +kernel⟩
set_option maxRecDepth 100000 in
theorem wX12_443 : gVw RX12 443 mX12_bestOf 0 := ⟨⟨gT_of 1774 rfl rfl, gT_of 1776 rfl rfl, gT_of 112 rfl rfl, gT_of 138 rfl rfl, gT_of 1777 rfl rfl⟩, by decide +kernel, by decide +kernel, by decide +kernel⟩
set_option maxRecDepth 100000 in
theorem wX12_446 : gVw RX12 446 mX12_fairOf 0 := ⟨⟨gT_of 1778 rfl rfl, gT_of 1780 rfl rfl, gT_of 113 rfl rfl, gT_of 138 rfl rfl, gT_of 1781 rfl rfl⟩, by decide +kernel, by decide +kernel, by decide +kernel⟩
set_option maxRecDepth 100000 in
theorem wX12_449 : gVw RX12 449 mX12_meetsOf 0 := ⟨⟨gT_of 1782 rfl rfl, gT_of 1784 rfl rfl, gT_of 114 rfl rfl, gT_of 138 rfl rfl, gT_of 1785 rfl rfl⟩, by decide +kernel, by decide +kernel, by decide +kernel⟩
set_option maxRecDepth 100000 in
theorem wX12_452 : gVw RX12 452 mX12_starvedOf 0 := ⟨⟨gT_of 1786 rfl rfl, gT_of 1788 rfl rfl, gT_of 115 rfl rfl, gT_of 138 rfl rfl, gT_of 1789 rfl rfl⟩, by decide +kernel, by decide +kernel, by decide +kernel⟩
set_option maxRecDepth 100000 in
theorem wX12_455 : gVw RX12 455 mX12_sameOf 0 := ⟨⟨gT_of 1790 rfl rfl, gT_of 1792 rfl rfl, gT_of 116 rfl rfl, gT_of 138 rfl rfl, gT_of 1793 rfl rfl⟩, by decide +kernel, by decide +kernel, by decide +kernel⟩
set_option maxRecDepth 100000 in
theorem wX12_458 : gVw RX12 458 mX12_turnsOf 1 := ⟨⟨gT_of 1794 rfl rfl, gT_of 1796 rfl rfl, gT_of 117 rfl rfl, gT_of 138 rfl rfl, gT_of 1797 rfl rfl⟩, by decide +kernel, by decide +kernel, by decide +kernel⟩
set_option maxRecDepth 100000 in
theorem wX12_464 : gVw RX12 464 mX12_isLog 1 := ⟨⟨gT_of 1802 rfl rfl, gT_of 1804 rfl rfl, gT_of 118 rfl rfl, gT_of 138 rfl rfl, gT_of 1805 rfl rfl⟩, by decide +kernel, by decide +kernel, by decide +kernel⟩
set_option maxRecDepth 100000 in
theorem wX12_470 : gVw RX12 470 mX12_factsAreSo 0 := ⟨⟨gT_of 1814 rfl rfl, gT_of 1816 rfl rfl, gT_of 120 rfl rfl, gT_of 138 rfl rfl, gT_of 1817 rfl rfl⟩, by decide +kernel, by decide +kernel, by decide +kernel⟩
set_option maxRecDepth 100000 in
theorem wX12_474 : gVw RX12 474 mX12_laysFits 0 := ⟨⟨gT_of 1810 rfl rfl, gT_of 1812 rfl rfl, gT_of 119 rfl rfl, gT_of 138 rfl rfl, gT_of 1813 rfl rfl⟩, by decide +kernel, by decide +kernel, by decide +kernel⟩
set_option maxRecDepth 100000 in
theorem wX12_477 : gVw RX12 477 mX12_sureOf 1 := ⟨⟨gT_of 1818 rfl rfl, gT_of 1820 rfl rfl, gT_of 121 rfl rfl, gT_of 138 rfl rfl, gT_of 1821 rfl rfl⟩, by decide +kernel, by decide +kernel, by decide +kernel⟩
set_option maxRecDepth 100000 in
theorem wX12_481 : gVw RX12 481 mX12_askOf 0 := ⟨⟨gT_of 1822 rfl rfl, gT_of 1824 rfl rfl, gT_of 122 rfl rfl, gT_of 138 rfl rfl, gT_of 1825 rfl rfl⟩, by decide +kernel, by decide +kernel, by decide +kernel⟩
set_option maxRecDepth 100000 in
theorem wX12_487 : Cond.constant RX12 487 (1103515245) ∈ gTbl := gT_of 1838 rfl rfl
set_option maxRecDepth 100000 in
theorem wX12_488 : gVw RX12 488 mX12_below 1 := ⟨⟨gT_of 1834 rfl rfl, gT_of 1836 rfl rfl, gT_of 124 rfl rfl, gT_of 138 rfl rfl, gT_of 1837 rfl rfl⟩, by decide +kernel, by decide +kernel, by decide +kernel⟩
set_option maxRecDepth 100000 in
theorem wX12_491 : gVw RX12 491 mX12_draws 0 := ⟨⟨gT_of 1830 rfl rfl, gT_of 1832 rfl rfl, gT_of 123 rfl rfl, gT_of 138 rfl rfl, gT_of 1833 rfl rfl⟩, by decide +kernel, by decide +kernel, by decide +kernel⟩
set_option maxRecDepth 100000 in
theorem wX2_26 : gVw RX2 26 mX10_bar 2 := ⟨⟨gT_of 941 rfl rfl, gT_of 759 rfl rfl, gT_of 760 rfl rfl, gT_of 127 rfl rfl, gT_of 761 rfl rfl⟩, by decide +kernel, by decide +kernel, by decide +kernel⟩
set_option maxRecDepth 100000 in
theorem wX2_32 : gVw RX2 32 mX4_begin 2 := ⟨⟨gT_of 942 rfl rfl, gT_of 796 rfl rfl, gT_of 797 rfl rfl, gT_of 132 rfl rfl, gT_of 798 rfl rfl⟩, by decide +kernel, by decide +kernel, by decide +kernel⟩
set_option maxRecDepth 100000 in
theorem wX2_46 : gVw RX2 46 mX4_free 0 := ⟨⟨gT_of 947 rfl rfl, gT_of 804 rfl rfl, gT_of 805 rfl rfl, gT_of 132 rfl rfl, gT_of 806 rfl rfl⟩, by decide +kernel, by decide +kernel, by decide +kernel⟩
set_option maxRecDepth 100000 in
theorem wX2_49 : gVw RX2 49 mX4_passRounds 1 := ⟨⟨gT_of 948 rfl rfl, gT_of 859 rfl rfl, gT_of 860 rfl rfl, gT_of 132 rfl rfl, gT_of 861 rfl rfl⟩, by decide +kernel, by decide +kernel, by decide +kernel⟩
set_option maxRecDepth 100000 in
theorem wX2_53 : gVw RX2 53 mX2_begin 2 := ⟨⟨gT_of 937 rfl rfl, gT_of 939 rfl rfl, gT_of 27 rfl rfl, gT_of 133 rfl rfl, gT_of 940 rfl rfl⟩, by decide +kernel, by decide +kernel, by decide +kernel⟩
set_option maxRecDepth 100000 in
theorem wX2_56 : gVw RX2 56 mX2_passSlot 0 := ⟨⟨gT_of 943 rfl rfl, gT_of 945 rfl rfl, gT_of 28 rfl rfl, gT_of 133 rfl rfl, gT_of 946 rfl rfl⟩, by decide +kernel, by decide +kernel, by decide +kernel⟩
set_option maxRecDepth 100000 in
theorem wX2_62 : gVw RX2 62 mX2_findRhythm 0 := ⟨⟨gT_of 957 rfl rfl, gT_of 959 rfl rfl, gT_of 29 rfl rfl, gT_of 133 rfl rfl, gT_of 960 rfl rfl⟩, by decide +kernel, by decide +kernel, by decide +kernel⟩
set_option maxRecDepth 100000 in
theorem wX2_71 : gVw RX2 71 mX2_madeFrom 1 := ⟨⟨gT_of 966 rfl rfl, gT_of 968 rfl rfl, gT_of 31 rfl rfl, gT_of 133 rfl rfl, gT_of 969 rfl rfl⟩, by decide +kernel, by decide +kernel, by decide +kernel⟩
set_option maxRecDepth 100000 in
theorem wX2_75 : gVw RX2 75 mX2_stepAt 0 := ⟨⟨gT_of 970 rfl rfl, gT_of 972 rfl rfl, gT_of 32 rfl rfl, gT_of 133 rfl rfl, gT_of 973 rfl rfl⟩, by decide +kernel, by decide +kernel, by decide +kernel⟩
set_option maxRecDepth 100000 in
theorem wX2_79 : gVw RX2 79 mX2_pointersNow 0 := ⟨⟨gT_of 961 rfl rfl, gT_of 963 rfl rfl, gT_of 30 rfl rfl, gT_of 133 rfl rfl, gT_of 964 rfl rfl⟩, by decide +kernel, by decide +kernel, by decide +kernel⟩
set_option maxRecDepth 100000 in
theorem wX2_86 : gSw RX2 86 mJ6_bitCount_0f7a4 1 := ⟨⟨gT_of 965 rfl rfl, gT_of 835 rfl rfl, gT_of 145 rfl rfl, gT_of 836 rfl rfl⟩, by decide +kernel, by decide +kernel, by decide +kernel⟩
set_option maxRecDepth 100000 in
theorem wX3_15 : gVw RX3 15 mX3_bestOf 2 := ⟨⟨gT_of 982 rfl rfl, gT_of 984 rfl rfl, gT_of 33 rfl rfl, gT_of 134 rfl rfl, gT_of 985 rfl rfl⟩, by decide +kernel, by decide +kernel, by decide +kernel⟩
set_option maxRecDepth 100000 in
theorem wX3_19 : gVw RX3 19 mX8_matchNow 0 := ⟨⟨gT_of 999 rfl rfl, gT_of 1000 rfl rfl, gT_of 1001 rfl rfl, gT_of 129 rfl rfl, gT_of 1002 rfl rfl⟩, by decide +kernel, by decide +kernel, by decide +kernel⟩
set_option maxRecDepth 100000 in
theorem wX3_37 : gSw RX3 37 mJ6_bitCount_0f7a4 1 := ⟨⟨gT_of 1003 rfl rfl, gT_of 835 rfl rfl, gT_of 145 rfl rfl, gT_of 836 rfl rfl⟩, by decide +kernel, by decide +kernel, by decide +kernel⟩
set_option maxRecDepth 100000 in
theorem wX3_43 : gSw RX3 43 mX3_cellsOfMatched 1 := ⟨⟨gT_of 1004 rfl rfl, gT_of 1005 rfl rfl, gT_of 134 rfl rfl, gT_of 1006 rfl rfl⟩, by decide +kernel, by decide +kernel, by decide +kernel⟩
set_option maxRecDepth 100000 in
theorem wX3_47 : gSw RX3 47 mX3_roundsNeeded 1 := ⟨⟨gT_of 1007 rfl rfl, gT_of 1008 rfl rfl, gT_of 134 rfl rfl, gT_of 1009 rfl rfl⟩, by decide +kernel, by decide +kernel, by decide +kernel⟩
set_option maxRecDepth 100000 in
theorem wX3_51 : gVw RX3 51 mX3_firstRow 2 := ⟨⟨gT_of 1016 rfl rfl, gT_of 1018 rfl rfl, gT_of 36 rfl rfl, gT_of 134 rfl rfl, gT_of 1019 rfl rfl⟩, by decide +kernel, by decide +kernel, by decide +kernel⟩
set_option maxRecDepth 100000 in
theorem wX3_59 : gVw RX3 59 mX3_bestFrom 3 := ⟨⟨gT_of 986 rfl rfl, gT_of 988 rfl rfl, gT_of 34 rfl rfl, gT_of 134 rfl rfl, gT_of 989 rfl rfl⟩, by decide +kernel, by decide +kernel, by decide +kernel⟩
set_option maxRecDepth 100000 in
theorem wX3_63 : gSw RX3 63 mX3_mayPair 4 := ⟨⟨gT_of 990 rfl rfl, gT_of 991 rfl rfl, gT_of 134 rfl rfl, gT_of 992 rfl rfl⟩, by decide +kernel, by decide +kernel, by decide +kernel⟩
set_option maxRecDepth 100000 in
theorem wX3_67 : gVw RX3 67 mX3_sumWith 4 := ⟨⟨gT_of 994 rfl rfl, gT_of 996 rfl rfl, gT_of 35 rfl rfl, gT_of 134 rfl rfl, gT_of 997 rfl rfl⟩, by decide +kernel, by decide +kernel, by decide +kernel⟩
set_option maxRecDepth 100000 in
theorem wX3_71 : Cond.methodLink RX3 71 Lib.Math.max.name ∈ gTbl ∧ Cond.static Lib.Math.max.name ∈ gTbl ∧ Cond.initialized "java/lang/Math" ∈ gTbl ∧ Cond.code Lib.Math.max.name Lib.Math.max.code 2 (some .int) ∈ gTbl := ⟨gT_of 998 rfl rfl, gT_of 801 rfl rfl, gT_of 139 rfl rfl, gT_of 802 rfl rfl⟩
set_option maxRecDepth 100000 in
theorem wX3_77 : gNw RX3 77 mX11_holds 2 := ⟨⟨by decide +kernel, gT_of 845 rfl rfl, gT_of 126 rfl rfl, gT_of 846 rfl rfl⟩, by decide +kernel, by decide +kernel, by decide +kernel⟩
set_option maxRecDepth 100000 in
theorem wX3_87 : gVw RX3 87 mX4_free 0 := ⟨⟨gT_of 1010 rfl rfl, gT_of 804 rfl rfl, gT_of 805 rfl rfl, gT_of 132 rfl rfl, gT_of 806 rfl rfl⟩, by decide +kernel, by decide +kernel, by decide +kernel⟩
set_option maxRecDepth 100000 in
theorem wX3_90 : gVw RX3 90 mX4_passRound 1 := ⟨⟨gT_of 1011 rfl rfl, gT_of 863 rfl rfl, gT_of 864 rfl rfl, gT_of 132 rfl rfl, gT_of 865 rfl rfl⟩, by decide +kernel, by decide +kernel, by decide +kernel⟩
set_option maxRecDepth 100000 in
theorem wX3_94 : gVw RX3 94 mX4_couldMatchMore 0 := ⟨⟨gT_of 1012 rfl rfl, gT_of 1013 rfl rfl, gT_of 1014 rfl rfl, gT_of 132 rfl rfl, gT_of 1015 rfl rfl⟩, by decide +kernel, by decide +kernel, by decide +kernel⟩
set_option maxRecDepth 100000 in
theorem wX4_31 : Cond.methodLink RX4 31 Lib.Math.min.name ∈ gTbl ∧ Cond.static Lib.Math.min.name ∈ gTbl ∧ Cond.initialized "java/lang/Math" ∈ gTbl ∧ Cond.code Lib.Math.min.name Lib.Math.min.code 2 (some .int) ∈ gTbl := ⟨gT_of 799 rfl rfl, gT_of 617 rfl rfl, gT_of 139 rfl rfl, gT_of 618 rfl rfl⟩
set_option maxRecDepth 100000 in
theorem wX4_37 : Cond.methodLink RX4 37 Lib.Math.max.name ∈ gTbl ∧ Cond.static Lib.Math.max.name ∈ gTbl ∧ Cond.initialized "java/lang/Math" ∈ gTbl ∧ Cond.code Lib.Math.max.name Lib.Math.max.code 2 (some .int) ∈ gTbl := ⟨gT_of 800 rfl rfl, gT_of 801 rfl rfl, gT_of 139 rfl rfl, gT_of 802 rfl rfl⟩
set_option maxRecDepth 100000 in
theorem wX4_40 : gVw RX4 40 mX4_free 0 := ⟨⟨gT_of 803 rfl rfl, gT_of 804 rfl rfl, gT_of 805 rfl rfl, gT_of 132 rfl rfl, gT_of 806 rfl rfl⟩, by decide +kernel, by decide +kernel, by decide +kernel⟩
set_option maxRecDepth 100000 in
theorem wX4_49 : gNw RX4 49 mX11_holds 2 := ⟨⟨by decide +kernel, gT_of 845 rfl rfl, gT_of 126 rfl rfl, gT_of 846 rfl rfl⟩, by decide +kernel, by decide +kernel, by decide +kernel⟩
set_option maxRecDepth 100000 in
theorem wX4_53 : gNw RX4 53 mX11_firstFrom 3 := ⟨⟨by decide +kernel, gT_of 868 rfl rfl, gT_of 126 rfl rfl, gT_of 869 rfl rfl⟩, by decide +kernel, by decide +kernel, by decide +kernel⟩
set_option maxRecDepth 100000 in
theorem wX4_57 : gVw RX4 57 mX4_pair 3 := ⟨⟨gT_of 870 rfl rfl, gT_of 872 rfl rfl, gT_of 19 rfl rfl, gT_of 132 rfl rfl, gT_of 873 rfl rfl⟩, by decide +kernel, by decide +kernel, by decide +kernel⟩
set_option maxRecDepth 100000 in
theorem wX4_61 : gNw RX4 61 mX11_next 2 := ⟨⟨by decide +kernel, gT_of 875 rfl rfl, gT_of 126 rfl rfl, gT_of 876 rfl rfl⟩, by decide +kernel, by decide +kernel, by decide +kernel⟩
set_option maxRecDepth 100000 in
theorem wX4_64 : gVw RX4 64 mX4_passRound 1 := ⟨⟨gT_of 862 rfl rfl, gT_of 863 rfl rfl, gT_of 864 rfl rfl, gT_of 132 rfl rfl, gT_of 865 rfl rfl⟩, by decide +kernel, by decide +kernel, by decide +kernel⟩
set_option maxRecDepth 100000 in
theorem wX5_39 : gSw RX5 39 mX6_inputOf 2 := ⟨⟨gT_of 1088 rfl rfl, gT_of 1089 rfl rfl, gT_of 131 rfl rfl, gT_of 1090 rfl rfl⟩, by decide +kernel, by decide +kernel, by decide +kernel⟩
set_option maxRecDepth 100000 in
theorem wX5_43 : gVw RX5 43 mX5_noteCell 2 := ⟨⟨gT_of 1091 rfl rfl, gT_of 1093 rfl rfl, gT_of 48 rfl rfl, gT_of 136 rfl rfl, gT_of 1094 rfl rfl⟩, by decide +kernel, by decide +kernel, by decide +kernel⟩
set_option maxRecDepth 100000 in
theorem wX5_47 : gSw RX5 47 mX5_queueOf 1 := ⟨⟨gT_of 1099 rfl rfl, gT_of 1100 rfl rfl, gT_of 136 rfl rfl, gT_of 1101 rfl rfl⟩, by decide +kernel, by decide +kernel, by decide +kernel⟩
set_option maxRecDepth 100000 in
theorem wX5_58 : gSw RX5 58 mX5_longestWait 1 := ⟨⟨gT_of 1110 rfl rfl, gT_of 1111 rfl rfl, gT_of 136 rfl rfl, gT_of 1112 rfl rfl⟩, by decide +kernel, by decide +kernel, by decide +kernel⟩
set_option maxRecDepth 100000 in
theorem wX5_62 : gSw RX5 62 mX5_sumOfWaits 1 := ⟨⟨gT_of 1120 rfl rfl, gT_of 1121 rfl rfl, gT_of 136 rfl rfl, gT_of 1122 rfl rfl⟩, by decide +kernel, by decide +kernel, by decide +kernel⟩
set_option maxRecDepth 100000 in
theorem wX5_65 : gSw RX5 65 mX5_worst 1 := ⟨⟨gT_of 1113 rfl rfl, gT_of 1114 rfl rfl, gT_of 136 rfl rfl, gT_of 1115 rfl rfl⟩, by decide +kernel, by decide +kernel, by decide +kernel⟩
set_option maxRecDepth 100000 in
theorem wX5_68 : gSw RX5 68 mX5_splits 1 := ⟨⟨gT_of 1123 rfl rfl, gT_of 1124 rfl rfl, gT_of 136 rfl rfl, gT_of 1125 rfl rfl⟩, by decide +kernel, by decide +kernel, by decide +kernel⟩
set_option maxRecDepth 100000 in
theorem wX5_71 : gSw RX5 71 mX5_idleSlots 1 := ⟨⟨gT_of 1126 rfl rfl, gT_of 1127 rfl rfl, gT_of 136 rfl rfl, gT_of 1128 rfl rfl⟩, by decide +kernel, by decide +kernel, by decide +kernel⟩
set_option maxRecDepth 100000 in
theorem wX5_75 : gSw RX5 75 mX5_bestSlot 1 := ⟨⟨gT_of 1129 rfl rfl, gT_of 1130 rfl rfl, gT_of 136 rfl rfl, gT_of 1131 rfl rfl⟩, by decide +kernel, by decide +kernel, by decide +kernel⟩
set_option maxRecDepth 100000 in
theorem wX5_78 : gVw RX5 78 mX5_fairest 1 := ⟨⟨gT_of 1133 rfl rfl, gT_of 1135 rfl rfl, gT_of 49 rfl rfl, gT_of 136 rfl rfl, gT_of 1136 rfl rfl⟩, by decide +kernel, by decide +kernel, by decide +kernel⟩
set_option maxRecDepth 100000 in
theorem wX5_82 : gSw RX5 82 mX5_meets 1 := ⟨⟨gT_of 1138 rfl rfl, gT_of 1139 rfl rfl, gT_of 136 rfl rfl, gT_of 1140 rfl rfl⟩, by decide +kernel, by decide +kernel, by decide +kernel⟩
set_option maxRecDepth 100000 in
theorem wX5_85 : gSw RX5 85 mX5_starved 1 := ⟨⟨gT_of 1141 rfl rfl, gT_of 1142 rfl rfl, gT_of 136 rfl rfl, gT_of 1143 rfl rfl⟩, by decide +kernel, by decide +kernel, by decide +kernel⟩
set_option maxRecDepth 100000 in
theorem wX5_88 : gSw RX5 88 mX5_alikeInputs 1 := ⟨⟨gT_of 1147 rfl rfl, gT_of 1148 rfl rfl, gT_of 136 rfl rfl, gT_of 1149 rfl rfl⟩, by decide +kernel, by decide +kernel, by decide +kernel⟩
set_option maxRecDepth 100000 in
theorem wX5_91 : gSw RX5 91 mX5_turns 2 := ⟨⟨gT_of 1153 rfl rfl, gT_of 1154 rfl rfl, gT_of 136 rfl rfl, gT_of 1155 rfl rfl⟩, by decide +kernel, by decide +kernel, by decide +kernel⟩
set_option maxRecDepth 100000 in
theorem wX5_103 : gVw RX5 103 mX0_waitOf 1 := ⟨⟨gT_of 1116 rfl rfl, gT_of 1117 rfl rfl, gT_of 1118 rfl rfl, gT_of 130 rfl rfl, gT_of 1119 rfl rfl⟩, by decide +kernel, by decide +kernel, by decide +kernel⟩
set_option maxRecDepth 100000 in
theorem wX5_112 : gSw RX5 112 mJ6_bitCount_0f7a4 1 := ⟨⟨gT_of 1132 rfl rfl, gT_of 835 rfl rfl, gT_of 145 rfl rfl, gT_of 836 rfl rfl⟩, by decide +kernel, by decide +kernel, by decide +kernel⟩
set_option maxRecDepth 100000 in
theorem wX5_117 : gVw RX5 117 mX5_gatherFlows 1 := ⟨⟨gT_of 1137 rfl rfl, gT_of 1085 rfl rfl, gT_of 1086 rfl rfl, gT_of 136 rfl rfl, gT_of 1087 rfl rfl⟩, by decide +kernel, by decide +kernel, by decide +kernel⟩
set_option maxRecDepth 100000 in
theorem wX5_121 : gSw RX5 121 mX5_hasSomething 2 := ⟨⟨gT_of 1144 rfl rfl, gT_of 1145 rfl rfl, gT_of 136 rfl rfl, gT_of 1146 rfl rfl⟩, by decide +kernel, by decide +kernel, by decide +kernel⟩
set_option maxRecDepth 100000 in
theorem wX5_131 : gSw RX5 131 mX5_areAlike 3 := ⟨⟨gT_of 1150 rfl rfl, gT_of 1151 rfl rfl, gT_of 136 rfl rfl, gT_of 1152 rfl rfl⟩, by decide +kernel, by decide +kernel, by decide +kernel⟩
set_option maxRecDepth 100000 in
theorem wX6_39 : gSw RX6 39 mX6_inputOf 2 := ⟨⟨gT_of 1182 rfl rfl, gT_of 1089 rfl rfl, gT_of 131 rfl rfl, gT_of 1090 rfl rfl⟩, by decide +kernel, by decide +kernel, by decide +kernel⟩
set_option maxRecDepth 100000 in
theorem wX7_27 : Cond.methodLink RX7 27 Lib.Math.min.name ∈ gTbl ∧ Cond.static Lib.Math.min.name ∈ gTbl ∧ Cond.initialized "java/lang/Math" ∈ gTbl ∧ Cond.code Lib.Math.min.name Lib.Math.min.code 2 (some .int) ∈ gTbl := ⟨gT_of 616 rfl rfl, gT_of 617 rfl rfl, gT_of 139 rfl rfl, gT_of 618 rfl rfl⟩
set_option maxRecDepth 100000 in
theorem wX7_49 : gVw RX7 49 mX7_nextToken 0 := ⟨⟨gT_of 619 rfl rfl, gT_of 621 rfl rfl, gT_of 0 rfl rfl, gT_of 128 rfl rfl, gT_of 622 rfl rfl⟩, by decide +kernel, by decide +kernel, by decide +kernel⟩
set_option maxRecDepth 100000 in
theorem wX7_55 : gVw RX7 55 mX7_readLine 1 := ⟨⟨gT_of 637 rfl rfl, gT_of 639 rfl rfl, gT_of 3 rfl rfl, gT_of 128 rfl rfl, gT_of 640 rfl rfl⟩, by decide +kernel, by decide +kernel, by decide +kernel⟩
set_option maxRecDepth 100000 in
theorem wX7_59 : gVw RX7 59 mX7_wordHere 1 := ⟨⟨gT_of 641 rfl rfl, gT_of 643 rfl rfl, gT_of 4 rfl rfl, gT_of 128 rfl rfl, gT_of 644 rfl rfl⟩, by decide +kernel, by decide +kernel, by decide +kernel⟩
set_option maxRecDepth 100000 in
theorem wX7_63 : gVw RX7 63 mX7_noTextGoesOn 0 := ⟨⟨gT_of 713 rfl rfl, gT_of 715 rfl rfl, gT_of 6 rfl rfl, gT_of 128 rfl rfl, gT_of 716 rfl rfl⟩, by decide +kernel, by decide +kernel, by decide +kernel⟩
set_option maxRecDepth 100000 in
theorem wX7_67 : gSw RX7 67 mX7_limitOf 1 := ⟨⟨gT_of 717 rfl rfl, gT_of 718 rfl rfl, gT_of 128 rfl rfl, gT_of 719 rfl rfl⟩, by decide +kernel, by decide +kernel, by decide +kernel⟩
set_option maxRecDepth 100000 in
theorem wX7_70 : gVw RX7 70 mX7_noteFault 1 := ⟨⟨gT_of 720 rfl rfl, gT_of 722 rfl rfl, gT_of 7 rfl rfl, gT_of 128 rfl rfl, gT_of 723 rfl rfl⟩, by decide +kernel, by decide +kernel, by decide +kernel⟩
set_option maxRecDepth 100000 in
theorem wX7_74 : Cond.fieldLink RX7 74 RX7 "NUMBERS" "[I" ∈ gTbl := gT_of 724 rfl rfl
set_option maxRecDepth 100000 in
theorem wX7_77 : gVw RX7 77 mX7_takeNumber 2 := ⟨⟨gT_of 726 rfl rfl, gT_of 728 rfl rfl, gT_of 8 rfl rfl, gT_of 128 rfl rfl, gT_of 729 rfl rfl⟩, by decide +kernel, by decide +kernel, by decide +kernel⟩
set_option maxRecDepth 100000 in
theorem wX7_81 : gVw RX7 81 mX7_keepLine 2 := ⟨⟨gT_of 734 rfl rfl, gT_of 736 rfl rfl, gT_of 9 rfl rfl, gT_of 128 rfl rfl, gT_of 737 rfl rfl⟩, by decide +kernel, by decide +kernel, by decide +kernel⟩
set_option maxRecDepth 100000 in
theorem wX7_87 : Cond.fieldLink RX7 87 RX7 "LEAST" "[I" ∈ gTbl := gT_of 730 rfl rfl
set_option maxRecDepth 100000 in
theorem wX7_90 : Cond.fieldLink RX7 90 RX7 "GREATEST" "[I" ∈ gTbl := gT_of 732 rfl rfl
set_option maxRecDepth 100000 in
theorem wX7_93 : Cond.methodLink RX7 93 arraycopyName ∈ gTbl ∧ Cond.native arraycopyName ∈ gTbl ∧ Cond.static arraycopyName ∈ gTbl ∧ Cond.initialized "java/lang/System" ∈ gTbl := ⟨gT_of 738 rfl rfl, gT_of 740 rfl rfl, gT_of 739 rfl rfl, gT_of 144 rfl rfl⟩
set_option maxRecDepth 100000 in
theorem wX7_102 : Cond.fieldLink RX7 102 RX7 "FIRST_WORD" "[I" ∈ gTbl := gT_of 645 rfl rfl
set_option maxRecDepth 100000 in
theorem wX7_105 : gSw RX7 105 mX7_letters 1 := ⟨⟨gT_of 647 rfl rfl, gT_of 648 rfl rfl, gT_of 128 rfl rfl, gT_of 649 rfl rfl⟩, by decide +kernel, by decide +kernel, by decide +kernel⟩
set_option maxRecDepth 100000 in
theorem wX7_109 : gVw RX7 109 mX7_isHere 1 := ⟨⟨gT_of 661 rfl rfl, gT_of 663 rfl rfl, gT_of 5 rfl rfl, gT_of 128 rfl rfl, gT_of 664 rfl rfl⟩, by decide +kernel, by decide +kernel, by decide +kernel⟩
set_option maxRecDepth 100000 in
theorem wX7_144 : gSw RX7 144 mX7_isLetter 1 := ⟨⟨gT_of 623 rfl rfl, gT_of 624 rfl rfl, gT_of 128 rfl rfl, gT_of 625 rfl rfl⟩, by decide +kernel, by decide +kernel, by decide +kernel⟩
set_option maxRecDepth 100000 in
theorem wX7_148 : gVw RX7 148 mX7_takeWord 0 := ⟨⟨gT_of 626 rfl rfl, gT_of 628 rfl rfl, gT_of 1 rfl rfl, gT_of 128 rfl rfl, gT_of 629 rfl rfl⟩, by decide +kernel, by decide +kernel, by decide +kernel⟩
set_option maxRecDepth 100000 in
theorem wX7_151 : gSw RX7 151 mX7_isDigit 1 := ⟨⟨gT_of 630 rfl rfl, gT_of 631 rfl rfl, gT_of 128 rfl rfl, gT_of 632 rfl rfl⟩, by decide +kernel, by decide +kernel, by decide +kernel⟩
set_option maxRecDepth 100000 in
theorem wX7_154 : gVw RX7 154 mX7_takeDigits 0 := ⟨⟨gT_of 633 rfl rfl, gT_of 635 rfl rfl, gT_of 2 rfl rfl, gT_of 128 rfl rfl, gT_of 636 rfl rfl⟩, by decide +kernel, by decide +kernel, by decide +kernel⟩
set_option maxRecDepth 100000 in
theorem wX8_58 : gVw RX8 58 mX10_bar 2 := ⟨⟨gT_of 790 rfl rfl, gT_of 759 rfl rfl, gT_of 760 rfl rfl, gT_of 127 rfl rfl, gT_of 761 rfl rfl⟩, by decide +kernel, by decide +kernel, by decide +kernel⟩
set_option maxRecDepth 100000 in
theorem wX8_64 : gVw RX8 64 mX8_begin_ 4 := ⟨⟨gT_of 791 rfl rfl, gT_of 792 rfl rfl, gT_of 793 rfl rfl, gT_of 129 rfl rfl, gT_of 794 rfl rfl⟩, by decide +kernel, by decide +kernel, by decide +kernel⟩
set_option maxRecDepth 100000 in
theorem wX8_68 : gVw RX8 68 mX4_begin 2 := ⟨⟨gT_of 795 rfl rfl, gT_of 796 rfl rfl, gT_of 797 rfl rfl, gT_of 132 rfl rfl, gT_of 798 rfl rfl⟩, by decide +kernel, by decide +kernel, by decide +kernel⟩
set_option maxRecDepth 100000 in
theorem wX8_75 : Cond.methodLink RX8 75 Lib.Math.min.name ∈ gTbl ∧ Cond.static Lib.Math.min.name ∈ gTbl ∧ Cond.initialized "java/lang/Math" ∈ gTbl ∧ Cond.code Lib.Math.min.name Lib.Math.min.code 2 (some .int) ∈ gTbl := ⟨gT_of 807 rfl rfl, gT_of 617 rfl rfl, gT_of 139 rfl rfl, gT_of 618 rfl rfl⟩
set_option maxRecDepth 100000 in
theorem wX8_104 : gVw RX8 104 mX10_lineCount 2 := ⟨⟨gT_of 812 rfl rfl, gT_of 771 rfl rfl, gT_of 772 rfl rfl, gT_of 127 rfl rfl, gT_of 773 rfl rfl⟩, by decide +kernel, by decide +kernel, by decide +kernel⟩
set_option maxRecDepth 100000 in
theorem wX8_107 : gVw RX8 107 mX10_line 4 := ⟨⟨gT_of 813 rfl rfl, gT_of 775 rfl rfl, gT_of 776 rfl rfl, gT_of 127 rfl rfl, gT_of 777 rfl rfl⟩, by decide +kernel, by decide +kernel, by decide +kernel⟩
set_option maxRecDepth 100000 in
theorem wX8_111 : gSw RX8 111 mX8_slotsOf 2 := ⟨⟨gT_of 814 rfl rfl, gT_of 815 rfl rfl, gT_of 129 rfl rfl, gT_of 816 rfl rfl⟩, by decide +kernel, by decide +kernel, by decide +kernel⟩
set_option maxRecDepth 100000 in
theorem wX8_114 : gVw RX8 114 mX8_passSlot 0 := ⟨⟨gT_of 817 rfl rfl, gT_of 819 rfl rfl, gT_of 12 rfl rfl, gT_of 129 rfl rfl, gT_of 820 rfl rfl⟩, by decide +kernel, by decide +kernel, by decide +kernel⟩
set_option maxRecDepth 100000 in
theorem wX8_117 : gVw RX8 117 mX8_bring 3 := ⟨⟨gT_of 885 rfl rfl, gT_of 887 rfl rfl, gT_of 21 rfl rfl, gT_of 129 rfl rfl, gT_of 888 rfl rfl⟩, by decide +kernel, by decide +kernel, by decide +kernel⟩
set_option maxRecDepth 100000 in
theorem wX8_121 : gNw RX8 121 mX11_holds 2 := ⟨⟨by decide +kernel, gT_of 845 rfl rfl, gT_of 126 rfl rfl, gT_of 846 rfl rfl⟩, by decide +kernel, by decide +kernel, by decide +kernel⟩
set_option maxRecDepth 100000 in
theorem wX8_125 : gVw RX8 125 mX8_takeCell 2 := ⟨⟨gT_of 889 rfl rfl, gT_of 891 rfl rfl, gT_of 22 rfl rfl, gT_of 129 rfl rfl, gT_of 892 rfl rfl⟩, by decide +kernel, by decide +kernel, by decide +kernel⟩
set_option maxRecDepth 100000 in
theorem wX8_128 : gVw RX8 128 mX8_takeFan 2 := ⟨⟨gT_of 897 rfl rfl, gT_of 899 rfl rfl, gT_of 23 rfl rfl, gT_of 129 rfl rfl, gT_of 900 rfl rfl⟩, by decide +kernel, by decide +kernel, by decide +kernel⟩
set_option maxRecDepth 100000 in
theorem wX8_131 : gVw RX8 131 mX8_takeBurst 2 := ⟨⟨gT_of 901 rfl rfl, gT_of 903 rfl rfl, gT_of 24 rfl rfl, gT_of 129 rfl rfl, gT_of 904 rfl rfl⟩, by decide +kernel, by decide +kernel, by decide +kernel⟩
set_option maxRecDepth 100000 in
theorem wX8_134 : gVw RX8 134 mX0_add 5 := ⟨⟨gT_of 893 rfl rfl, gT_of 894 rfl rfl, gT_of 895 rfl rfl, gT_of 130 rfl rfl, gT_of 896 rfl rfl⟩, by decide +kernel, by decide +kernel, by decide +kernel⟩
set_option maxRecDepth 100000 in
theorem wX8_141 : gVw RX8 141 mX4_free 0 := ⟨⟨gT_of 821 rfl rfl, gT_of 804 rfl rfl, gT_of 805 rfl rfl, gT_of 132 rfl rfl, gT_of 806 rfl rfl⟩, by decide +kernel, by decide +kernel, by decide +kernel⟩
set_option maxRecDepth 100000 in
theorem wX8_144 : gVw RX8 144 mX8_inputsWithFans 0 := ⟨⟨gT_of 822 rfl rfl, gT_of 824 rfl rfl, gT_of 13 rfl rfl, gT_of 129 rfl rfl, gT_of 825 rfl rfl⟩, by decide +kernel, by decide +kernel, by decide +kernel⟩
set_option maxRecDepth 100000 in
theorem wX8_148 : gVw RX8 148 mX8_sendFans 1 := ⟨⟨gT_of 826 rfl rfl, gT_of 828 rfl rfl, gT_of 14 rfl rfl, gT_of 129 rfl rfl, gT_of 829 rfl rfl⟩, by decide +kernel, by decide +kernel, by decide +kernel⟩
set_option maxRecDepth 100000 in
theorem wX8_152 : gVw RX8 152 mX4_passRounds 1 := ⟨⟨gT_of 858 rfl rfl, gT_of 859 rfl rfl, gT_of 860 rfl rfl, gT_of 132 rfl rfl, gT_of 861 rfl rfl⟩, by decide +kernel, by decide +kernel, by decide +kernel⟩
set_option maxRecDepth 100000 in
theorem wX8_158 : gVw RX8 158 mX8_sendCell 2 := ⟨⟨gT_of 877 rfl rfl, gT_of 879 rfl rfl, gT_of 20 rfl rfl, gT_of 129 rfl rfl, gT_of 880 rfl rfl⟩, by decide +kernel, by decide +kernel, by decide +kernel⟩
set_option maxRecDepth 100000 in
theorem wX8_161 : gVw RX8 161 mX6_note 1 := ⟨⟨gT_of 881 rfl rfl, gT_of 882 rfl rfl, gT_of 883 rfl rfl, gT_of 131 rfl rfl, gT_of 884 rfl rfl⟩, by decide +kernel, by decide +kernel, by decide +kernel⟩
set_option maxRecDepth 100000 in
theorem wX8_165 : gVw RX8 165 mX8_mostApart 1 := ⟨⟨gT_of 830 rfl rfl, gT_of 832 rfl rfl, gT_of 15 rfl rfl, gT_of 129 rfl rfl, gT_of 833 rfl rfl⟩, by decide +kernel, by decide +kernel, by decide +kernel⟩
set_option maxRecDepth 100000 in
theorem wX8_169 : gVw RX8 169 mX8_sendFan 2 := ⟨⟨gT_of 847 rfl rfl, gT_of 849 rfl rfl, gT_of 17 rfl rfl, gT_of 129 rfl rfl, gT_of 850 rfl rfl⟩, by decide +kernel, by decide +kernel, by decide +kernel⟩
set_option maxRecDepth 100000 in
theorem wX8_178 : gVw RX8 178 mX8_endSending 1 := ⟨⟨gT_of 851 rfl rfl, gT_of 853 rfl rfl, gT_of 18 rfl rfl, gT_of 129 rfl rfl, gT_of 854 rfl rfl⟩, by decide +kernel, by decide +kernel, by decide +kernel⟩
set_option maxRecDepth 100000 in
theorem wX8_181 : gSw RX8 181 mJ6_bitCount_0f7a4 1 := ⟨⟨gT_of 834 rfl rfl, gT_of 835 rfl rfl, gT_of 145 rfl rfl, gT_of 836 rfl rfl⟩, by decide +kernel, by decide +kernel, by decide +kernel⟩
set_option maxRecDepth 100000 in
theorem wX8_186 : gVw RX8 186 mX8_areApart 1 := ⟨⟨gT_of 840 rfl rfl, gT_of 842 rfl rfl, gT_of 16 rfl rfl, gT_of 129 rfl rfl, gT_of 843 rfl rfl⟩, by decide +kernel, by decide +kernel, by decide +kernel⟩
set_option maxRecDepth 100000 in
theorem wX8_196 : gSw RX8 196 mX8_moveUp 3 := ⟨⟨gT_of 855 rfl rfl, gT_of 856 rfl rfl, gT_of 129 rfl rfl, gT_of 857 rfl rfl⟩, by decide +kernel, by decide +kernel, by decide +kernel⟩
set_option maxRecDepth 100000 in
theorem wX8_206 : gVw RX8 206 mX8_drawBelow 1 := ⟨⟨gT_of 1210 rfl rfl, gT_of 1212 rfl rfl, gT_of 53 rfl rfl, gT_of 129 rfl rfl, gT_of 1213 rfl rfl⟩, by decide +kernel, by decide +kernel, by decide +kernel⟩
set_option maxRecDepth 100000 in
theorem wX8_209 : Cond.constant RX8 209 (1103515245) ∈ gTbl := gT_of 1214 rfl rfl
set_option maxRecDepth 100000 in
theorem wX8_210 : gVw RX8 210 mX8_tellSum 1 := ⟨⟨gT_of 917 rfl rfl, gT_of 919 rfl rfl, gT_of 26 rfl rfl, gT_of 129 rfl rfl, gT_of 920 rfl rfl⟩, by decide +kernel, by decide +kernel, by decide +kernel⟩
set_option maxRecDepth 100000 in
theorem wX9_50 : gVw RX9 50 mX10_line 4 := ⟨⟨gT_of 1028 rfl rfl, gT_of 775 rfl rfl, gT_of 776 rfl rfl, gT_of 127 rfl rfl, gT_of 777 rfl rfl⟩, by decide +kernel, by decide +kernel, by decide +kernel⟩
set_option maxRecDepth 100000 in
theorem wX9_56 : gSw RX9 56 mX8_slotsOf 2 := ⟨⟨gT_of 1029 rfl rfl, gT_of 815 rfl rfl, gT_of 129 rfl rfl, gT_of 816 rfl rfl⟩, by decide +kernel, by decide +kernel, by decide +kernel⟩
set_option maxRecDepth 100000 in
theorem wX9_62 : gVw RX9 62 mX9_setNextIdeal 0 := ⟨⟨gT_of 1030 rfl rfl, gT_of 1032 rfl rfl, gT_of 37 rfl rfl, gT_of 135 rfl rfl, gT_of 1033 rfl rfl⟩, by decide +kernel, by decide +kernel, by decide +kernel⟩
set_option maxRecDepth 100000 in
theorem wX9_65 : gVw RX9 65 mX9_comesBefore 2 := ⟨⟨gT_of 1034 rfl rfl, gT_of 1036 rfl rfl, gT_of 38 rfl rfl, gT_of 135 rfl rfl, gT_of 1037 rfl rfl⟩, by decide +kernel, by decide +kernel, by decide +kernel⟩
set_option maxRecDepth 100000 in
theorem wX9_69 : Cond.methodLink RX9 69 Lib.Math.max.name ∈ gTbl ∧ Cond.static Lib.Math.max.name ∈ gTbl ∧ Cond.initialized "java/lang/Math" ∈ gTbl ∧ Cond.code Lib.Math.max.name Lib.Math.max.code 2 (some .int) ∈ gTbl := ⟨gT_of 1038 rfl rfl, gT_of 801 rfl rfl, gT_of 139 rfl rfl, gT_of 802 rfl rfl⟩
set_option maxRecDepth 100000 in
theorem wX9_74 : gVw RX9 74 mX9_passAll 1 := ⟨⟨gT_of 1043 rfl rfl, gT_of 1045 rfl rfl, gT_of 39 rfl rfl, gT_of 135 rfl rfl, gT_of 1046 rfl rfl⟩, by decide +kernel, by decide +kernel, by decide +kernel⟩
set_option maxRecDepth 100000 in
theorem wX9_78 : gVw RX9 78 mX9_comeAll 1 := ⟨⟨gT_of 1047 rfl rfl, gT_of 1049 rfl rfl, gT_of 40 rfl rfl, gT_of 135 rfl rfl, gT_of 1050 rfl rfl⟩, by decide +kernel, by decide +kernel, by decide +kernel⟩
set_option maxRecDepth 100000 in
theorem wX9_81 : gVw RX9 81 mX9_matchStable 0 := ⟨⟨gT_of 1056 rfl rfl, gT_of 1058 rfl rfl, gT_of 42 rfl rfl, gT_of 135 rfl rfl, gT_of 1059 rfl rfl⟩, by decide +kernel, by decide +kernel, by decide +kernel⟩
set_option maxRecDepth 100000 in
theorem wX9_84 : gVw RX9 84 mX9_sendAll 1 := ⟨⟨gT_of 1076 rfl rfl, gT_of 1078 rfl rfl, gT_of 47 rfl rfl, gT_of 135 rfl rfl, gT_of 1079 rfl rfl⟩, by decide +kernel, by decide +kernel, by decide +kernel⟩
set_option maxRecDepth 100000 in
theorem wX9_88 : gVw RX9 88 mX9_putInRow 1 := ⟨⟨gT_of 1051 rfl rfl, gT_of 1053 rfl rfl, gT_of 41 rfl rfl, gT_of 135 rfl rfl, gT_of 1054 rfl rfl⟩, by decide +kernel, by decide +kernel, by decide +kernel⟩
set_option maxRecDepth 100000 in
theorem wX9_91 : Cond.methodLink RX9 91 Lib.Math.min.name ∈ gTbl ∧ Cond.static Lib.Math.min.name ∈ gTbl ∧ Cond.initialized "java/lang/Math" ∈ gTbl ∧ Cond.code Lib.Math.min.name Lib.Math.min.code 2 (some .int) ∈ gTbl := ⟨gT_of 1055 rfl rfl, gT_of 617 rfl rfl, gT_of 139 rfl rfl, gT_of 618 rfl rfl⟩
set_option maxRecDepth 100000 in
theorem wX9_94 : gVw RX9 94 mX9_askNext 1 := ⟨⟨gT_of 1060 rfl rfl, gT_of 1062 rfl rfl, gT_of 43 rfl rfl, gT_of 135 rfl rfl, gT_of 1063 rfl rfl⟩, by decide +kernel, by decide +kernel, by decide +kernel⟩
set_option maxRecDepth 100000 in
theorem wX9_98 : gVw RX9 98 mX9_takeFromRow 2 := ⟨⟨gT_of 1072 rfl rfl, gT_of 1074 rfl rfl, gT_of 46 rfl rfl, gT_of 135 rfl rfl, gT_of 1075 rfl rfl⟩, by decide +kernel, by decide +kernel, by decide +kernel⟩
set_option maxRecDepth 100000 in
theorem wX9_102 : gVw RX9 102 mX9_leastIdeal 3 := ⟨⟨gT_of 1064 rfl rfl, gT_of 1066 rfl rfl, gT_of 44 rfl rfl, gT_of 135 rfl rfl, gT_of 1067 rfl rfl⟩, by decide +kernel, by decide +kernel, by decide +kernel⟩
set_option maxRecDepth 100000 in
theorem wX9_106 : gVw RX9 106 mX9_isAhead 3 := ⟨⟨gT_of 1068 rfl rfl, gT_of 1070 rfl rfl, gT_of 45 rfl rfl, gT_of 135 rfl rfl, gT_of 1071 rfl rfl⟩, by decide +kernel, by decide +kernel, by decide +kernel⟩
theorem qX10_hasRoom_X10_has : gRoom mX10_hasRoom mX10_has := ⟨rfl, rfl, by decide, by decide⟩
theorem qX10_keep_X10_placeOf : gRoom mX10_keep mX10_placeOf := ⟨rfl, rfl, by decide, by decide⟩
theorem qX10_line_X10_placeOf : gRoom mX10_line mX10_placeOf := ⟨rfl, rfl, by decide, by decide⟩
theorem qX10_lineCount_X10_placeOf : gRoom mX10_lineCount mX10_placeOf := ⟨rfl, rfl, by decide, by decide⟩
theorem qX11_after_X11_begins : gRoom mX11_after mX11_begins := ⟨rfl, rfl, by decide, by decide⟩
theorem qX11_after_X5_tell : gRoom mX11_after mX5_tell := ⟨rfl, rfl, by decide, by decide⟩
theorem qX11_after_X8_follow : gRoom mX11_after mX8_follow := ⟨rfl, rfl, by decide, by decide⟩
theorem qX11_again_X10_copy : gRoom mX11_again mX10_copy := ⟨rfl, rfl, by decide, by decide⟩
theorem qX11_begins_X10_has : gRoom mX11_begins mX10_has := ⟨rfl, rfl, by decide, by decide⟩
theorem qX11_begins_X8_begin : gRoom mX11_begins mX8_begin := ⟨rfl, rfl, by decide, by decide⟩
theorem qX11_cell_X0_tell : gRoom mX11_cell mX0_tell := ⟨rfl, rfl, by decide, by decide⟩
theorem qX11_cell_X11_begins : gRoom mX11_cell mX11_begins := ⟨rfl, rfl, by decide, by decide⟩
theorem qX11_cell_X8_follow : gRoom mX11_cell mX8_follow := ⟨rfl, rfl, by decide, by decide⟩
theorem qX11_crossbar_X10_bar : gRoom mX11_crossbar mX10_bar := ⟨rfl, rfl, by decide, by decide⟩
theorem qX11_crossbar_X10_has : gRoom mX11_crossbar mX10_has := ⟨rfl, rfl, by decide, by decide⟩
theorem qX11_deed_X11_tellLine : gRoom mX11_deed mX11_tellLine := ⟨rfl, rfl, by decide, by decide⟩
theorem qX11_drawn_X10_has : gRoom mX11_drawn mX10_has := ⟨rfl, rfl, by decide, by decide⟩
theorem qX11_drawn_X8_begin : gRoom mX11_drawn mX8_begin := ⟨rfl, rfl, by decide, by decide⟩
theorem qX11_drawn_X8_draw : gRoom mX11_drawn mX8_draw := ⟨rfl, rfl, by decide, by decide⟩
theorem qX11_drawn_X8_tell : gRoom mX11_drawn mX8_tell := ⟨rfl, rfl, by decide, by decide⟩
theorem qX11_fact_X11_tellLine : gRoom mX11_fact mX11_tellLine := ⟨rfl, rfl, by decide, by decide⟩
theorem qX11_feed_X10_put : gRoom mX11_feed mX10_put := ⟨rfl, rfl, by decide, by decide⟩
theorem qX11_fits_X10_bar : gRoom mX11_fits mX10_bar := ⟨rfl, rfl, by decide, by decide⟩
theorem qX11_fits_X10_has : gRoom mX11_fits mX10_has := ⟨rfl, rfl, by decide, by decide⟩
theorem qX11_fits_X1_begin : gRoom mX11_fits mX1_begin := ⟨rfl, rfl, by decide, by decide⟩
theorem qX11_fits_X1_keepIfSo : gRoom mX11_fits mX1_keepIfSo := ⟨rfl, rfl, by decide, by decide⟩
theorem qX11_fits_X1_tell : gRoom mX11_fits mX1_tell := ⟨rfl, rfl, by decide, by decide⟩
theorem qX11_fits_X8_begin_ : gRoom mX11_fits mX8_begin_ := ⟨rfl, rfl, by decide, by decide⟩
theorem qX11_fits_X8_follow : gRoom mX11_fits mX8_follow := ⟨rfl, rfl, by decide, by decide⟩
theorem qX11_flow_X11_begins : gRoom mX11_flow mX11_begins := ⟨rfl, rfl, by decide, by decide⟩
theorem qX11_flow_X5_gatherFlows : gRoom mX11_flow mX5_gatherFlows := ⟨rfl, rfl, by decide, by decide⟩
theorem qX11_flow_X5_tellFlow : gRoom mX11_flow mX5_tellFlow := ⟨rfl, rfl, by decide, by decide⟩
theorem qX11_flow_X8_follow : gRoom mX11_flow mX8_follow := ⟨rfl, rfl, by decide, by decide⟩
theorem qX11_full_X10_bar : gRoom mX11_full mX10_bar := ⟨rfl, rfl, by decide, by decide⟩
theorem qX11_full_X10_has : gRoom mX11_full mX10_has := ⟨rfl, rfl, by decide, by decide⟩
theorem qX11_full_X2_inputAt : gRoom mX11_full mX2_inputAt := ⟨rfl, rfl, by decide, by decide⟩
theorem qX11_image_X10_copy : gRoom mX11_image mX10_copy := ⟨rfl, rfl, by decide, by decide⟩
theorem qX11_judge_X11_reaches : gRoom mX11_judge mX11_reaches := ⟨rfl, rfl, by decide, by decide⟩
theorem qX11_judge_X3_tell : gRoom mX11_judge mX3_tell := ⟨rfl, rfl, by decide, by decide⟩
theorem qX11_mimic_X11_begins : gRoom mX11_mimic mX11_begins := ⟨rfl, rfl, by decide, by decide⟩
theorem qX11_mimic_X8_follow : gRoom mX11_mimic mX8_follow := ⟨rfl, rfl, by decide, by decide⟩
theorem qX11_mimic_X9_take : gRoom mX11_mimic mX9_take := ⟨rfl, rfl, by decide, by decide⟩
theorem qX11_mimic_X9_tell : gRoom mX11_mimic mX9_tell := ⟨rfl, rfl, by decide, by decide⟩
theorem qX11_reaches_X11_begins : gRoom mX11_reaches mX11_begins := ⟨rfl, rfl, by decide, by decide⟩
theorem qX11_reaches_X8_follow : gRoom mX11_reaches mX8_follow := ⟨rfl, rfl, by decide, by decide⟩
theorem qX11_rhythm_X10_has : gRoom mX11_rhythm mX10_has := ⟨rfl, rfl, by decide, by decide⟩
theorem qX11_rhythm_X2_tellRhythm : gRoom mX11_rhythm mX2_tellRhythm := ⟨rfl, rfl, by decide, by decide⟩
theorem qX11_state_X11_reaches : gRoom mX11_state mX11_reaches := ⟨rfl, rfl, by decide, by decide⟩
theorem qX11_state_X8_tell : gRoom mX11_state mX8_tell := ⟨rfl, rfl, by decide, by decide⟩
theorem qX11_stop_X11_begins : gRoom mX11_stop mX11_begins := ⟨rfl, rfl, by decide, by decide⟩
theorem qX11_stop_X8_follow : gRoom mX11_stop mX8_follow := ⟨rfl, rfl, by decide, by decide⟩
theorem qX11_tellLine_X10_has : gRoom mX11_tellLine mX10_has := ⟨rfl, rfl, by decide, by decide⟩
theorem qX11_tellLine_X10_line : gRoom mX11_tellLine mX10_line := ⟨rfl, rfl, by decide, by decide⟩
theorem qX11_tellLine_X10_lineCount : gRoom mX11_tellLine mX10_lineCount := ⟨rfl, rfl, by decide, by decide⟩
theorem qX11_text_X10_hasRoom : gRoom mX11_text mX10_hasRoom := ⟨rfl, rfl, by decide, by decide⟩
theorem qX11_text_X10_keep : gRoom mX11_text mX10_keep := ⟨rfl, rfl, by decide, by decide⟩
theorem qX11_text_X7_read : gRoom mX11_text mX7_read := ⟨rfl, rfl, by decide, by decide⟩
theorem qX12_advance_X12_byteAt : gRoom mX12_advance mX12_byteAt := ⟨rfl, rfl, by decide, by decide⟩
theorem qX12_advance_X12_isDigit : gRoom mX12_advance mX12_isDigit := ⟨rfl, rfl, by decide, by decide⟩
theorem qX12_advance_X12_isLetter : gRoom mX12_advance mX12_isLetter := ⟨rfl, rfl, by decide, by decide⟩
theorem qX12_advance_X12_wordOf : gRoom mX12_advance mX12_wordOf := ⟨rfl, rfl, by decide, by decide⟩
theorem qX12_after_X12_bestOf : gRoom mX12_after mX12_bestOf := ⟨rfl, rfl, by decide, by decide⟩
theorem qX12_after_X12_fairOf : gRoom mX12_after mX12_fairOf := ⟨rfl, rfl, by decide, by decide⟩
theorem qX12_after_X12_goes : gRoom mX12_after mX12_goes := ⟨rfl, rfl, by decide, by decide⟩
theorem qX12_after_X12_idleOf : gRoom mX12_after mX12_idleOf := ⟨rfl, rfl, by decide, by decide⟩
theorem qX12_after_X12_isCrossbar : gRoom mX12_after mX12_isCrossbar := ⟨rfl, rfl, by decide, by decide⟩
theorem qX12_after_X12_isIn : gRoom mX12_after mX12_isIn := ⟨rfl, rfl, by decide, by decide⟩
theorem qX12_after_X12_isPort : gRoom mX12_after mX12_isPort := ⟨rfl, rfl, by decide, by decide⟩
theorem qX12_after_X12_isTraffic : gRoom mX12_after mX12_isTraffic := ⟨rfl, rfl, by decide, by decide⟩
theorem qX12_after_X12_meetsOf : gRoom mX12_after mX12_meetsOf := ⟨rfl, rfl, by decide, by decide⟩
theorem qX12_after_X12_sameOf : gRoom mX12_after mX12_sameOf := ⟨rfl, rfl, by decide, by decide⟩
theorem qX12_after_X12_splitsOf : gRoom mX12_after mX12_splitsOf := ⟨rfl, rfl, by decide, by decide⟩
theorem qX12_after_X12_starvedOf : gRoom mX12_after mX12_starvedOf := ⟨rfl, rfl, by decide, by decide⟩
theorem qX12_after_X12_sumOf : gRoom mX12_after mX12_sumOf := ⟨rfl, rfl, by decide, by decide⟩
theorem qX12_after_X12_turnsOf : gRoom mX12_after mX12_turnsOf := ⟨rfl, rfl, by decide, by decide⟩
theorem qX12_after_X12_waitOf : gRoom mX12_after mX12_waitOf := ⟨rfl, rfl, by decide, by decide⟩
theorem qX12_after_X12_worstOf : gRoom mX12_after mX12_worstOf := ⟨rfl, rfl, by decide, by decide⟩
theorem qX12_again_X12_isIn : gRoom mX12_again mX12_isIn := ⟨rfl, rfl, by decide, by decide⟩
theorem qX12_asks_X12_at : gRoom mX12_asks mX12_at := ⟨rfl, rfl, by decide, by decide⟩
theorem qX12_bestOf_X12_takenIn : gRoom mX12_bestOf mX12_takenIn := ⟨rfl, rfl, by decide, by decide⟩
theorem qX12_bursts_X12_cellComes : gRoom mX12_bursts mX12_cellComes := ⟨rfl, rfl, by decide, by decide⟩
theorem qX12_can_X12_isPort : gRoom mX12_can mX12_isPort := ⟨rfl, rfl, by decide, by decide⟩
theorem qX12_cell_X12_goes : gRoom mX12_cell mX12_goes := ⟨rfl, rfl, by decide, by decide⟩
theorem qX12_cell_X12_isCrossbar : gRoom mX12_cell mX12_isCrossbar := ⟨rfl, rfl, by decide, by decide⟩
theorem qX12_cell_X12_isIn : gRoom mX12_cell mX12_isIn := ⟨rfl, rfl, by decide, by decide⟩
theorem qX12_cell_X12_isTraffic : gRoom mX12_cell mX12_isTraffic := ⟨rfl, rfl, by decide, by decide⟩
theorem qX12_cellComes_X12_at : gRoom mX12_cellComes mX12_at := ⟨rfl, rfl, by decide, by decide⟩
theorem qX12_cellComes_X12_comes : gRoom mX12_cellComes mX12_comes := ⟨rfl, rfl, by decide, by decide⟩
theorem qX12_cellComes_X12_loses : gRoom mX12_cellComes mX12_loses := ⟨rfl, rfl, by decide, by decide⟩
theorem qX12_count_X12_isIn : gRoom mX12_count mX12_isIn := ⟨rfl, rfl, by decide, by decide⟩
theorem qX12_crossbar_X12_isIn : gRoom mX12_crossbar mX12_isIn := ⟨rfl, rfl, by decide, by decide⟩
theorem qX12_crossbar_X12_isOf : gRoom mX12_crossbar mX12_isOf := ⟨rfl, rfl, by decide, by decide⟩
theorem qX12_crossbar_X12_placeOf : gRoom mX12_crossbar mX12_placeOf := ⟨rfl, rfl, by decide, by decide⟩
theorem qX12_crossbarLine_X12_endsLine : gRoom mX12_crossbarLine mX12_endsLine := ⟨rfl, rfl, by decide, by decide⟩
theorem qX12_crossbarLine_X12_numbered : gRoom mX12_crossbarLine mX12_numbered := ⟨rfl, rfl, by decide, by decide⟩
theorem qX12_crossbarLine_X12_wordIn : gRoom mX12_crossbarLine mX12_wordIn := ⟨rfl, rfl, by decide, by decide⟩
theorem qX12_deed_X12_isIn : gRoom mX12_deed mX12_isIn := ⟨rfl, rfl, by decide, by decide⟩
theorem qX12_deed_X12_isTraffic : gRoom mX12_deed mX12_isTraffic := ⟨rfl, rfl, by decide, by decide⟩
theorem qX12_does_X12_bursts : gRoom mX12_does mX12_bursts := ⟨rfl, rfl, by decide, by decide⟩
theorem qX12_does_X12_cellComes : gRoom mX12_does mX12_cellComes := ⟨rfl, rfl, by decide, by decide⟩
theorem qX12_does_X12_fanComes : gRoom mX12_does mX12_fanComes := ⟨rfl, rfl, by decide, by decide⟩
theorem qX12_does_X12_goesSlot : gRoom mX12_does mX12_goesSlot := ⟨rfl, rfl, by decide, by decide⟩
theorem qX12_drawn_X12_begins : gRoom mX12_drawn mX12_begins := ⟨rfl, rfl, by decide, by decide⟩
theorem qX12_drawn_X12_draws : gRoom mX12_drawn mX12_draws := ⟨rfl, rfl, by decide, by decide⟩
theorem qX12_drawn_X12_isCrossbar : gRoom mX12_drawn mX12_isCrossbar := ⟨rfl, rfl, by decide, by decide⟩
theorem qX12_drawn_X12_isIn : gRoom mX12_drawn mX12_isIn := ⟨rfl, rfl, by decide, by decide⟩
theorem qX12_drawn_X12_nowOf : gRoom mX12_drawn mX12_nowOf := ⟨rfl, rfl, by decide, by decide⟩
theorem qX12_draws_X12_below : gRoom mX12_draws mX12_below := ⟨rfl, rfl, by decide, by decide⟩
theorem qX12_draws_X12_can : gRoom mX12_draws mX12_can := ⟨rfl, rfl, by decide, by decide⟩
theorem qX12_draws_X12_does : gRoom mX12_draws mX12_does := ⟨rfl, rfl, by decide, by decide⟩
theorem qX12_eight_X12_four : gRoom mX12_eight mX12_four := ⟨rfl, rfl, by decide, by decide⟩
theorem qX12_endsLine_X12_advance : gRoom mX12_endsLine mX12_advance := ⟨rfl, rfl, by decide, by decide⟩
theorem qX12_endsLine_X12_ends : gRoom mX12_endsLine mX12_ends := ⟨rfl, rfl, by decide, by decide⟩
theorem qX12_fact_X12_isIn : gRoom mX12_fact mX12_isIn := ⟨rfl, rfl, by decide, by decide⟩
theorem qX12_fact_X12_isLog : gRoom mX12_fact mX12_isLog := ⟨rfl, rfl, by decide, by decide⟩
theorem qX12_factsAreSo_X12_isPort : gRoom mX12_factsAreSo mX12_isPort := ⟨rfl, rfl, by decide, by decide⟩
theorem qX12_fairOf_X12_laysFlows : gRoom mX12_fairOf mX12_laysFlows := ⟨rfl, rfl, by decide, by decide⟩
theorem qX12_fanComes_X12_comes : gRoom mX12_fanComes mX12_comes := ⟨rfl, rfl, by decide, by decide⟩
theorem qX12_fanComes_X12_loses : gRoom mX12_fanComes mX12_loses := ⟨rfl, rfl, by decide, by decide⟩
theorem qX12_fits_X12_askOf : gRoom mX12_fits mX12_askOf := ⟨rfl, rfl, by decide, by decide⟩
theorem qX12_fits_X12_isCrossbar : gRoom mX12_fits mX12_isCrossbar := ⟨rfl, rfl, by decide, by decide⟩
theorem qX12_fits_X12_isIn : gRoom mX12_fits mX12_isIn := ⟨rfl, rfl, by decide, by decide⟩
theorem qX12_fits_X12_isLog : gRoom mX12_fits mX12_isLog := ⟨rfl, rfl, by decide, by decide⟩
theorem qX12_fits_X12_isTraffic : gRoom mX12_fits mX12_isTraffic := ⟨rfl, rfl, by decide, by decide⟩
theorem qX12_fits_X12_laysFits : gRoom mX12_fits mX12_laysFits := ⟨rfl, rfl, by decide, by decide⟩
theorem qX12_fits_X12_sureOf : gRoom mX12_fits mX12_sureOf := ⟨rfl, rfl, by decide, by decide⟩
theorem qX12_flow_X12_at : gRoom mX12_flow mX12_at := ⟨rfl, rfl, by decide, by decide⟩
theorem qX12_flow_X12_goes : gRoom mX12_flow mX12_goes := ⟨rfl, rfl, by decide, by decide⟩
theorem qX12_flow_X12_isCrossbar : gRoom mX12_flow mX12_isCrossbar := ⟨rfl, rfl, by decide, by decide⟩
theorem qX12_flow_X12_isIn : gRoom mX12_flow mX12_isIn := ⟨rfl, rfl, by decide, by decide⟩
theorem qX12_flow_X12_isTraffic : gRoom mX12_flow mX12_isTraffic := ⟨rfl, rfl, by decide, by decide⟩
theorem qX12_flow_X12_laysFlows : gRoom mX12_flow mX12_laysFlows := ⟨rfl, rfl, by decide, by decide⟩
theorem qX12_full_X12_begins : gRoom mX12_full mX12_begins := ⟨rfl, rfl, by decide, by decide⟩
theorem qX12_full_X12_isCrossbar : gRoom mX12_full mX12_isCrossbar := ⟨rfl, rfl, by decide, by decide⟩
theorem qX12_full_X12_isIn : gRoom mX12_full mX12_isIn := ⟨rfl, rfl, by decide, by decide⟩
theorem qX12_full_X12_isPort : gRoom mX12_full mX12_isPort := ⟨rfl, rfl, by decide, by decide⟩
theorem qX12_full_X12_loads : gRoom mX12_full mX12_loads := ⟨rfl, rfl, by decide, by decide⟩
theorem qX12_goes_X12_begins : gRoom mX12_goes mX12_begins := ⟨rfl, rfl, by decide, by decide⟩
theorem qX12_goes_X12_can : gRoom mX12_goes mX12_can := ⟨rfl, rfl, by decide, by decide⟩
theorem qX12_goes_X12_does : gRoom mX12_goes mX12_does := ⟨rfl, rfl, by decide, by decide⟩
theorem qX12_goesSlot_X12_at : gRoom mX12_goesSlot mX12_at := ⟨rfl, rfl, by decide, by decide⟩
theorem qX12_goesSlot_X12_matches : gRoom mX12_goesSlot mX12_matches := ⟨rfl, rfl, by decide, by decide⟩
theorem qX12_goesSlot_X12_sendsFans : gRoom mX12_goesSlot mX12_sendsFans := ⟨rfl, rfl, by decide, by decide⟩
theorem qX12_idleOf_X12_takenIn : gRoom mX12_idleOf mX12_takenIn := ⟨rfl, rfl, by decide, by decide⟩
theorem qX12_image_X12_isIn : gRoom mX12_image mX12_isIn := ⟨rfl, rfl, by decide, by decide⟩
theorem qX12_isCrossbar_X12_isOf : gRoom mX12_isCrossbar mX12_isOf := ⟨rfl, rfl, by decide, by decide⟩
theorem qX12_isCrossbar_X12_placeOf : gRoom mX12_isCrossbar mX12_placeOf := ⟨rfl, rfl, by decide, by decide⟩
theorem qX12_isLog_X12_isOf : gRoom mX12_isLog mX12_isOf := ⟨rfl, rfl, by decide, by decide⟩
theorem qX12_isLog_X12_placeOf : gRoom mX12_isLog mX12_placeOf := ⟨rfl, rfl, by decide, by decide⟩
theorem qX12_isOf_X12_isIn : gRoom mX12_isOf mX12_isIn := ⟨rfl, rfl, by decide, by decide⟩
theorem qX12_isPort_X12_isIn : gRoom mX12_isPort mX12_isIn := ⟨rfl, rfl, by decide, by decide⟩
theorem qX12_isState_X12_goes : gRoom mX12_isState mX12_goes := ⟨rfl, rfl, by decide, by decide⟩
theorem qX12_isState_X12_isCrossbar : gRoom mX12_isState mX12_isCrossbar := ⟨rfl, rfl, by decide, by decide⟩
theorem qX12_isState_X12_isTraffic : gRoom mX12_isState mX12_isTraffic := ⟨rfl, rfl, by decide, by decide⟩
theorem qX12_isTraffic_X12_isOf : gRoom mX12_isTraffic mX12_isOf := ⟨rfl, rfl, by decide, by decide⟩
theorem qX12_isTraffic_X12_placeOf : gRoom mX12_isTraffic mX12_placeOf := ⟨rfl, rfl, by decide, by decide⟩
theorem qX12_judge_X12_at : gRoom mX12_judge mX12_at := ⟨rfl, rfl, by decide, by decide⟩
theorem qX12_judge_X12_isIn : gRoom mX12_judge mX12_isIn := ⟨rfl, rfl, by decide, by decide⟩
theorem qX12_judge_X12_isPort : gRoom mX12_judge mX12_isPort := ⟨rfl, rfl, by decide, by decide⟩
theorem qX12_judge_X12_isState : gRoom mX12_judge mX12_isState := ⟨rfl, rfl, by decide, by decide⟩
theorem qX12_judge_X12_judges : gRoom mX12_judge mX12_judges := ⟨rfl, rfl, by decide, by decide⟩
theorem qX12_judge_X12_matchedNow : gRoom mX12_judge mX12_matchedNow := ⟨rfl, rfl, by decide, by decide⟩
theorem qX12_judge_X12_needOf : gRoom mX12_judge mX12_needOf := ⟨rfl, rfl, by decide, by decide⟩
theorem qX12_judge_X12_rowOf : gRoom mX12_judge mX12_rowOf := ⟨rfl, rfl, by decide, by decide⟩
theorem qX12_judge_X12_tries : gRoom mX12_judge mX12_tries := ⟨rfl, rfl, by decide, by decide⟩
theorem qX12_judges_X12_at : gRoom mX12_judges mX12_at := ⟨rfl, rfl, by decide, by decide⟩
theorem qX12_judges_X12_worth : gRoom mX12_judges mX12_worth := ⟨rfl, rfl, by decide, by decide⟩
theorem qX12_laysFits_X12_factsAreSo : gRoom mX12_laysFits mX12_factsAreSo := ⟨rfl, rfl, by decide, by decide⟩
theorem qX12_laysFits_X12_goes : gRoom mX12_laysFits mX12_goes := ⟨rfl, rfl, by decide, by decide⟩
theorem qX12_loads_X12_matches : gRoom mX12_loads mX12_matches := ⟨rfl, rfl, by decide, by decide⟩
theorem qX12_logLine_X12_also : gRoom mX12_logLine mX12_also := ⟨rfl, rfl, by decide, by decide⟩
theorem qX12_logLine_X12_endsLine : gRoom mX12_logLine mX12_endsLine := ⟨rfl, rfl, by decide, by decide⟩
theorem qX12_logLine_X12_numbered : gRoom mX12_logLine mX12_numbered := ⟨rfl, rfl, by decide, by decide⟩
theorem qX12_logLine_X12_wordIn : gRoom mX12_logLine mX12_wordIn := ⟨rfl, rfl, by decide, by decide⟩
theorem qX12_matches_X12_round : gRoom mX12_matches mX12_round := ⟨rfl, rfl, by decide, by decide⟩
theorem qX12_mimic_X12_goes : gRoom mX12_mimic mX12_goes := ⟨rfl, rfl, by decide, by decide⟩
theorem qX12_mimic_X12_isCrossbar : gRoom mX12_mimic mX12_isCrossbar := ⟨rfl, rfl, by decide, by decide⟩
theorem qX12_mimic_X12_isIn : gRoom mX12_mimic mX12_isIn := ⟨rfl, rfl, by decide, by decide⟩
theorem qX12_mimic_X12_isTraffic : gRoom mX12_mimic mX12_isTraffic := ⟨rfl, rfl, by decide, by decide⟩
theorem qX12_mimic_X12_mimics : gRoom mX12_mimic mX12_mimics := ⟨rfl, rfl, by decide, by decide⟩
theorem qX12_mimic_X12_shadows : gRoom mX12_mimic mX12_shadows := ⟨rfl, rfl, by decide, by decide⟩
theorem qX12_mimics_X12_putsIn : gRoom mX12_mimics mX12_putsIn := ⟨rfl, rfl, by decide, by decide⟩
theorem qX12_mimics_X12_sendsLeast : gRoom mX12_mimics mX12_sendsLeast := ⟨rfl, rfl, by decide, by decide⟩
theorem qX12_mimics_X12_stable : gRoom mX12_mimics mX12_stable := ⟨rfl, rfl, by decide, by decide⟩
theorem qX12_needOf_X12_asks : gRoom mX12_needOf mX12_asks := ⟨rfl, rfl, by decide, by decide⟩
theorem qX12_needOf_X12_tries : gRoom mX12_needOf mX12_tries := ⟨rfl, rfl, by decide, by decide⟩
theorem qX12_nowOf_X12_at : gRoom mX12_nowOf mX12_at := ⟨rfl, rfl, by decide, by decide⟩
theorem qX12_nowOf_X12_isPort : gRoom mX12_nowOf mX12_isPort := ⟨rfl, rfl, by decide, by decide⟩
theorem qX12_nowOf_X12_leftOf : gRoom mX12_nowOf mX12_leftOf := ⟨rfl, rfl, by decide, by decide⟩
theorem qX12_numbered_X12_advance : gRoom mX12_numbered mX12_advance := ⟨rfl, rfl, by decide, by decide⟩
theorem qX12_numbered_X12_also : gRoom mX12_numbered mX12_also := ⟨rfl, rfl, by decide, by decide⟩
theorem qX12_numbered_X12_ends : gRoom mX12_numbered mX12_ends := ⟨rfl, rfl, by decide, by decide⟩
theorem qX12_numbered_X12_isIn : gRoom mX12_numbered mX12_isIn := ⟨rfl, rfl, by decide, by decide⟩
theorem qX12_rhythm_X12_begins : gRoom mX12_rhythm mX12_begins := ⟨rfl, rfl, by decide, by decide⟩
theorem qX12_rhythm_X12_isCrossbar : gRoom mX12_rhythm mX12_isCrossbar := ⟨rfl, rfl, by decide, by decide⟩
theorem qX12_rhythm_X12_isIn : gRoom mX12_rhythm mX12_isIn := ⟨rfl, rfl, by decide, by decide⟩
theorem qX12_rhythm_X12_keepsPointers : gRoom mX12_rhythm mX12_keepsPointers := ⟨rfl, rfl, by decide, by decide⟩
theorem qX12_rhythm_X12_likeOf : gRoom mX12_rhythm mX12_likeOf := ⟨rfl, rfl, by decide, by decide⟩
theorem qX12_rhythm_X12_loads : gRoom mX12_rhythm mX12_loads := ⟨rfl, rfl, by decide, by decide⟩
theorem qX12_rhythm_X12_matchedNow : gRoom mX12_rhythm mX12_matchedNow := ⟨rfl, rfl, by decide, by decide⟩
theorem qX12_round_X12_asks : gRoom mX12_round mX12_asks := ⟨rfl, rfl, by decide, by decide⟩
theorem qX12_rowOf_X12_at : gRoom mX12_rowOf mX12_at := ⟨rfl, rfl, by decide, by decide⟩
theorem qX12_rowOf_X12_worth : gRoom mX12_rowOf mX12_worth := ⟨rfl, rfl, by decide, by decide⟩
theorem qX12_sameOf_X12_at : gRoom mX12_sameOf mX12_at := ⟨rfl, rfl, by decide, by decide⟩
theorem qX12_sendsFans_X12_headOf : gRoom mX12_sendsFans mX12_headOf := ⟨rfl, rfl, by decide, by decide⟩
theorem qX12_sendsFans_X12_leftOf : gRoom mX12_sendsFans mX12_leftOf := ⟨rfl, rfl, by decide, by decide⟩
theorem qX12_sendsFans_X12_servedSet : gRoom mX12_sendsFans mX12_servedSet := ⟨rfl, rfl, by decide, by decide⟩
theorem qX12_servedSet_X12_bitsOf : gRoom mX12_servedSet mX12_bitsOf := ⟨rfl, rfl, by decide, by decide⟩
theorem qX12_servedSet_X12_leftOf : gRoom mX12_servedSet mX12_leftOf := ⟨rfl, rfl, by decide, by decide⟩
theorem qX12_shadows_X12_firstOf : gRoom mX12_shadows mX12_firstOf := ⟨rfl, rfl, by decide, by decide⟩
theorem qX12_shadows_X12_outputOf : gRoom mX12_shadows mX12_outputOf := ⟨rfl, rfl, by decide, by decide⟩
theorem qX12_stable_X12_isKept : gRoom mX12_stable mX12_isKept := ⟨rfl, rfl, by decide, by decide⟩
theorem qX12_stable_X12_nextAsk : gRoom mX12_stable mX12_nextAsk := ⟨rfl, rfl, by decide, by decide⟩
theorem qX12_stable_X12_placeIn : gRoom mX12_stable mX12_placeIn := ⟨rfl, rfl, by decide, by decide⟩
theorem qX12_starvedOf_X12_at : gRoom mX12_starvedOf mX12_at := ⟨rfl, rfl, by decide, by decide⟩
theorem qX12_state_X12_isState : gRoom mX12_state mX12_isState := ⟨rfl, rfl, by decide, by decide⟩
theorem qX12_state_X12_nowOf : gRoom mX12_state mX12_nowOf := ⟨rfl, rfl, by decide, by decide⟩
theorem qX12_stop_X12_goes : gRoom mX12_stop mX12_goes := ⟨rfl, rfl, by decide, by decide⟩
theorem qX12_stop_X12_isCrossbar : gRoom mX12_stop mX12_isCrossbar := ⟨rfl, rfl, by decide, by decide⟩
theorem qX12_stop_X12_isTraffic : gRoom mX12_stop mX12_isTraffic := ⟨rfl, rfl, by decide, by decide⟩
theorem qX12_sumOf_X12_waitOf : gRoom mX12_sumOf mX12_waitOf := ⟨rfl, rfl, by decide, by decide⟩
theorem qX12_text_X12_advance : gRoom mX12_text mX12_advance := ⟨rfl, rfl, by decide, by decide⟩
theorem qX12_text_X12_crossbarLine : gRoom mX12_text mX12_crossbarLine := ⟨rfl, rfl, by decide, by decide⟩
theorem qX12_text_X12_isIn : gRoom mX12_text mX12_isIn := ⟨rfl, rfl, by decide, by decide⟩
theorem qX12_text_X12_isOf : gRoom mX12_text mX12_isOf := ⟨rfl, rfl, by decide, by decide⟩
theorem qX12_text_X12_logLine : gRoom mX12_text mX12_logLine := ⟨rfl, rfl, by decide, by decide⟩
theorem qX12_text_X12_placeOf : gRoom mX12_text mX12_placeOf := ⟨rfl, rfl, by decide, by decide⟩
theorem qX12_text_X12_sizeOf : gRoom mX12_text mX12_sizeOf := ⟨rfl, rfl, by decide, by decide⟩
theorem qX12_text_X12_trafficLine : gRoom mX12_text mX12_trafficLine := ⟨rfl, rfl, by decide, by decide⟩
theorem qX12_trafficLine_X12_also : gRoom mX12_trafficLine mX12_also := ⟨rfl, rfl, by decide, by decide⟩
theorem qX12_trafficLine_X12_endsLine : gRoom mX12_trafficLine mX12_endsLine := ⟨rfl, rfl, by decide, by decide⟩
theorem qX12_trafficLine_X12_numbered : gRoom mX12_trafficLine mX12_numbered := ⟨rfl, rfl, by decide, by decide⟩
theorem qX12_trafficLine_X12_wordIn : gRoom mX12_trafficLine mX12_wordIn := ⟨rfl, rfl, by decide, by decide⟩
theorem qX12_tries_X12_matches : gRoom mX12_tries mX12_matches := ⟨rfl, rfl, by decide, by decide⟩
theorem qX12_wordIn_X12_advance : gRoom mX12_wordIn mX12_advance := ⟨rfl, rfl, by decide, by decide⟩
theorem qX12_wordIn_X12_ends : gRoom mX12_wordIn mX12_ends := ⟨rfl, rfl, by decide, by decide⟩
theorem qX12_wordIn_X12_isIn : gRoom mX12_wordIn mX12_isIn := ⟨rfl, rfl, by decide, by decide⟩
theorem qX12_wordOf_X12_eight : gRoom mX12_wordOf mX12_eight := ⟨rfl, rfl, by decide, by decide⟩
theorem qX12_wordOf_X12_four : gRoom mX12_wordOf mX12_four := ⟨rfl, rfl, by decide, by decide⟩
theorem qX12_worstOf_X12_waitOf : gRoom mX12_worstOf mX12_waitOf := ⟨rfl, rfl, by decide, by decide⟩
theorem qX12_worth_X12_at : gRoom mX12_worth mX12_at := ⟨rfl, rfl, by decide, by decide⟩
theorem qX1_allSo_X10_line : gRoom mX1_allSo mX10_line := ⟨rfl, rfl, by decide, by decide⟩
theorem qX1_allSo_X10_lineCount : gRoom mX1_allSo mX10_lineCount := ⟨rfl, rfl, by decide, by decide⟩
theorem qX1_allSo_X6_wereMatched : gRoom mX1_allSo mX6_wereMatched := ⟨rfl, rfl, by decide, by decide⟩
theorem qX1_bestToAsk_X1_mostAlike : gRoom mX1_bestToAsk mX1_mostAlike := ⟨rfl, rfl, by decide, by decide⟩
theorem qX1_keepIfSo_X1_allSo : gRoom mX1_keepIfSo mX1_allSo := ⟨rfl, rfl, by decide, by decide⟩
theorem qX1_mostAlike_X6_inputOf : gRoom mX1_mostAlike mX6_inputOf := ⟨rfl, rfl, by decide, by decide⟩
theorem qX1_tell_X1_bestToAsk : gRoom mX1_tell mX1_bestToAsk := ⟨rfl, rfl, by decide, by decide⟩
theorem qX1_tell_X1_sureOf : gRoom mX1_tell mX1_sureOf := ⟨rfl, rfl, by decide, by decide⟩
theorem qX2_begin_X10_bar : gRoom mX2_begin mX10_bar := ⟨rfl, rfl, by decide, by decide⟩
theorem qX2_begin_X4_begin : gRoom mX2_begin mX4_begin := ⟨rfl, rfl, by decide, by decide⟩
theorem qX2_findRhythm_J6_bitCount_0f7a4 : gRoom mX2_findRhythm mJ6_bitCount_0f7a4 := ⟨rfl, rfl, by decide, by decide⟩
theorem qX2_findRhythm_X2_passSlot : gRoom mX2_findRhythm mX2_passSlot := ⟨rfl, rfl, by decide, by decide⟩
theorem qX2_findRhythm_X2_pointersNow : gRoom mX2_findRhythm mX2_pointersNow := ⟨rfl, rfl, by decide, by decide⟩
theorem qX2_inputAt_X2_begin : gRoom mX2_inputAt mX2_begin := ⟨rfl, rfl, by decide, by decide⟩
theorem qX2_inputAt_X2_passSlot : gRoom mX2_inputAt mX2_passSlot := ⟨rfl, rfl, by decide, by decide⟩
theorem qX2_passSlot_X4_free : gRoom mX2_passSlot mX4_free := ⟨rfl, rfl, by decide, by decide⟩
theorem qX2_passSlot_X4_passRounds : gRoom mX2_passSlot mX4_passRounds := ⟨rfl, rfl, by decide, by decide⟩
theorem qX2_tellRhythm_X2_begin : gRoom mX2_tellRhythm mX2_begin := ⟨rfl, rfl, by decide, by decide⟩
theorem qX2_tellRhythm_X2_findRhythm : gRoom mX2_tellRhythm mX2_findRhythm := ⟨rfl, rfl, by decide, by decide⟩
theorem qX2_tellRhythm_X2_madeFrom : gRoom mX2_tellRhythm mX2_madeFrom := ⟨rfl, rfl, by decide, by decide⟩
theorem qX2_tellRhythm_X2_stepAt : gRoom mX2_tellRhythm mX2_stepAt := ⟨rfl, rfl, by decide, by decide⟩
theorem qX3_bestFrom_X3_mayPair : gRoom mX3_bestFrom mX3_mayPair := ⟨rfl, rfl, by decide, by decide⟩
theorem qX3_bestFrom_X3_sumWith : gRoom mX3_bestFrom mX3_sumWith := ⟨rfl, rfl, by decide, by decide⟩
theorem qX3_bestOf_X3_bestFrom : gRoom mX3_bestOf mX3_bestFrom := ⟨rfl, rfl, by decide, by decide⟩
theorem qX3_firstRow_X3_mayPair : gRoom mX3_firstRow mX3_mayPair := ⟨rfl, rfl, by decide, by decide⟩
theorem qX3_firstRow_X3_sumWith : gRoom mX3_firstRow mX3_sumWith := ⟨rfl, rfl, by decide, by decide⟩
theorem qX3_mayPair_X11_holds : gRoom mX3_mayPair mX11_holds := ⟨rfl, rfl, by decide, by decide⟩
theorem qX3_roundsNeeded_X4_couldMatchMore : gRoom mX3_roundsNeeded mX4_couldMatchMore := ⟨rfl, rfl, by decide, by decide⟩
theorem qX3_roundsNeeded_X4_free : gRoom mX3_roundsNeeded mX4_free := ⟨rfl, rfl, by decide, by decide⟩
theorem qX3_roundsNeeded_X4_passRound : gRoom mX3_roundsNeeded mX4_passRound := ⟨rfl, rfl, by decide, by decide⟩
theorem qX3_tell_J6_bitCount_0f7a4 : gRoom mX3_tell mJ6_bitCount_0f7a4 := ⟨rfl, rfl, by decide, by decide⟩
theorem qX3_tell_X3_bestOf : gRoom mX3_tell mX3_bestOf := ⟨rfl, rfl, by decide, by decide⟩
theorem qX3_tell_X3_cellsOfMatched : gRoom mX3_tell mX3_cellsOfMatched := ⟨rfl, rfl, by decide, by decide⟩
theorem qX3_tell_X3_firstRow : gRoom mX3_tell mX3_firstRow := ⟨rfl, rfl, by decide, by decide⟩
theorem qX3_tell_X3_roundsNeeded : gRoom mX3_tell mX3_roundsNeeded := ⟨rfl, rfl, by decide, by decide⟩
theorem qX3_tell_X8_matchNow : gRoom mX3_tell mX8_matchNow := ⟨rfl, rfl, by decide, by decide⟩
theorem qX4_begin_X4_free : gRoom mX4_begin mX4_free := ⟨rfl, rfl, by decide, by decide⟩
theorem qX4_couldMatchMore_X11_holds : gRoom mX4_couldMatchMore mX11_holds := ⟨rfl, rfl, by decide, by decide⟩
theorem qX4_pair_X11_next : gRoom mX4_pair mX11_next := ⟨rfl, rfl, by decide, by decide⟩
theorem qX4_passRound_X11_firstFrom : gRoom mX4_passRound mX11_firstFrom := ⟨rfl, rfl, by decide, by decide⟩
theorem qX4_passRound_X11_holds : gRoom mX4_passRound mX11_holds := ⟨rfl, rfl, by decide, by decide⟩
theorem qX4_passRound_X4_pair : gRoom mX4_passRound mX4_pair := ⟨rfl, rfl, by decide, by decide⟩
theorem qX4_passRounds_X4_passRound : gRoom mX4_passRounds mX4_passRound := ⟨rfl, rfl, by decide, by decide⟩
theorem qX5_alikeInputs_X5_areAlike : gRoom mX5_alikeInputs mX5_areAlike := ⟨rfl, rfl, by decide, by decide⟩
theorem qX5_bestSlot_J6_bitCount_0f7a4 : gRoom mX5_bestSlot mJ6_bitCount_0f7a4 := ⟨rfl, rfl, by decide, by decide⟩
theorem qX5_fairest_X5_gatherFlows : gRoom mX5_fairest mX5_gatherFlows := ⟨rfl, rfl, by decide, by decide⟩
theorem qX5_fairest_X5_queueOf : gRoom mX5_fairest mX5_queueOf := ⟨rfl, rfl, by decide, by decide⟩
theorem qX5_gatherFlows_X5_noteCell : gRoom mX5_gatherFlows mX5_noteCell := ⟨rfl, rfl, by decide, by decide⟩
theorem qX5_gatherFlows_X6_inputOf : gRoom mX5_gatherFlows mX6_inputOf := ⟨rfl, rfl, by decide, by decide⟩
theorem qX5_longestWait_X0_waitOf : gRoom mX5_longestWait mX0_waitOf := ⟨rfl, rfl, by decide, by decide⟩
theorem qX5_longestWait_X5_worst : gRoom mX5_longestWait mX5_worst := ⟨rfl, rfl, by decide, by decide⟩
theorem qX5_starved_X5_hasSomething : gRoom mX5_starved mX5_hasSomething := ⟨rfl, rfl, by decide, by decide⟩
theorem qX5_sumOfWaits_X0_waitOf : gRoom mX5_sumOfWaits mX0_waitOf := ⟨rfl, rfl, by decide, by decide⟩
theorem qX5_tell_X5_alikeInputs : gRoom mX5_tell mX5_alikeInputs := ⟨rfl, rfl, by decide, by decide⟩
theorem qX5_tell_X5_bestSlot : gRoom mX5_tell mX5_bestSlot := ⟨rfl, rfl, by decide, by decide⟩
theorem qX5_tell_X5_fairest : gRoom mX5_tell mX5_fairest := ⟨rfl, rfl, by decide, by decide⟩
theorem qX5_tell_X5_idleSlots : gRoom mX5_tell mX5_idleSlots := ⟨rfl, rfl, by decide, by decide⟩
theorem qX5_tell_X5_longestWait : gRoom mX5_tell mX5_longestWait := ⟨rfl, rfl, by decide, by decide⟩
theorem qX5_tell_X5_meets : gRoom mX5_tell mX5_meets := ⟨rfl, rfl, by decide, by decide⟩
theorem qX5_tell_X5_splits : gRoom mX5_tell mX5_splits := ⟨rfl, rfl, by decide, by decide⟩
theorem qX5_tell_X5_starved : gRoom mX5_tell mX5_starved := ⟨rfl, rfl, by decide, by decide⟩
theorem qX5_tell_X5_sumOfWaits : gRoom mX5_tell mX5_sumOfWaits := ⟨rfl, rfl, by decide, by decide⟩
theorem qX5_tell_X5_turns : gRoom mX5_tell mX5_turns := ⟨rfl, rfl, by decide, by decide⟩
theorem qX5_tell_X5_worst : gRoom mX5_tell mX5_worst := ⟨rfl, rfl, by decide, by decide⟩
theorem qX5_tellFlow_X5_queueOf : gRoom mX5_tellFlow mX5_queueOf := ⟨rfl, rfl, by decide, by decide⟩
theorem qX5_turns_X6_inputOf : gRoom mX5_turns mX6_inputOf := ⟨rfl, rfl, by decide, by decide⟩
theorem qX5_worst_X0_waitOf : gRoom mX5_worst mX0_waitOf := ⟨rfl, rfl, by decide, by decide⟩
theorem qX6_wereMatched_X6_inputOf : gRoom mX6_wereMatched mX6_inputOf := ⟨rfl, rfl, by decide, by decide⟩
theorem qX7_keepLine_X7_limitOf : gRoom mX7_keepLine mX7_limitOf := ⟨rfl, rfl, by decide, by decide⟩
theorem qX7_nextToken_X7_isDigit : gRoom mX7_nextToken mX7_isDigit := ⟨rfl, rfl, by decide, by decide⟩
theorem qX7_nextToken_X7_isLetter : gRoom mX7_nextToken mX7_isLetter := ⟨rfl, rfl, by decide, by decide⟩
theorem qX7_nextToken_X7_takeDigits : gRoom mX7_nextToken mX7_takeDigits := ⟨rfl, rfl, by decide, by decide⟩
theorem qX7_nextToken_X7_takeWord : gRoom mX7_nextToken mX7_takeWord := ⟨rfl, rfl, by decide, by decide⟩
theorem qX7_read_X7_nextToken : gRoom mX7_read mX7_nextToken := ⟨rfl, rfl, by decide, by decide⟩
theorem qX7_read_X7_readLine : gRoom mX7_read mX7_readLine := ⟨rfl, rfl, by decide, by decide⟩
theorem qX7_readLine_X7_keepLine : gRoom mX7_readLine mX7_keepLine := ⟨rfl, rfl, by decide, by decide⟩
theorem qX7_readLine_X7_limitOf : gRoom mX7_readLine mX7_limitOf := ⟨rfl, rfl, by decide, by decide⟩
theorem qX7_readLine_X7_nextToken : gRoom mX7_readLine mX7_nextToken := ⟨rfl, rfl, by decide, by decide⟩
theorem qX7_readLine_X7_noTextGoesOn : gRoom mX7_readLine mX7_noTextGoesOn := ⟨rfl, rfl, by decide, by decide⟩
theorem qX7_readLine_X7_noteFault : gRoom mX7_readLine mX7_noteFault := ⟨rfl, rfl, by decide, by decide⟩
theorem qX7_readLine_X7_takeNumber : gRoom mX7_readLine mX7_takeNumber := ⟨rfl, rfl, by decide, by decide⟩
theorem qX7_readLine_X7_wordHere : gRoom mX7_readLine mX7_wordHere := ⟨rfl, rfl, by decide, by decide⟩
theorem qX7_takeDigits_X7_isDigit : gRoom mX7_takeDigits mX7_isDigit := ⟨rfl, rfl, by decide, by decide⟩
theorem qX7_takeNumber_X7_noteFault : gRoom mX7_takeNumber mX7_noteFault := ⟨rfl, rfl, by decide, by decide⟩
theorem qX7_takeWord_X7_isLetter : gRoom mX7_takeWord mX7_isLetter := ⟨rfl, rfl, by decide, by decide⟩
theorem qX7_wordHere_X7_isHere : gRoom mX7_wordHere mX7_isHere := ⟨rfl, rfl, by decide, by decide⟩
theorem qX7_wordHere_X7_letters : gRoom mX7_wordHere mX7_letters := ⟨rfl, rfl, by decide, by decide⟩
theorem qX8_begin_X10_bar : gRoom mX8_begin mX10_bar := ⟨rfl, rfl, by decide, by decide⟩
theorem qX8_begin_X8_begin_ : gRoom mX8_begin mX8_begin_ := ⟨rfl, rfl, by decide, by decide⟩
theorem qX8_begin__X10_bar : gRoom mX8_begin_ mX10_bar := ⟨rfl, rfl, by decide, by decide⟩
theorem qX8_begin__X4_begin : gRoom mX8_begin_ mX4_begin := ⟨rfl, rfl, by decide, by decide⟩
theorem qX8_bring_X11_holds : gRoom mX8_bring mX11_holds := ⟨rfl, rfl, by decide, by decide⟩
theorem qX8_bring_X8_takeBurst : gRoom mX8_bring mX8_takeBurst := ⟨rfl, rfl, by decide, by decide⟩
theorem qX8_bring_X8_takeCell : gRoom mX8_bring mX8_takeCell := ⟨rfl, rfl, by decide, by decide⟩
theorem qX8_bring_X8_takeFan : gRoom mX8_bring mX8_takeFan := ⟨rfl, rfl, by decide, by decide⟩
theorem qX8_draw_X8_bring : gRoom mX8_draw mX8_bring := ⟨rfl, rfl, by decide, by decide⟩
theorem qX8_draw_X8_drawBelow : gRoom mX8_draw mX8_drawBelow := ⟨rfl, rfl, by decide, by decide⟩
theorem qX8_draw_X8_passSlot : gRoom mX8_draw mX8_passSlot := ⟨rfl, rfl, by decide, by decide⟩
theorem qX8_endSending_X8_moveUp : gRoom mX8_endSending mX8_moveUp := ⟨rfl, rfl, by decide, by decide⟩
theorem qX8_follow_X10_line : gRoom mX8_follow mX10_line := ⟨rfl, rfl, by decide, by decide⟩
theorem qX8_follow_X10_lineCount : gRoom mX8_follow mX10_lineCount := ⟨rfl, rfl, by decide, by decide⟩
theorem qX8_follow_X8_bring : gRoom mX8_follow mX8_bring := ⟨rfl, rfl, by decide, by decide⟩
theorem qX8_follow_X8_passSlot : gRoom mX8_follow mX8_passSlot := ⟨rfl, rfl, by decide, by decide⟩
theorem qX8_follow_X8_slotsOf : gRoom mX8_follow mX8_slotsOf := ⟨rfl, rfl, by decide, by decide⟩
theorem qX8_matchNow_X4_free : gRoom mX8_matchNow mX4_free := ⟨rfl, rfl, by decide, by decide⟩
theorem qX8_matchNow_X4_passRounds : gRoom mX8_matchNow mX4_passRounds := ⟨rfl, rfl, by decide, by decide⟩
theorem qX8_mostApart_J6_bitCount_0f7a4 : gRoom mX8_mostApart mJ6_bitCount_0f7a4 := ⟨rfl, rfl, by decide, by decide⟩
theorem qX8_mostApart_X8_areApart : gRoom mX8_mostApart mX8_areApart := ⟨rfl, rfl, by decide, by decide⟩
theorem qX8_passSlot_X4_free : gRoom mX8_passSlot mX4_free := ⟨rfl, rfl, by decide, by decide⟩
theorem qX8_passSlot_X4_passRounds : gRoom mX8_passSlot mX4_passRounds := ⟨rfl, rfl, by decide, by decide⟩
theorem qX8_passSlot_X6_note : gRoom mX8_passSlot mX6_note := ⟨rfl, rfl, by decide, by decide⟩
theorem qX8_passSlot_X8_inputsWithFans : gRoom mX8_passSlot mX8_inputsWithFans := ⟨rfl, rfl, by decide, by decide⟩
theorem qX8_passSlot_X8_sendCell : gRoom mX8_passSlot mX8_sendCell := ⟨rfl, rfl, by decide, by decide⟩
theorem qX8_passSlot_X8_sendFans : gRoom mX8_passSlot mX8_sendFans := ⟨rfl, rfl, by decide, by decide⟩
theorem qX8_sendCell_X8_moveUp : gRoom mX8_sendCell mX8_moveUp := ⟨rfl, rfl, by decide, by decide⟩
theorem qX8_sendFan_X11_holds : gRoom mX8_sendFan mX11_holds := ⟨rfl, rfl, by decide, by decide⟩
theorem qX8_sendFans_X11_holds : gRoom mX8_sendFans mX11_holds := ⟨rfl, rfl, by decide, by decide⟩
theorem qX8_sendFans_X8_endSending : gRoom mX8_sendFans mX8_endSending := ⟨rfl, rfl, by decide, by decide⟩
theorem qX8_sendFans_X8_mostApart : gRoom mX8_sendFans mX8_mostApart := ⟨rfl, rfl, by decide, by decide⟩
theorem qX8_sendFans_X8_sendFan : gRoom mX8_sendFans mX8_sendFan := ⟨rfl, rfl, by decide, by decide⟩
theorem qX8_takeBurst_X11_holds : gRoom mX8_takeBurst mX11_holds := ⟨rfl, rfl, by decide, by decide⟩
theorem qX8_takeBurst_X8_takeCell : gRoom mX8_takeBurst mX8_takeCell := ⟨rfl, rfl, by decide, by decide⟩
theorem qX8_takeCell_X0_add : gRoom mX8_takeCell mX0_add := ⟨rfl, rfl, by decide, by decide⟩
theorem qX8_takeFan_X0_add : gRoom mX8_takeFan mX0_add := ⟨rfl, rfl, by decide, by decide⟩
theorem qX8_tell_X8_tellSum : gRoom mX8_tell mX8_tellSum := ⟨rfl, rfl, by decide, by decide⟩
theorem qX9_askNext_X9_isAhead : gRoom mX9_askNext mX9_isAhead := ⟨rfl, rfl, by decide, by decide⟩
theorem qX9_askNext_X9_leastIdeal : gRoom mX9_askNext mX9_leastIdeal := ⟨rfl, rfl, by decide, by decide⟩
theorem qX9_comeAll_X9_putInRow : gRoom mX9_comeAll mX9_putInRow := ⟨rfl, rfl, by decide, by decide⟩
theorem qX9_matchStable_X9_askNext : gRoom mX9_matchStable mX9_askNext := ⟨rfl, rfl, by decide, by decide⟩
theorem qX9_matchStable_X9_takeFromRow : gRoom mX9_matchStable mX9_takeFromRow := ⟨rfl, rfl, by decide, by decide⟩
theorem qX9_passAll_X9_comeAll : gRoom mX9_passAll mX9_comeAll := ⟨rfl, rfl, by decide, by decide⟩
theorem qX9_passAll_X9_matchStable : gRoom mX9_passAll mX9_matchStable := ⟨rfl, rfl, by decide, by decide⟩
theorem qX9_passAll_X9_sendAll : gRoom mX9_passAll mX9_sendAll := ⟨rfl, rfl, by decide, by decide⟩
theorem qX9_sendAll_X9_leastIdeal : gRoom mX9_sendAll mX9_leastIdeal := ⟨rfl, rfl, by decide, by decide⟩
theorem qX9_setNextIdeal_X9_comesBefore : gRoom mX9_setNextIdeal mX9_comesBefore := ⟨rfl, rfl, by decide, by decide⟩
theorem qX9_take_X10_line : gRoom mX9_take mX10_line := ⟨rfl, rfl, by decide, by decide⟩
theorem qX9_take_X8_slotsOf : gRoom mX9_take mX8_slotsOf := ⟨rfl, rfl, by decide, by decide⟩
theorem qX9_take_X9_setNextIdeal : gRoom mX9_take mX9_setNextIdeal := ⟨rfl, rfl, by decide, by decide⟩
theorem qX9_tell_X9_passAll : gRoom mX9_tell mX9_passAll := ⟨rfl, rfl, by decide, by decide⟩
