/-! THE TABLES HELD AGAINST THE BYTES AND THE WORDS: each instruction in the small machine's words is what the bytes say, each link stands among the words. -/
def bcT : List ByteArray := [cX0_init, cX0_clear, cX0_note, cX0_dropOldest, cX0_takeLatest, cX0_hasLatest, cX0_latestKind, cX0_latestPlace, cX0_latestCost, cX0_latestRow, cX1_init, cX1_start, cX1_clearClosings, cX1_has, cX1_heartEnd, cX1_behind, cX1_ways, cX1_cutPlain, cX1_cutCheapest, cX1_cutNext, cX1_countUpTo, cX1_cutAsTold, cX1_join, cX1_isChanged, cX1_begin, cX1_openingSize, cX1_heartSize, cX1_closingSize, cX1_openingKey, cX1_heartKey, cX1_closingKey, cX1_endKey, cX1_weight, cX1_isHeavy, cX1_countHeavy, cX1_costOf, cX1_total, cX1_firstNotLegal, cX1_stressed, cX2_init, cX2_clear, cX2_costAt, cX2_putCost, cX2_addTold, cX2_isTold, cX2_addGlide, cX2_isGlide, cX2_isLongHeart, cX2_openingKind, cX2_isRising, cX2_isLegalClosing, cX2_countLearntOpenings, cX2_isNewLead, cX2_leadAt, cX2_countOpenings, cX2_countHearts, cX2_countClosings, cX3_init, cX3_seek, cX3_takeNextPlaces, cX3_fits, cX3_placeOf, cX4_init, cX4_readLaw, cX4_readSpeech, cX4_readLine, cX4_lineHere, cX4_mostOf, cX4_readRowLine, cX4_readNumbersLine, cX4_readSound, cX4_readOpen, cX4_readGlide, cX4_readCost, cX4_costHere, cX4_readRow, cX4_readNumber, cX4_readSign, cX5_init, cX5_clear, cX5_add, cX5_copy, cX5_soundAt, cX5_key, cX5_longer, cX5_sizeOf, cX5_soundIn, cX6_init, cX6_clear, cX6_add, cX6_has, cX6_numberOf, cX6_letterOf, cX6_openOf, cX6_isPeak, cX6_countPeaks, cX6_distance, cX6_change, cX6_countHills, cX6_climbs, cX6_countChains, cX6_chainsBefore, cX7_init, cX7_takeSpare, cX7_hasSyllables, cX7_goingOver, cX7_cutPlain, cX7_cutJoined, cX7_heavyJoined, cX7_heavyPlain, cX7_changed, cX7_countMisfits, cX7_stressedEnd, cX8_init, cX8_fill, cX8_countSyllables, cX8_count, cX8_unlike, cX8_tell, cX8_make, cX8_drawn, cX9_init, cX9_hasRoomFor, cX9_put, cX9_startReading, cX9_fail, cX9_refuse, cX9_goesOn, cX9_advance, cX9_isBlank, cX9_countFrom, cX9_valueHere, cX9_letterAt, cX9_spells, cX10_init, cX10_clear, cX10_rowAt, cX10_add, cX10_putIn, cX10_takeOut, cX10_hasLead, cX10_rowsThatMake, cX10_hasWord, cX11_init, cX11_feed, cX11_end, cX11_law, cX11_say, cX11_fault, cX11_sound, cX11_opening, cX11_word, cX11_at, cX11_syllable, cX11_tellSyllable, cX11_judge, cX11_within, cX11_rhyme, cX11_mend, cX11_far, cX11_nearest, cX11_parts, cX11_hills, cX11_joins, cX11_speech, cX11_misfits, cX11_beat, cX11_possible, cX11_tally, cX11_made, cX11_learn, cX11_forget, cX11_cost, cX11_undo, cX11_about, cX11_rowOf, cX12_init, cX12_isIn, cX12_truth, cX12_lesser, cX12_greater, cX12_feed, cX12_four, cX12_end, cX12_here, cX12_isLetter, cX12_isDigit, cX12_goOn, cX12_wrong, cX12_isGood, cX12_isWord, cX12_must, cX12_number, cX12_plainly, cX12_soundsHere, cX12_soundLine, cX12_openLine, cX12_glideLine, cX12_once, cX12_costLine, cX12_closeLine, cX12_weighLine, cX12_stressLine, cX12_helpLine, cX12_wordLine, cX12_riseLine, cX12_moveLine, cX12_line, cX12_begins, cX12_law, cX12_takes, cX12_say, cX12_fault, cX12_act, cX12_undo, cX12_learn, cX12_forget, cX12_cost, cX12_costOf, cX12_isThere, cX12_isSaid, cX12_longOf, cX12_soundAt, cX12_at, cX12_sound, cX12_isPeak, cX12_areOne, cX12_looksAt, cX12_laysHearts, cX12_endOf, cX12_gap, cX12_isRising, cX12_isTold, cX12_aheadOf, cX12_isLearnt, cX12_openingKind, cX12_isClosing, cX12_opening, cX12_cutsPlainly, cX12_openingFrom, cX12_openingSize, cX12_closingSize, cX12_weightOf, cX12_isHeavy, cX12_costBy, cX12_costAt, cX12_costAll, cX12_firstCut, cX12_nextCut, cX12_ways, cX12_cutsCheaply, cX12_cutsUpTo, cX12_stress, cX12_word, cX12_hills, cX12_within, cX12_judge, cX12_over, cX12_joins, cX12_joinedAt, cX12_syllable, cX12_speech, cX12_rhyme, cX12_isMendedBy, cX12_ones, cX12_mendedBy, cX12_mend, cX12_unlike, cX12_farOf, cX12_far, cX12_nearest, cX12_areAlike, cX12_isPart, cX12_parts, cX12_syllablesSaid, cX12_misfitsBy, cX12_misfits, cX12_beat, cX12_slopes, cX12_isOpeningLearnt, cX12_openingsOf, cX12_possible, cX12_forgets, cX12_counts, cX12_isRow, cX12_tallies, cX12_tally, cX12_tallied, cX12_makes, cX12_made, cX12_about, cJ0_length_8abf5, cJ0_charAt_5068e, cJ0_coder_7d493, cJ0_isLatin1_aae02, cJ0_checkIndex_df160, cJ1_charAt_3b067, cJ3_checkIndex_8e157, cL_law]
def nmT : List MethodName := [yX0_init, yX0_clear, yX0_note, yX0_dropOldest, yX0_takeLatest, yX0_hasLatest, yX0_latestKind, yX0_latestPlace, yX0_latestCost, yX0_latestRow, yX1_init, yX1_start, yX1_clearClosings, yX1_has, yX1_heartEnd, yX1_behind, yX1_ways, yX1_cutPlain, yX1_cutCheapest, yX1_cutNext, yX1_countUpTo, yX1_cutAsTold, yX1_join, yX1_isChanged, yX1_begin, yX1_openingSize, yX1_heartSize, yX1_closingSize, yX1_openingKey, yX1_heartKey, yX1_closingKey, yX1_endKey, yX1_weight, yX1_isHeavy, yX1_countHeavy, yX1_costOf, yX1_total, yX1_firstNotLegal, yX1_stressed, yX2_init, yX2_clear, yX2_costAt, yX2_putCost, yX2_addTold, yX2_isTold, yX2_addGlide, yX2_isGlide, yX2_isLongHeart, yX2_openingKind, yX2_isRising, yX2_isLegalClosing, yX2_countLearntOpenings, yX2_isNewLead, yX2_leadAt, yX2_countOpenings, yX2_countHearts, yX2_countClosings, yX3_init, yX3_seek, yX3_takeNextPlaces, yX3_fits, yX3_placeOf, yX4_init, yX4_readLaw, yX4_readSpeech, yX4_readLine, yX4_lineHere, yX4_mostOf, yX4_readRowLine, yX4_readNumbersLine, yX4_readSound, yX4_readOpen, yX4_readGlide, yX4_readCost, yX4_costHere, yX4_readRow, yX4_readNumber, yX4_readSign, yX5_init, yX5_clear, yX5_add, yX5_copy, yX5_soundAt, yX5_key, yX5_longer, yX5_sizeOf, yX5_soundIn, yX6_init, yX6_clear, yX6_add, yX6_has, yX6_numberOf, yX6_letterOf, yX6_openOf, yX6_isPeak, yX6_countPeaks, yX6_distance, yX6_change, yX6_countHills, yX6_climbs, yX6_countChains, yX6_chainsBefore, yX7_init, yX7_takeSpare, yX7_hasSyllables, yX7_goingOver, yX7_cutPlain, yX7_cutJoined, yX7_heavyJoined, yX7_heavyPlain, yX7_changed, yX7_countMisfits, yX7_stressedEnd, yX8_init, yX8_fill, yX8_countSyllables, yX8_count, yX8_unlike, yX8_tell, yX8_make, yX8_drawn, yX9_init, yX9_hasRoomFor, yX9_put, yX9_startReading, yX9_fail, yX9_refuse, yX9_goesOn, yX9_advance, yX9_isBlank, yX9_countFrom, yX9_valueHere, yX9_letterAt, yX9_spells, yX10_init, yX10_clear, yX10_rowAt, yX10_add, yX10_putIn, yX10_takeOut, yX10_hasLead, yX10_rowsThatMake, yX10_hasWord, yX11_init, yX11_feed, yX11_end, yX11_law, yX11_say, yX11_fault, yX11_sound, yX11_opening, yX11_word, yX11_at, yX11_syllable, yX11_tellSyllable, yX11_judge, yX11_within, yX11_rhyme, yX11_mend, yX11_far, yX11_nearest, yX11_parts, yX11_hills, yX11_joins, yX11_speech, yX11_misfits, yX11_beat, yX11_possible, yX11_tally, yX11_made, yX11_learn, yX11_forget, yX11_cost, yX11_undo, yX11_about, yX11_rowOf, yX12_init, yX12_isIn, yX12_truth, yX12_lesser, yX12_greater, yX12_feed, yX12_four, yX12_end, yX12_here, yX12_isLetter, yX12_isDigit, yX12_goOn, yX12_wrong, yX12_isGood, yX12_isWord, yX12_must, yX12_number, yX12_plainly, yX12_soundsHere, yX12_soundLine, yX12_openLine, yX12_glideLine, yX12_once, yX12_costLine, yX12_closeLine, yX12_weighLine, yX12_stressLine, yX12_helpLine, yX12_wordLine, yX12_riseLine, yX12_moveLine, yX12_line, yX12_begins, yX12_law, yX12_takes, yX12_say, yX12_fault, yX12_act, yX12_undo, yX12_learn, yX12_forget, yX12_cost, yX12_costOf, yX12_isThere, yX12_isSaid, yX12_longOf, yX12_soundAt, yX12_at, yX12_sound, yX12_isPeak, yX12_areOne, yX12_looksAt, yX12_laysHearts, yX12_endOf, yX12_gap, yX12_isRising, yX12_isTold, yX12_aheadOf, yX12_isLearnt, yX12_openingKind, yX12_isClosing, yX12_opening, yX12_cutsPlainly, yX12_openingFrom, yX12_openingSize, yX12_closingSize, yX12_weightOf, yX12_isHeavy, yX12_costBy, yX12_costAt, yX12_costAll, yX12_firstCut, yX12_nextCut, yX12_ways, yX12_cutsCheaply, yX12_cutsUpTo, yX12_stress, yX12_word, yX12_hills, yX12_within, yX12_judge, yX12_over, yX12_joins, yX12_joinedAt, yX12_syllable, yX12_speech, yX12_rhyme, yX12_isMendedBy, yX12_ones, yX12_mendedBy, yX12_mend, yX12_unlike, yX12_farOf, yX12_far, yX12_nearest, yX12_areAlike, yX12_isPart, yX12_parts, yX12_syllablesSaid, yX12_misfitsBy, yX12_misfits, yX12_beat, yX12_slopes, yX12_isOpeningLearnt, yX12_openingsOf, yX12_possible, yX12_forgets, yX12_counts, yX12_isRow, yX12_tallies, yX12_tally, yX12_tallied, yX12_makes, yX12_made, yX12_about, yJ0_length_8abf5, yJ0_charAt_5068e, yJ0_coder_7d493, yJ0_isLatin1_aae02, yJ0_checkIndex_df160, yJ1_charAt_3b067, yJ3_checkIndex_8e157, yL_law]
def rtT : List (Option FieldType) := [(none : Option FieldType), (none : Option FieldType), (none : Option FieldType), (none : Option FieldType), (some FieldType.boolean), (some FieldType.boolean), (some FieldType.int), (some FieldType.int), (some FieldType.int), (some (FieldType.object "SyllableMaker$Row")), (none : Option FieldType), (none : Option FieldType), (none : Option FieldType), (some FieldType.boolean), (some FieldType.int), (some FieldType.int), (some FieldType.int), (none : Option FieldType), (some FieldType.int), (some FieldType.boolean), (some FieldType.int), (some FieldType.boolean), (none : Option FieldType), (some FieldType.boolean), (some FieldType.int), (some FieldType.int), (some FieldType.int), (some FieldType.int), (some FieldType.long), (some FieldType.long), (some FieldType.long), (some FieldType.long), (some FieldType.int), (some FieldType.boolean), (some FieldType.int), (some FieldType.int), (some FieldType.int), (some FieldType.int), (some FieldType.int), (none : Option FieldType), (none : Option FieldType), (some FieldType.int), (none : Option FieldType), (none : Option FieldType), (some FieldType.boolean), (none : Option FieldType), (some FieldType.boolean), (some FieldType.boolean), (some FieldType.int), (some FieldType.boolean), (some FieldType.boolean), (some FieldType.int), (some FieldType.boolean), (some FieldType.long), (some FieldType.int), (some FieldType.int), (some FieldType.int), (none : Option FieldType), (some FieldType.int), (some FieldType.boolean), (some FieldType.boolean), (some FieldType.int), (none : Option FieldType), (some FieldType.boolean), (some FieldType.boolean), (none : Option FieldType), (some FieldType.int), (some FieldType.int), (none : Option FieldType), (none : Option FieldType), (none : Option FieldType), (none : Option FieldType), (none : Option FieldType), (none : Option FieldType), (some FieldType.int), (some FieldType.boolean), (some FieldType.int), (none : Option FieldType), (none : Option FieldType), (none : Option FieldType), (none : Option FieldType), (none : Option FieldType), (some FieldType.int), (some FieldType.long), (some FieldType.long), (some FieldType.int), (some FieldType.int), (none : Option FieldType), (none : Option FieldType), (none : Option FieldType), (some FieldType.boolean), (some FieldType.int), (some FieldType.int), (some FieldType.int), (some FieldType.boolean), (some FieldType.int), (some FieldType.int), (some FieldType.int), (some FieldType.int), (some FieldType.boolean), (some FieldType.int), (some FieldType.int), (none : Option FieldType), (none : Option FieldType), (some FieldType.boolean), (some FieldType.int), (some FieldType.boolean), (some FieldType.boolean), (some FieldType.int), (some FieldType.int), (some FieldType.int), (some FieldType.int), (some FieldType.long), (none : Option FieldType), (none : Option FieldType), (none : Option FieldType), (none : Option FieldType), (some FieldType.int), (some FieldType.int), (some FieldType.int), (some FieldType.long), (none : Option FieldType), (some FieldType.boolean), (none : Option FieldType), (none : Option FieldType), (none : Option FieldType), (none : Option FieldType), (some FieldType.boolean), (none : Option FieldType), (some FieldType.boolean), (some FieldType.int), (some FieldType.int), (some FieldType.int), (some FieldType.boolean), (none : Option FieldType), (none : Option FieldType), (some (FieldType.object "SyllableMaker$Row")), (some FieldType.boolean), (some FieldType.boolean), (none : Option FieldType), (some FieldType.boolean), (some FieldType.int), (some FieldType.boolean), (none : Option FieldType), (some FieldType.int), (some FieldType.int), (some FieldType.int), (some FieldType.int), (some FieldType.int), (some FieldType.int), (some FieldType.int), (some FieldType.int), (some FieldType.int), (some FieldType.int), (some FieldType.int), (some FieldType.int), (some FieldType.int), (some FieldType.int), (some FieldType.int), (some FieldType.int), (some FieldType.int), (some FieldType.int), (some FieldType.int), (some FieldType.int), (some FieldType.int), (some FieldType.int), (some FieldType.int), (some FieldType.int), (some FieldType.int), (some FieldType.int), (some FieldType.int), (some FieldType.int), (some FieldType.int), (some FieldType.int), (some FieldType.int), (some (FieldType.object "SyllableMaker$Row")), (none : Option FieldType), (some FieldType.boolean), (some FieldType.int), (some FieldType.int), (some FieldType.int), (some FieldType.int), (none : Option FieldType), (some FieldType.int), (some FieldType.int), (some FieldType.boolean), (some FieldType.boolean), (none : Option FieldType), (none : Option FieldType), (some FieldType.boolean), (some FieldType.boolean), (none : Option FieldType), (some FieldType.int), (none : Option FieldType), (none : Option FieldType), (none : Option FieldType), (none : Option FieldType), (none : Option FieldType), (none : Option FieldType), (none : Option FieldType), (none : Option FieldType), (none : Option FieldType), (none : Option FieldType), (none : Option FieldType), (none : Option FieldType), (none : Option FieldType), (none : Option FieldType), (none : Option FieldType), (none : Option FieldType), (some FieldType.int), (none : Option FieldType), (some FieldType.int), (some FieldType.int), (none : Option FieldType), (some FieldType.int), (some FieldType.int), (some FieldType.int), (some FieldType.int), (some FieldType.int), (some FieldType.boolean), (some FieldType.boolean), (some FieldType.int), (some FieldType.int), (some FieldType.int), (some FieldType.int), (some FieldType.boolean), (some FieldType.boolean), (none : Option FieldType), (none : Option FieldType), (some FieldType.int), (some FieldType.int), (some FieldType.boolean), (some FieldType.boolean), (some FieldType.int), (some FieldType.boolean), (some FieldType.int), (some FieldType.boolean), (some FieldType.int), (none : Option FieldType), (some FieldType.int), (some FieldType.int), (some FieldType.int), (some FieldType.int), (some FieldType.boolean), (some FieldType.int), (some FieldType.int), (some FieldType.int), (none : Option FieldType), (some FieldType.boolean), (some FieldType.int), (some FieldType.int), (some FieldType.int), (some FieldType.int), (some FieldType.int), (some FieldType.int), (some FieldType.int), (some FieldType.int), (some FieldType.int), (some FieldType.int), (some FieldType.int), (some FieldType.int), (some FieldType.int), (some FieldType.int), (some FieldType.boolean), (some FieldType.int), (some FieldType.int), (some FieldType.int), (some FieldType.int), (some FieldType.int), (some FieldType.int), (some FieldType.int), (some FieldType.boolean), (some FieldType.boolean), (some FieldType.int), (some FieldType.int), (some FieldType.int), (some FieldType.int), (some FieldType.int), (some FieldType.long), (some FieldType.boolean), (some FieldType.long), (some FieldType.int), (none : Option FieldType), (none : Option FieldType), (some FieldType.boolean), (none : Option FieldType), (some FieldType.int), (some FieldType.int), (none : Option FieldType), (some FieldType.int), (some FieldType.int), (some FieldType.int), (some FieldType.char), (some FieldType.byte), (some FieldType.boolean), (none : Option FieldType), (some FieldType.char), (some FieldType.int), ret]
def oxT : List Nat := [0, 0, 0, 0, 0, 0, 0, 0, 0, 0, 1, 1, 1, 1, 1, 1, 1, 1, 1, 1, 1, 1, 1, 1, 1, 1, 1, 1, 1, 1, 1, 1, 1, 1, 1, 1, 1, 1, 1, 2, 2, 2, 2, 2, 2, 2, 2, 2, 2, 2, 2, 2, 2, 2, 2, 2, 2, 3, 3, 3, 3, 3, 4, 4, 4, 4, 4, 4, 4, 4, 4, 4, 4, 4, 4, 4, 4, 4, 5, 5, 5, 5, 5, 5, 5, 5, 5, 6, 6, 6, 6, 6, 6, 6, 6, 6, 6, 6, 6, 6, 6, 6, 7, 7, 7, 7, 7, 7, 7, 7, 7, 7, 7, 8, 8, 8, 8, 8, 8, 8, 8, 9, 9, 9, 9, 9, 9, 9, 9, 9, 9, 9, 9, 9, 10, 10, 10, 10, 10, 10, 10, 10, 10, 11, 11, 11, 11, 11, 11, 11, 11, 11, 11, 11, 11, 11, 11, 11, 11, 11, 11, 11, 11, 11, 11, 11, 11, 11, 11, 11, 11, 11, 11, 11, 11, 11, 12, 12, 12, 12, 12, 12, 12, 12, 12, 12, 12, 12, 12, 12, 12, 12, 12, 12, 12, 12, 12, 12, 12, 12, 12, 12, 12, 12, 12, 12, 12, 12, 12, 12, 12, 12, 12, 12, 12, 12, 12, 12, 12, 12, 12, 12, 12, 12, 12, 12, 12, 12, 12, 12, 12, 12, 12, 12, 12, 12, 12, 12, 12, 12, 12, 12, 12, 12, 12, 12, 12, 12, 12, 12, 12, 12, 12, 12, 12, 12, 12, 12, 12, 12, 12, 12, 12, 12, 12, 12, 12, 12, 12, 12, 12, 12, 12, 12, 12, 12, 12, 12, 12, 12, 12, 12, 12, 12, 12, 12, 12, 12, 12, 12, 12, 13, 13, 13, 13, 13, 14, 15, 16]
def onT : List String := [RX0, RX1, RX2, RX3, RX4, RX5, RX6, RX7, RX8, RX9, RX10, RX11, RX12, RJ0, RJ1, RJ3, RL]
def bcY (y : Nat) : ByteArray := bcT.getD y ByteArray.empty
def nmY (y : Nat) : MethodName := nmT.getD y yL_law
def rtY (y : Nat) : Option FieldType := rtT.getD y none
def oxY (y : Nat) : Nat := oxT.getD y 99
def onN (x : Nat) : String := onT.getD x ""
def clTb (a : Nat) : u_T := match a with
  | 0 => TX0
  | 1 => TX1
  | 2 => TX2
  | 3 => TX3
  | 4 => TX4
  | 5 => TX5
  | 6 => TX6
  | 7 => TX7
  | 8 => TX8
  | 9 => TX9
  | 10 => TX10
  | 11 => TX11
  | _ => TX12
def clTy (a : Nat) : Nat → FieldType := match a with
  | 0 => tyX0
  | 1 => tyX1
  | 2 => tyX2
  | 3 => tyX3
  | 4 => tyX4
  | 5 => tyX5
  | 6 => tyX6
  | 7 => tyX7
  | 8 => tyX8
  | 9 => tyX9
  | 10 => tyX10
  | 11 => tyX11
  | _ => tyX12
/-- of which kind a field is: 0 int, 1 boolean, 2 long, 3 a reference -/
def ftC (a k : Nat) : Nat := match clTy a k with
  | .int => 0
  | .boolean => 1
  | .long => 2
  | _ => 3
def fldT : List (Nat × Nat × Nat × Nat × Nat) := [(9, 11, 9, 0, 144), (9, 19, 9, 1, 145), (11, 80, 9, 1, 146), (4, 58, 9, 2, 147), (9, 34, 9, 2, 148), (9, 25, 9, 3, 149), (9, 28, 9, 4, 150), (4, 180, 9, 4, 151), (4, 51, 9, 5, 152), (9, 22, 9, 5, 153), (11, 117, 9, 5, 154), (9, 15, 9, 6, 155), (11, 120, 9, 6, 156), (5, 11, 5, 0, 185), (5, 15, 5, 1, 186), (3, 32, 5, 1, 187), (1, 47, 5, 1, 188), (7, 76, 5, 1, 189), (10, 36, 5, 1, 190), (11, 150, 5, 1, 191), (6, 44, 5, 1, 192), (4, 195, 5, 1, 193), (5, 19, 5, 2, 194), (7, 35, 5, 2, 195), (10, 32, 5, 2, 196), (2, 125, 5, 2, 197), (4, 28, 4, 0, 206), (4, 12, 4, 1, 207), (4, 18, 4, 2, 208), (4, 24, 4, 3, 209), (4, 32, 4, 4, 210), (1, 11, 1, 0, 229), (1, 17, 1, 1, 230), (1, 20, 1, 2, 231), (1, 23, 1, 3, 232), (1, 26, 1, 4, 233), (1, 30, 1, 5, 234), (1, 34, 1, 6, 235), (1, 37, 1, 7, 236), (1, 41, 1, 8, 237), (1, 44, 1, 9, 238), (8, 62, 1, 9, 239), (7, 63, 1, 9, 240), (3, 80, 1, 9, 241), (11, 155, 1, 9, 242), (10, 15, 10, 0, 279), (10, 9, 10, 1, 280), (10, 20, 10, 2, 281), (8, 41, 10, 2, 282), (7, 27, 10, 2, 283), (11, 116, 10, 2, 284), (2, 111, 10, 2, 285), (7, 23, 7, 0, 293), (7, 14, 7, 1, 294), (11, 88, 7, 1, 295), (7, 20, 7, 2, 296), (11, 107, 7, 2, 297), (8, 27, 8, 0, 315), (8, 15, 8, 1, 316), (8, 20, 8, 2, 317), (8, 23, 8, 3, 318), (8, 31, 8, 4, 319), (3, 22, 3, 0, 340), (3, 12, 3, 1, 341), (3, 18, 3, 2, 342), (0, 11, 0, 0, 358), (0, 15, 0, 1, 359), (0, 18, 0, 2, 360), (0, 23, 0, 3, 361), (0, 28, 0, 4, 362), (11, 332, 0, 4, 363), (6, 11, 6, 0, 387), (6, 15, 6, 1, 388), (6, 18, 6, 2, 389), (6, 24, 6, 3, 390), (6, 27, 6, 4, 391), (6, 30, 6, 5, 392), (6, 33, 6, 6, 393), (11, 102, 6, 6, 394), (2, 129, 6, 6, 395), (2, 12, 2, 0, 425), (1, 50, 2, 0, 426), (7, 41, 2, 0, 427), (11, 98, 2, 0, 428), (3, 61, 2, 0, 429), (4, 183, 2, 0, 430), (2, 23, 2, 1, 431), (8, 35, 2, 1, 432), (4, 138, 2, 1, 433), (11, 233, 2, 1, 434), (2, 27, 2, 2, 435), (2, 31, 2, 3, 436), (2, 35, 2, 4, 437), (2, 43, 2, 5, 438), (11, 333, 2, 5, 439), (2, 47, 2, 6, 440), (11, 336, 2, 6, 441), (2, 50, 2, 7, 442), (4, 149, 2, 7, 443), (2, 53, 2, 8, 444), (4, 151, 2, 8, 445), (2, 56, 2, 9, 446), (4, 154, 2, 9, 447), (2, 59, 2, 10, 448), (4, 157, 2, 10, 449), (1, 128, 2, 10, 450), (2, 62, 2, 11, 451), (4, 160, 2, 11, 452), (1, 125, 2, 11, 453), (2, 65, 2, 12, 454), (4, 163, 2, 12, 455), (1, 131, 2, 12, 456), (2, 68, 2, 13, 457), (4, 166, 2, 13, 458), (1, 137, 2, 13, 459), (2, 71, 2, 14, 460), (4, 169, 2, 14, 461), (1, 163, 2, 14, 462), (2, 74, 2, 15, 463), (4, 172, 2, 15, 464), (1, 160, 2, 15, 465), (3, 26, 2, 16, 466), (2, 77, 2, 16, 467), (4, 136, 2, 16, 468), (2, 80, 2, 17, 469), (7, 64, 2, 17, 470), (4, 175, 2, 17, 471), (11, 10, 11, 0, 509), (11, 21, 11, 1, 510), (11, 28, 11, 2, 511), (11, 37, 11, 3, 512), (11, 44, 11, 4, 513), (11, 51, 11, 5, 514), (11, 58, 11, 6, 515), (11, 65, 11, 7, 516), (11, 69, 11, 8, 517), (12, 7, 12, 0, 1353), (12, 162, 12, 1, 1354), (12, 176, 12, 2, 1355), (12, 173, 12, 3, 1356), (12, 183, 12, 4, 1357), (12, 196, 12, 5, 1358), (12, 186, 12, 6, 1359), (12, 189, 12, 7, 1360), (12, 210, 12, 8, 1361), (12, 13, 12, 9, 1362), (12, 384, 12, 10, 1363), (12, 17, 12, 11, 1364), (12, 20, 12, 12, 1365), (12, 192, 12, 13, 1366), (12, 227, 12, 14, 1367), (12, 230, 12, 15, 1368), (12, 233, 12, 16, 1369), (12, 236, 12, 17, 1370), (12, 239, 12, 18, 1371), (12, 242, 12, 19, 1372), (12, 245, 12, 20, 1373), (12, 248, 12, 21, 1374), (12, 251, 12, 22, 1375), (12, 254, 12, 23, 1376), (12, 257, 12, 24, 1377), (12, 260, 12, 25, 1378), (12, 263, 12, 26, 1379), (12, 23, 12, 27, 1380), (12, 26, 12, 28, 1381), (12, 29, 12, 29, 1382), (12, 32, 12, 30, 1383), (12, 35, 12, 31, 1384), (12, 38, 12, 32, 1385), (12, 41, 12, 33, 1386), (12, 44, 12, 34, 1387), (12, 47, 12, 35, 1388), (12, 50, 12, 36, 1389), (12, 53, 12, 37, 1390), (12, 387, 12, 38, 1391), (12, 390, 12, 39, 1392), (12, 393, 12, 40, 1393), (12, 396, 12, 41, 1394), (12, 399, 12, 42, 1395), (12, 402, 12, 43, 1396), (12, 405, 12, 44, 1397), (12, 408, 12, 45, 1398), (12, 411, 12, 46, 1399), (12, 414, 12, 47, 1400), (12, 56, 12, 48, 1401), (12, 59, 12, 49, 1402), (12, 62, 12, 50, 1403), (12, 65, 12, 51, 1404), (12, 68, 12, 52, 1405), (12, 71, 12, 53, 1406), (12, 74, 12, 54, 1407), (12, 77, 12, 55, 1408), (12, 420, 12, 56, 1409), (12, 80, 12, 57, 1410), (12, 83, 12, 58, 1411), (12, 86, 12, 59, 1412), (12, 89, 12, 60, 1413), (12, 92, 12, 61, 1414), (12, 95, 12, 62, 1415), (12, 417, 12, 63, 1416), (12, 98, 12, 64, 1417), (12, 101, 12, 65, 1418), (12, 104, 12, 66, 1419), (12, 107, 12, 67, 1420), (12, 110, 12, 68, 1421), (12, 447, 12, 69, 1422), (12, 453, 12, 70, 1423), (12, 113, 12, 71, 1424), (12, 116, 12, 72, 1425), (12, 119, 12, 73, 1426), (12, 122, 12, 74, 1427), (12, 125, 12, 75, 1428), (12, 128, 12, 76, 1429), (12, 131, 12, 77, 1430), (12, 135, 12, 78, 1431), (12, 138, 12, 79, 1432), (12, 141, 12, 80, 1433), (12, 144, 12, 81, 1434), (12, 147, 12, 82, 1435), (12, 150, 12, 83, 1436), (12, 599, 12, 84, 1437), (12, 614, 12, 85, 1438), (12, 618, 12, 86, 1439), (12, 153, 12, 87, 1440)]
def metT : List (Nat × Nat × Nat × Nat × Nat) := [(16, 9, 143, 0, 132), (11, 9, 121, 1, 140), (11, 18, 62, 0, 175), (4, 11, 78, 1, 181), (11, 27, 10, 1, 225), (11, 34, 102, 0, 266), (7, 11, 134, 0, 272), (10, 19, 78, 1, 278), (11, 43, 113, 0, 307), (11, 50, 57, 0, 334), (3, 11, 78, 1, 339), (11, 57, 0, 0, 352), (0, 27, 78, 1, 357), (11, 64, 39, 0, 377), (2, 11, 87, 1, 383), (2, 20, 134, 0, 412), (2, 38, 40, 0, 413), (2, 41, 88, 0, 417), (2, 42, 135, 0, 421), (16, 13, 144, 0, 537), (11, 72, 122, 0, 541), (11, 76, 123, 0, 545), (16, 18, 145, 0, 549), (16, 23, 146, 0, 553), (11, 84, 63, 0, 557), (4, 36, 40, 0, 561), (4, 39, 124, 0, 562), (9, 31, 128, 0, 566), (9, 41, 129, 0, 570), (9, 45, 130, 0, 574), (9, 57, 132, 0, 584), (4, 44, 127, 0, 588), (4, 48, 65, 0, 592), (4, 79, 66, 0, 596), (4, 98, 133, 0, 601), (9, 64, 291, 0, 605), (13, 335, 293, 0, 609), (9, 69, 292, 0, 615), (13, 492, 294, 0, 619), (13, 495, 296, 0, 623), (14, 9, 295, 0, 626), (13, 1059, 297, 0, 631), (4, 61, 126, 0, 663), (9, 37, 125, 0, 667), (4, 83, 67, 0, 671), (4, 72, 125, 0, 675), (4, 76, 128, 0, 676), (4, 87, 68, 0, 677), (4, 124, 70, 0, 681), (4, 177, 132, 0, 685), (4, 187, 91, 0, 686), (4, 145, 76, 0, 690), (4, 244, 131, 0, 694), (4, 192, 89, 0, 699), (4, 127, 71, 0, 703), (4, 64, 75, 0, 707), (4, 236, 79, 0, 711), (4, 237, 94, 0, 715), (4, 241, 80, 0, 719), (5, 23, 83, 0, 723), (4, 198, 83, 0, 729), (4, 202, 44, 0, 730), (4, 206, 43, 0, 734), (4, 130, 72, 0, 738), (4, 133, 82, 0, 742), (4, 210, 46, 0, 746), (4, 214, 45, 0, 750), (4, 68, 137, 0, 754), (10, 24, 138, 0, 758), (10, 28, 81, 0, 762), (4, 90, 69, 0, 766), (4, 142, 73, 0, 770), (4, 218, 74, 0, 774), (4, 221, 42, 0, 784), (4, 93, 77, 0, 788), (11, 92, 135, 0, 792), (11, 97, 1, 0, 793), (16, 28, 147, 0, 797), (11, 109, 64, 0, 801), (4, 55, 135, 0, 805), (11, 113, 103, 0, 806), (16, 32, 148, 0, 810), (16, 36, 149, 0, 814), (11, 123, 90, 0, 818), (11, 126, 92, 0, 822), (6, 37, 90, 0, 826), (11, 130, 93, 0, 827), (11, 133, 94, 0, 831), (16, 41, 150, 0, 832), (11, 138, 84, 0, 836), (11, 142, 48, 0, 839), (2, 91, 85, 0, 843), (2, 97, 44, 0, 846), (2, 101, 140, 0, 847), (2, 104, 49, 0, 851), (2, 107, 99, 0, 855), (6, 60, 93, 0, 860), (16, 46, 151, 0, 861), (11, 146, 175, 0, 865), (11, 215, 136, 0, 869), (11, 151, 11, 0, 873), (1, 56, 82, 0, 877), (1, 60, 94, 0, 878), (1, 66, 47, 0, 879), (2, 83, 94, 0, 883), (2, 87, 46, 0, 884), (1, 70, 12, 0, 885), (1, 73, 15, 0, 889), (1, 76, 13, 0, 893), (1, 79, 14, 0, 897), (11, 156, 16, 0, 901), (11, 160, 18, 0, 905), (1, 102, 36, 0, 912), (1, 157, 35, 0, 916), (1, 122, 27, 0, 920), (1, 143, 41, 0, 924), (1, 146, 28, 0, 928), (1, 88, 83, 0, 932), (1, 113, 24, 0, 933), (1, 116, 25, 0, 937), (1, 92, 48, 0, 941), (1, 150, 30, 0, 942), (1, 153, 50, 0, 946), (1, 140, 33, 0, 950), (1, 134, 32, 0, 954), (1, 119, 26, 0, 958), (1, 107, 19, 0, 963), (11, 163, 17, 0, 967), (11, 166, 38, 0, 972), (11, 169, 36, 0, 977), (16, 50, 152, 0, 978), (11, 172, 82, 0, 982), (16, 54, 153, 0, 983), (11, 175, 107, 0, 987), (7, 90, 105, 0, 991), (7, 31, 136, 0, 995), (7, 47, 82, 0, 996), (7, 51, 94, 0, 997), (7, 57, 11, 0, 998), (7, 67, 27, 0, 999), (7, 79, 83, 0, 1001), (7, 83, 48, 0, 1002), (7, 87, 17, 0, 1003), (7, 94, 22, 0, 1004), (11, 179, 13, 0, 1008), (11, 180, 154, 0, 1009), (11, 184, 24, 0, 1013), (11, 187, 25, 0, 1014), (11, 190, 26, 0, 1015), (11, 193, 27, 0, 1016), (11, 196, 32, 0, 1017), (11, 199, 33, 0, 1018), (11, 202, 35, 0, 1019), (16, 60, 155, 0, 1020), (11, 205, 21, 0, 1024), (11, 209, 37, 0, 1029), (11, 212, 20, 0, 1033), (16, 65, 156, 0, 1037), (16, 69, 157, 0, 1041), (11, 218, 112, 0, 1045), (7, 111, 38, 0, 1049), (7, 114, 31, 0, 1050), (16, 73, 158, 0, 1054), (11, 222, 58, 0, 1058), (3, 42, 60, 0, 1064), (3, 50, 79, 0, 1068), (3, 53, 80, 0, 1069), (3, 57, 82, 0, 1070), (3, 65, 94, 0, 1071), (3, 71, 11, 0, 1072), (3, 77, 17, 0, 1073), (3, 83, 37, 0, 1074), (3, 46, 59, 0, 1075), (11, 226, 61, 0, 1079), (16, 77, 159, 0, 1083), (11, 229, 96, 0, 1087), (6, 53, 82, 0, 1092), (6, 57, 97, 0, 1093), (6, 41, 94, 0, 1100), (16, 81, 160, 0, 1102), (16, 85, 161, 0, 1106), (11, 237, 141, 0, 1111), (10, 39, 83, 0, 1115), (10, 43, 142, 0, 1116), (10, 47, 85, 0, 1120), (16, 89, 162, 0, 1122), (11, 246, 98, 0, 1126), (16, 93, 163, 0, 1130), (11, 249, 105, 0, 1134), (16, 97, 164, 0, 1135), (11, 253, 108, 0, 1139), (7, 98, 107, 0, 1143), (7, 102, 34, 0, 1144), (11, 257, 109, 0, 1148), (7, 106, 106, 0, 1152), (11, 260, 110, 0, 1156), (7, 108, 23, 0, 1160), (16, 101, 165, 0, 1164), (11, 263, 104, 0, 1168), (11, 267, 111, 0, 1172), (16, 105, 166, 0, 1176), (16, 109, 167, 0, 1180), (11, 271, 54, 0, 1184), (2, 130, 95, 0, 1188), (2, 134, 100, 0, 1192), (6, 71, 101, 0, 1196), (2, 117, 53, 0, 1201), (2, 121, 136, 0, 1205), (2, 114, 52, 0, 1206), (11, 274, 55, 0, 1210), (11, 277, 56, 0, 1214), (16, 113, 168, 0, 1218), (11, 280, 114, 0, 1222), (8, 46, 136, 0, 1226), (8, 50, 11, 0, 1227), (8, 56, 17, 0, 1228), (8, 59, 115, 0, 1229), (8, 63, 28, 0, 1233), (8, 67, 116, 0, 1234), (8, 70, 29, 0, 1238), (8, 73, 30, 0, 1242), (11, 284, 117, 0, 1243), (11, 287, 118, 0, 1247), (8, 76, 117, 0, 1251), (8, 80, 85, 0, 1252), (8, 84, 86, 0, 1253), (5, 36, 85, 0, 1256), (16, 118, 169, 0, 1257), (11, 291, 119, 0, 1261), (8, 89, 120, 0, 1266), (16, 122, 170, 0, 1270), (11, 294, 137, 0, 1274), (11, 298, 2, 0, 1275), (0, 32, 3, 0, 1279), (0, 35, 81, 0, 1283), (16, 126, 171, 0, 1284), (11, 302, 139, 0, 1288), (16, 130, 172, 0, 1292), (11, 305, 41, 0, 1296), (11, 308, 42, 0, 1297), (16, 134, 173, 0, 1298), (11, 312, 4, 0, 1302), (11, 315, 6, 0, 1306), (0, 39, 5, 0, 1310), (11, 318, 7, 0, 1314), (11, 321, 9, 0, 1318), (11, 325, 138, 0, 1322), (11, 329, 8, 0, 1323), (16, 138, 174, 0, 1327), (11, 339, 51, 0, 1331), (16, 12, 176, 0, 1337), (12, 156, 193, 0, 1341), (12, 159, 210, 0, 1345), (12, 423, 282, 0, 1349), (16, 17, 181, 0, 1618), (12, 165, 182, 0, 1622), (16, 22, 183, 0, 1626), (12, 169, 177, 0, 1630), (16, 27, 209, 0, 1633), (12, 378, 208, 0, 1637), (12, 217, 187, 0, 1641), (12, 179, 184, 0, 1645), (12, 199, 185, 0, 1649), (12, 207, 186, 0, 1654), (12, 223, 189, 0, 1657), (12, 381, 207, 0, 1661), (12, 273, 190, 0, 1667), (12, 312, 195, 0, 1671), (12, 220, 188, 0, 1675), (12, 266, 192, 0, 1679), (12, 277, 178, 0, 1685), (12, 318, 196, 0, 1690), (12, 281, 194, 0, 1694), (12, 324, 197, 0, 1702), (12, 330, 205, 0, 1708), (12, 306, 198, 0, 1712), (12, 336, 200, 0, 1718), (12, 342, 199, 0, 1724), (12, 348, 201, 0, 1742), (12, 354, 202, 0, 1748), (12, 360, 203, 0, 1754), (12, 366, 206, 0, 1760), (12, 372, 204, 0, 1766), (12, 375, 191, 0, 1770), (16, 31, 211, 0, 1774), (16, 35, 212, 0, 1778), (16, 137, 214, 0, 1782), (16, 125, 215, 0, 1786), (12, 426, 213, 0, 1790), (16, 129, 216, 0, 1794), (16, 133, 217, 0, 1798), (16, 53, 223, 0, 1804), (12, 435, 219, 0, 1808), (12, 438, 221, 0, 1813), (12, 441, 222, 0, 1817), (16, 40, 224, 0, 1821), (16, 45, 237, 0, 1825), (12, 444, 225, 0, 1829), (12, 476, 235, 0, 1833), (12, 466, 232, 0, 1837), (12, 470, 234, 0, 1841), (12, 463, 233, 0, 1845), (12, 473, 231, 0, 1849), (16, 49, 253, 0, 1853), (12, 527, 227, 0, 1857), (12, 450, 228, 0, 1861), (12, 456, 226, 0, 1865), (12, 530, 249, 0, 1869), (12, 480, 230, 0, 1873), (12, 460, 229, 0, 1877), (12, 533, 250, 0, 1881), (12, 514, 247, 0, 1885), (12, 517, 246, 0, 1889), (12, 511, 245, 0, 1893), (12, 498, 240, 0, 1897), (12, 486, 239, 0, 1901), (12, 489, 241, 0, 1905), (12, 501, 236, 0, 1909), (12, 504, 244, 0, 1913), (12, 495, 218, 0, 1917), (12, 508, 243, 0, 1921), (12, 492, 242, 0, 1925), (12, 521, 248, 0, 1929), (12, 536, 238, 0, 1933), (12, 483, 179, 0, 1937), (12, 539, 252, 0, 1940), (12, 524, 180, 0, 1944), (16, 92, 254, 0, 1947), (16, 68, 255, 0, 1951), (12, 542, 251, 0, 1955), (16, 64, 256, 0, 1959), (16, 96, 258, 0, 1964), (12, 547, 220, 0, 1968), (12, 550, 257, 0, 1972), (16, 57, 260, 0, 1976), (12, 555, 259, 0, 1981), (16, 100, 261, 0, 1985), (16, 72, 262, 0, 1989), (16, 76, 266, 0, 1993), (12, 565, 265, 0, 1997), (12, 559, 264, 0, 2001), (12, 562, 263, 0, 2004), (16, 80, 269, 0, 2008), (12, 571, 268, 0, 2012), (12, 568, 267, 0, 2016), (16, 84, 270, 0, 2020), (16, 88, 273, 0, 2024), (12, 577, 272, 0, 2028), (12, 574, 271, 0, 2032), (16, 104, 276, 0, 2037), (12, 582, 274, 0, 2041), (12, 585, 275, 0, 2045), (16, 108, 277, 0, 2049), (16, 112, 281, 0, 2053), (12, 595, 280, 0, 2057), (12, 588, 278, 0, 2061), (12, 592, 279, 0, 2065), (16, 117, 286, 0, 2069), (12, 611, 285, 0, 2073), (12, 607, 283, 0, 2077), (12, 603, 284, 0, 2081), (16, 121, 289, 0, 2085), (12, 621, 287, 0, 2089), (12, 624, 288, 0, 2093), (16, 141, 290, 0, 2098)]
def objT : List (Nat × Nat × Nat) := [(11, 1, 135), (9, 3, 143), (4, 3, 178), (5, 3, 184), (1, 3, 228), (7, 3, 269), (10, 1, 275), (8, 5, 310), (3, 3, 337), (0, 3, 355), (2, 3, 380), (6, 3, 386), (12, 1, 1340)]
def matT : List (Nat × Nat × Nat × Nat) := [(9, 61, 84, 578), (9, 49, 85, 581), (5, 27, 84, 727), (5, 33, 85, 728), (1, 96, 87, 909), (1, 82, 84, 971), (1, 166, 85, 976), (7, 70, 84, 1000), (3, 35, 84, 1062), (6, 47, 84, 1091), (6, 63, 86, 1097), (6, 66, 85, 1101), (11, 241, 84, 1121), (6, 74, 87, 1200)]
def ciT : List (Nat × Nat × Int × Nat) := [(1, 106, 100000, 962), (3, 41, 100000, 1063), (11, 236, 1000000, 1110), (8, 88, 1103515245, 1265), (12, 581, 1000000, 2036), (12, 617, 1103515245, 2097)]
def clT : List (Nat × Nat × Int × Nat) := [(6, 69, 256, 859), (1, 111, 15, 1028), (12, 203, 27, 1652), (12, 205, 96, 1653), (12, 284, 2, 1698), (12, 286, 4, 1699), (12, 429, 5, 1802), (12, 431, 999, 1803), (12, 433, 100, 1812), (12, 545, 16, 1963), (12, 553, 6, 1980), (12, 628, 10, 2102), (12, 630, 15, 2103), (16, 58, 4294967295, 2104)]
def srT : List (Nat × Nat × Nat) := [(4, 96, 0), (4, 102, 1), (4, 104, 2), (4, 106, 3), (4, 108, 4), (4, 110, 5), (4, 112, 6), (4, 114, 7), (4, 116, 8), (4, 118, 9), (4, 120, 10), (4, 190, 11), (4, 224, 12), (4, 226, 13), (4, 228, 14), (4, 230, 15), (4, 232, 16), (4, 234, 17)]
def newT : List (Nat × Nat × Nat × Nat) := [(16, 7, 11, 130), (11, 7, 9, 138), (11, 16, 4, 173), (4, 9, 5, 179), (11, 25, 1, 223), (11, 32, 7, 264), (7, 9, 10, 270), (10, 7, 5, 276), (11, 41, 8, 305), (11, 48, 3, 332), (3, 9, 5, 338), (11, 55, 0, 350), (0, 21, 5, 356), (11, 62, 2, 375), (2, 9, 6, 381), (2, 18, 10, 411), (16, 10, 12, 1335)]
def mnaT : List (Nat × Nat × Nat × Nat) := [(8, 13, 25, 311), (8, 18, 26, 313)]
def gsT : List (Nat × Nat × Nat × Nat) := [(13, 38, 18, 613), (12, 309, 13, 1665), (12, 270, 9, 1683), (12, 315, 8, 1688), (12, 321, 5, 1700), (12, 327, 10, 1706), (12, 333, 3, 1716), (12, 339, 4, 1722), (12, 288, 0, 1728), (12, 291, 12, 1730), (12, 294, 11, 1732), (12, 297, 16, 1734), (12, 300, 1, 1736), (12, 303, 2, 1738), (12, 345, 15, 1740), (12, 351, 14, 1746), (12, 357, 6, 1752), (12, 363, 7, 1758), (12, 369, 17, 1764)]
def stT : List (String × String × String × Int) := [("SyllableMakerModel", "W_BARE", "J", 40586), ("SyllableMakerModel", "W_BURST", "J", 1489880), ("SyllableMakerModel", "W_CLASH", "J", 1831769), ("SyllableMakerModel", "W_CLOSE", "J", 1841972), ("SyllableMakerModel", "W_COST", "J", 70517), ("SyllableMakerModel", "W_GLIDE", "J", 3962957), ("SyllableMakerModel", "W_HELP", "J", 161449), ("SyllableMakerModel", "W_MOVE", "J", 267413), ("SyllableMakerModel", "W_OPEN", "J", 307058), ("SyllableMakerModel", "W_PEAK", "J", 318611), ("SyllableMakerModel", "W_RISE", "J", 361373), ("SyllableMakerModel", "W_ROUGH", "J", 9876689), ("SyllableMakerModel", "W_SHUT", "J", 380396), ("SyllableMakerModel", "W_SOUND", "J", 10408315), ("SyllableMakerModel", "W_STRESS", "J", 283616524), ("SyllableMakerModel", "W_WEIGH", "J", 12328316), ("SyllableMakerModel", "W_WILD", "J", 459598), ("SyllableMakerModel", "W_WORD", "J", 464134), ("java/lang/String", "COMPACT_STRINGS", "Z", 1), ("java/lang/StringUTF16", "$assertionsDisabled", "Z", 1), ("java/lang/StringUTF16", "HI_BYTE_SHIFT", "I", 0), ("java/lang/StringUTF16", "LO_BYTE_SHIFT", "I", 8)]
def fmT : Nat × Nat × Nat := (13, 1053, 629)
def frT : List (Nat × Nat) := [(2, 60), (0, 0), (1, 22), (0, 0), (0, 0), (0, 0), (1, 20), (1, 20), (1, 20), (1, 20), (1, 40), (3, 64), (2, 43), (0, 0), (0, 0), (1, 21), (2, 43), (4, 93), (6, 138), (2, 43), (6, 138), (2, 43), (0, 0), (0, 0), (1, 21), (2, 42), (1, 21), (1, 21), (3, 66), (2, 66), (2, 66), (2, 66), (2, 42), (3, 64), (4, 85), (4, 93), (5, 116), (4, 93), (4, 85), (3, 82), (1, 20), (0, 0), (0, 0), (0, 0), (0, 0), (0, 0), (0, 0), (1, 23), (3, 70), (2, 48), (2, 48), (3, 68), (2, 43), (1, 21), (3, 70), (2, 43), (3, 69), (2, 60), (6, 142), (0, 0), (5, 116), (0, 0), (2, 60), (9, 190), (4, 114), (8, 169), (5, 107), (0, 0), (6, 136), (7, 148), (5, 111), (4, 114), (4, 114), (6, 127), (5, 107), (3, 88), (3, 88), (3, 88), (1, 40), (0, 0), (2, 66), (0, 0), (0, 0), (1, 40), (0, 0), (0, 0), (1, 24), (1, 40), (0, 0), (0, 0), (0, 0), (0, 0), (1, 21), (0, 0), (0, 0), (1, 21), (2, 63), (1, 40), (1, 21), (1, 21), (2, 45), (1, 21), (3, 82), (0, 0), (1, 21), (4, 93), (5, 116), (5, 118), (6, 143), (6, 139), (6, 143), (6, 139), (5, 116), (1, 40), (5, 116), (4, 87), (0, 0), (0, 0), (2, 47), (2, 47), (0, 0), (1, 40), (0, 0), (0, 0), (3, 88), (0, 0), (1, 21), (0, 0), (2, 65), (0, 0), (1, 40), (1, 22), (0, 0), (4, 85), (2, 60), (0, 0), (0, 0), (2, 46), (1, 22), (0, 0), (0, 0), (3, 90), (2, 66), (4, 103), (1, 22), (0, 0), (10, 212), (5, 137), (0, 0), (2, 42), (4, 93), (7, 161), (2, 42), (7, 161), (5, 116), (7, 161), (7, 161), (6, 138), (7, 168), (3, 90), (3, 90), (4, 113), (2, 47), (5, 118), (7, 168), (7, 169), (7, 169), (4, 95), (6, 139), (6, 139), (3, 67), (2, 46), (2, 46), (2, 46), (4, 90), (1, 21), (2, 41), (0, 0), (0, 0), (0, 0), (0, 0), (1, 22), (0, 0), (1, 25), (0, 0), (0, 0), (0, 0), (1, 21), (0, 0), (0, 0), (0, 0), (2, 43), (2, 43), (0, 0), (1, 21), (3, 66), (2, 44), (2, 44), (2, 43), (3, 66), (3, 66), (3, 66), (3, 66), (3, 64), (2, 44), (3, 66), (3, 66), (4, 89), (2, 43), (5, 109), (1, 20), (3, 63), (0, 0), (1, 20), (1, 20), (2, 41), (2, 41), (2, 41), (0, 0), (1, 25), (1, 25), (0, 0), (0, 0), (2, 46), (1, 25), (0, 0), (1, 21), (3, 65), (2, 44), (0, 0), (1, 21), (0, 0), (0, 0), (1, 21), (2, 43), (3, 69), (0, 0), (4, 92), (4, 92), (1, 21), (2, 42), (1, 21), (2, 42), (3, 63), (1, 21), (4, 92), (5, 113), (0, 0), (2, 42), (2, 42), (6, 135), (6, 135), (4, 84), (7, 159), (4, 87), (7, 158), (7, 158), (4, 92), (5, 114), (4, 92), (7, 159), (5, 123), (5, 114), (5, 114), (0, 0), (6, 138), (7, 162), (1, 21), (2, 44), (3, 70), (3, 70), (1, 22), (2, 45), (3, 69), (4, 87), (5, 114), (6, 142), (6, 142), (1, 21), (2, 43), (3, 68), (4, 92), (0, 0), (2, 47), (1, 22), (5, 114), (6, 136), (0, 0), (1, 22), (6, 136), (3, 68), (1, 20), (3, 64), (0, 0), (0, 0), (1, 22), (2, 43), (0, 0), (14, 512)]
def mb (pos : Nat) (w : Cond) : Bool := decide (lw_tbl[pos]? = some w) && goodWord w
def cmpN : Jvm.ClassFile.Cond → Int
  | .eq => 0
  | .ne => 1
  | .lt => 2
  | .ge => 3
  | .gt => 4
  | .le => 5
def fdE (y x : Nat) (a b : Int) : Bool := fldT.any fun e => e.1 == oxY y && e.2.1 == x && (e.2.2.1 : Int) == a && (e.2.2.2.1 : Int) == b
def mtE (y x : Nat) (a : Int) : Bool := metT.any fun e => e.1 == oxY y && e.2.1 == x && (e.2.2.1 : Int) == a && e.2.2.2.1 == 0
def mtN (y x : Nat) (a : Int) : Bool := metT.any fun e => e.1 == oxY y && e.2.1 == x && (e.2.2.1 : Int) == a && e.2.2.2.1 == 1
def roomE (y z : Nat) : Bool := Nat.ble ((frT.getD z (0, 0)).1 + 1) (frT.getD y (0, 0)).1 && Nat.ble (8 + (mxL z + 11) + (frT.getD z (0, 0)).2) (frT.getD y (0, 0)).2
def roomO (y : Nat) : Bool := Nat.ble 1 (frT.getD y (0, 0)).1 && Nat.ble 40 (frT.getD y (0, 0)).2
def isIni (y : Nat) : Bool := (nmY y).name == "<init>"
def chkI (y pc op : Nat) (a b : Int) (len : Nat) : Instr → Bool
  | .iconst n => op == 1 && a == n && len == 1
  | .bipush n => op == 1 && a == n && len == 2 && decide ((Int8.ofInt n).toInt32 = Int32.ofInt n)
  | .sipush n => op == 1 && a == n && len == 3 && decide ((Int16.ofInt n).toInt32 = Int32.ofInt n)
  | .ldc x => len == 2 && ((op == 1 && ciT.any (fun e => e.1 == oxY y && e.2.1 == x && e.2.2.1 == a)) || (op == 4 && srT.any (fun e => e.1 == oxY y && e.2.1 == x && -(1 + (e.2.2 : Int)) == a)))
  | .ldc_w x => len == 3 && op == 1 && ciT.any (fun e => e.1 == oxY y && e.2.1 == x && e.2.2.1 == a)
  | .lconst n => op == 2 && a == (n.val : Int) && len == 1
  | .ldc2_w x => len == 3 && op == 2 && clT.any (fun e => e.1 == oxY y && e.2.1 == x && e.2.2.1 == a)
  | .aconst_null => op == 3 && len == 1
  | .iload n => op == 5 && a == (n : Int) && len == 2
  | .iload_n n => op == 5 && a == (n.val : Int) && len == 1
  | .lload n => op == 6 && a == (n : Int) && len == 2
  | .lload_n n => op == 6 && a == (n.val : Int) && len == 1
  | .aload n => op == 7 && a == (n : Int) && len == 2
  | .aload_n n => op == 7 && a == (n.val : Int) && len == 1
  | .istore n => op == 8 && a == (n : Int) && len == 2
  | .istore_n n => op == 8 && a == (n.val : Int) && len == 1
  | .lstore n => op == 9 && a == (n : Int) && len == 2
  | .lstore_n n => op == 9 && a == (n.val : Int) && len == 1
  | .astore n => op == 10 && a == (n : Int) && len == 2
  | .astore_n n => op == 10 && a == (n.val : Int) && len == 1
  | .iinc n c => op == 11 && a == (n : Int) && b == c && len == 3
  | .pop => op == 12 && len == 1
  | .dup => op == 13 && len == 1
  | .dup2 => op == 14 && len == 1
  | .iadd => op == 15 && len == 1
  | .isub => op == 16 && len == 1
  | .imul => op == 17 && len == 1
  | .ineg => op == 18 && len == 1
  | .irem => op == 19 && len == 1
  | .iand => op == 20 && len == 1
  | .ior => op == 21 && len == 1
  | .ishl => op == 22 && len == 1
  | .ishr => op == 23 && len == 1
  | .iushr => op == 24 && len == 1
  | .ladd => op == 25 && len == 1
  | .lsub => op == 26 && len == 1
  | .lmul => op == 27 && len == 1
  | .ldiv => op == 28 && len == 1
  | .lrem => op == 29 && len == 1
  | .land => op == 30 && len == 1
  | .lor => op == 31 && len == 1
  | .lshl => op == 32 && len == 1
  | .lushr => op == 33 && len == 1
  | .lcmp => op == 34 && len == 1
  | .i2l => op == 35 && len == 1
  | .l2i => op == 36 && len == 1
  | .i2b => op == 37 && len == 1
  | .i2c => op == 38 && len == 1
  | .ifCond c off => op == 40 && a == cmpN c && b == (pc : Int) + off && decide (0 ≤ b) && len == 3
  | .if_icmp c off => op == 41 && a == cmpN c && b == (pc : Int) + off && decide (0 ≤ b) && len == 3
  | .ifnull off => op == 42 && b == (pc : Int) + off && decide (0 ≤ b) && len == 3
  | .ifnonnull off => op == 43 && b == (pc : Int) + off && decide (0 ≤ b) && len == 3
  | .goto off => op == 44 && b == (pc : Int) + off && decide (0 ≤ b) && len == 3
  | .tableswitch d lo hi offs => op == 45 && b == (pc : Int) + d && decide (0 ≤ b) && decide (sws y pc = offs.toList.zipIdx.map (fun q => (lo + (q.2 : Int), ((pc : Int) + q.1).toNat))) && offs.toList.all (fun o => decide (0 ≤ (pc : Int) + o)) && decide (hi - lo + 1 = (offs.size : Int))
  | .lookupswitch d ps => op == 45 && b == (pc : Int) + d && decide (0 ≤ b) && decide (sws y pc = ps.toList.map (fun q => (q.1, ((pc : Int) + q.2).toNat))) && ps.toList.all (fun o => decide (0 ≤ (pc : Int) + o.2)) && (ps.toList.zip (ps.toList.drop 1)).all (fun q => decide (q.1.1 < q.2.1))
  | .getfield x => len == 3 && (((op == 50 && Nat.ble (ftC a.toNat b.toNat) 1 || op == 51 && ftC a.toNat b.toNat == 2 || op == 52 && ftC a.toNat b.toNat == 3) && fdE y x a b) || (op == 57 && oxY y == 13 && ((a == 0 && x == 9) || (a == 1 && x == 15))))
  | .putfield x => len == 3 && ((op == 53 && ftC a.toNat b.toNat == 0 || op == 56 && ftC a.toNat b.toNat == 1 || op == 54 && ftC a.toNat b.toNat == 2 || op == 55 && ftC a.toNat b.toNat == 3) && fdE y x a b) && (!(clTb a.toNat b.toNat).2.2.2 || (isIni y && (oxY y : Int) == a))
  | .getstatic x => len == 3 && ((op == 49 && oxY y == fmT.1 && x == fmT.2.1) || (op == 58 && gsT.any (fun e => e.1 == oxY y && e.2.1 == x && decide ((stT.getD e.2.2.1 ("", "", "", 0)).2.2.1 = "J") && (stT.getD e.2.2.1 ("", "", "", 0)).2.2.2 == a)) || (op == 59 && gsT.any (fun e => e.1 == oxY y && e.2.1 == x && !decide ((stT.getD e.2.2.1 ("", "", "", 0)).2.2.1 = "J") && (stT.getD e.2.2.1 ("", "", "", 0)).2.2.2 == a)))
  | .arraylength => op == 60 && len == 1
  | .iaload => op == 61 && len == 1
  | .iastore => op == 62 && len == 1
  | .baload => op == 63 && len == 1
  | .bastore => op == 64 && len == 1
  | .laload => op == 67 && len == 1
  | .lastore => op == 68 && len == 1
  | .aaload => op == 69 && len == 1
  | .aastore => op == 70 && len == 1
  | .new x => op == 71 && len == 3 && newT.any (fun e => e.1 == oxY y && e.2.1 == x && (e.2.2.1 : Int) == a)
  | .newarray t => op == 72 && len == 2 && (match t with
    | .int => a == 20
    | .byte => a == 21
    | .boolean => a == 22
    | .long => a == 23
    | _ => false)
  | .anewarray x => op == 73 && len == 3 && a == 24 && newT.any (fun e => e.1 == oxY y && e.2.1 == x && e.2.2.1 == 5)
  | .multianewarray x n => op == 74 && len == 4 && n == 2 && mnaT.any (fun e => e.1 == oxY y && e.2.1 == x && (e.2.2.1 : Int) == a)
  | .invokevirtual x => op == 80 && len == 3 && mtE y x a && Nat.blt a.toNat 299 && roomE y a.toNat && decide ((parseMethodDescriptor (nmY a.toNat).desc).map (fun d => d.parameters.length) = some b.toNat)
  | .invokespecial x => len == 3 && ((op == 81 && (mtE y x a || mtN y x a) && Nat.blt a.toNat 299 && roomE y a.toNat && decide ((parseMethodDescriptor (nmY a.toNat).desc).map (fun d => d.parameters.length) = some b.toNat)) || (op == 83 && objT.any (fun e => e.1 == oxY y && e.2.1 == x) && roomO y))
  | .invokestatic x => len == 3 && ((op == 82 && mtE y x a && Nat.blt a.toNat 299 && roomE y a.toNat && decide ((parseMethodDescriptor (nmY a.toNat).desc).map (fun d => d.parameters.length) = some b.toNat)) || (matT.any (fun e => e.1 == oxY y && e.2.1 == x && e.2.2.1 == op) && roomO y))
  | .ireturn => op == 91 && len == 1 && (rtK y : Int) == a && (a == 1 || a == 2 || a == 5 || a == 6)
  | .lreturn => op == 92 && len == 1 && rtK y == 3
  | .areturn => op == 93 && len == 1 && rtK y == 4
  | .return_ => op == 90 && len == 1 && rtK y == 0
  | _ => false
def chk (y pc : Nat) (i : Ins) : Bool := if i.1 == 99 then true else match decode (bcY y) pc with
  | .ok q => pc + q.2 == i.2.2.2 && chkI y pc i.1 i.2.1 i.2.2.1 q.2 q.1
  | .error _ => false
def chkR (a n : Nat) : Bool := (List.range n).all fun k => (tbl (a + k)).all fun e => chk (a + k) e.1 e.2
/-- the words -/
def nestH : String := "SyllableMaker"
theorem fld_ok : (fldT.all fun e => mb e.2.2.2.2 (.fieldLink (onN e.1) e.2.1 (clTb e.2.2.1 e.2.2.2.1).1 (clTb e.2.2.1 e.2.2.2.1).2.1 (clTb e.2.2.1 e.2.2.2.1).2.2.1) && Nat.blt e.2.2.1 13 && Nat.blt e.2.2.2.1 (nF e.2.2.1)) = true := by decide +kernel
theorem met_ok : (metT.all fun e => if e.2.2.2.1 == 0 then mb e.2.2.2.2 (.methodLink (onN e.1) e.2.1 (nmY e.2.2.1)) else decide (lw_tbl[e.2.2.2.2]? = some (.methodLinkNest (onN e.1) e.2.1 (nmY e.2.2.1) nestH))) = true := by decide +kernel
theorem obj_ok : (objT.all fun e => mb e.2.2 (.methodLink (onN e.1) e.2.1 Lib.objectInit)) = true := by decide +kernel
def matN (op : Nat) : MethodName := if op == 84 then Lib.Math.min.name else if op == 85 then Lib.Math.max.name else if op == 86 then Lib.Math.abs.name else arraycopyName
theorem mat_ok : (matT.all fun e => mb e.2.2.2 (.methodLink (onN e.1) e.2.1 (matN e.2.2.1)) && Nat.ble 84 e.2.2.1 && Nat.ble e.2.2.1 87) = true := by decide +kernel
theorem ci_ok : (ciT.all fun e => mb e.2.2.2 (.constant (onN e.1) e.2.1 (Int32.ofInt e.2.2.1))) = true := by decide +kernel
theorem cl_ok : (clT.all fun e => mb e.2.2.2 (.constantLong (onN e.1) e.2.1 (Int64.ofInt e.2.2.1))) = true := by decide +kernel
theorem new_ok : (newT.all fun e => mb e.2.2.2 (.classLink (onN e.1) e.2.1 (onN e.2.2.1)) && Nat.blt e.2.2.1 13) = true := by decide +kernel
theorem mna_ok : (mnaT.all fun e => mb e.2.2.2 (.classLink (onN e.1) e.2.1 (if e.2.2.1 == 25 then "[[J" else "[[I"))) = true := by decide +kernel
theorem gs_ok : (gsT.all fun e => mb e.2.2.2 (.fieldLink (onN e.1) e.2.1 (stT.getD e.2.2.1 ("", "", "", 0)).1 (stT.getD e.2.2.1 ("", "", "", 0)).2.1 (stT.getD e.2.2.1 ("", "", "", 0)).2.2.1)) = true := by decide +kernel

set_option maxRecDepth 100000 in
theorem chk_0 : chkR 0 10 = true := by decide +kernel
set_option maxRecDepth 100000 in
theorem chk_10 : chkR 10 10 = true := by decide +kernel
set_option maxRecDepth 100000 in
theorem chk_20 : chkR 20 10 = true := by decide +kernel
set_option maxRecDepth 100000 in
theorem chk_30 : chkR 30 10 = true := by decide +kernel
set_option maxRecDepth 100000 in
theorem chk_40 : chkR 40 10 = true := by decide +kernel
set_option maxRecDepth 100000 in
theorem chk_50 : chkR 50 10 = true := by decide +kernel
set_option maxRecDepth 100000 in
theorem chk_60 : chkR 60 10 = true := by decide +kernel
set_option maxRecDepth 100000 in
theorem chk_70 : chkR 70 10 = true := by decide +kernel
set_option maxRecDepth 100000 in
theorem chk_80 : chkR 80 10 = true := by decide +kernel
set_option maxRecDepth 100000 in
theorem chk_90 : chkR 90 10 = true := by decide +kernel
set_option maxRecDepth 100000 in
theorem chk_100 : chkR 100 10 = true := by decide +kernel
set_option maxRecDepth 100000 in
theorem chk_110 : chkR 110 10 = true := by decide +kernel
set_option maxRecDepth 100000 in
theorem chk_120 : chkR 120 10 = true := by decide +kernel
set_option maxRecDepth 100000 in
theorem chk_130 : chkR 130 10 = true := by decide +kernel
set_option maxRecDepth 100000 in
theorem chk_140 : chkR 140 10 = true := by decide +kernel
set_option maxRecDepth 100000 in
theorem chk_150 : chkR 150 10 = true := by decide +kernel
set_option maxRecDepth 100000 in
theorem chk_160 : chkR 160 10 = true := by decide +kernel
set_option maxRecDepth 100000 in
theorem chk_170 : chkR 170 10 = true := by decide +kernel
set_option maxRecDepth 100000 in
theorem chk_180 : chkR 180 10 = true := by decide +kernel
set_option maxRecDepth 100000 in
theorem chk_190 : chkR 190 10 = true := by decide +kernel
set_option maxRecDepth 100000 in
theorem chk_200 : chkR 200 10 = true := by decide +kernel
set_option maxRecDepth 100000 in
theorem chk_210 : chkR 210 10 = true := by decide +kernel
set_option maxRecDepth 100000 in
theorem chk_220 : chkR 220 10 = true := by decide +kernel
set_option maxRecDepth 100000 in
theorem chk_230 : chkR 230 10 = true := by decide +kernel
set_option maxRecDepth 100000 in
theorem chk_240 : chkR 240 10 = true := by decide +kernel
set_option maxRecDepth 100000 in
theorem chk_250 : chkR 250 10 = true := by decide +kernel
set_option maxRecDepth 100000 in
theorem chk_260 : chkR 260 10 = true := by decide +kernel
set_option maxRecDepth 100000 in
theorem chk_270 : chkR 270 10 = true := by decide +kernel
set_option maxRecDepth 100000 in
theorem chk_280 : chkR 280 10 = true := by decide +kernel
set_option maxRecDepth 100000 in
theorem chk_290 : chkR 290 8 = true := by decide +kernel
set_option maxRecDepth 100000 in
theorem chkL_0 : (((tbl 298).drop 0).take 40).all (fun e => chk 298 e.1 e.2) = true := by decide +kernel
set_option maxRecDepth 100000 in
theorem chkL_40 : (((tbl 298).drop 40).take 40).all (fun e => chk 298 e.1 e.2) = true := by decide +kernel
set_option maxRecDepth 100000 in
theorem chkL_80 : (((tbl 298).drop 80).take 40).all (fun e => chk 298 e.1 e.2) = true := by decide +kernel
set_option maxRecDepth 100000 in
theorem chkL_120 : (((tbl 298).drop 120).take 40).all (fun e => chk 298 e.1 e.2) = true := by decide +kernel
set_option maxRecDepth 100000 in
theorem chkL_160 : (((tbl 298).drop 160).take 40).all (fun e => chk 298 e.1 e.2) = true := by decide +kernel
set_option maxRecDepth 100000 in
theorem chkL_200 : (((tbl 298).drop 200).take 40).all (fun e => chk 298 e.1 e.2) = true := by decide +kernel
set_option maxRecDepth 100000 in
theorem chkL_240 : (((tbl 298).drop 240).take 40).all (fun e => chk 298 e.1 e.2) = true := by decide +kernel
set_option maxRecDepth 100000 in
theorem chkL_280 : (((tbl 298).drop 280).take 40).all (fun e => chk 298 e.1 e.2) = true := by decide +kernel
set_option maxRecDepth 100000 in
theorem chkL_320 : (((tbl 298).drop 320).take 40).all (fun e => chk 298 e.1 e.2) = true := by decide +kernel
set_option maxRecDepth 100000 in
theorem chkL_360 : (((tbl 298).drop 360).take 40).all (fun e => chk 298 e.1 e.2) = true := by decide +kernel
set_option maxRecDepth 100000 in
theorem chkL_400 : (((tbl 298).drop 400).take 40).all (fun e => chk 298 e.1 e.2) = true := by decide +kernel
set_option maxRecDepth 100000 in
theorem chkL_440 : (((tbl 298).drop 440).take 40).all (fun e => chk 298 e.1 e.2) = true := by decide +kernel
set_option maxRecDepth 100000 in
theorem chkL_480 : (((tbl 298).drop 480).take 40).all (fun e => chk 298 e.1 e.2) = true := by decide +kernel
set_option maxRecDepth 100000 in
theorem chkL_520 : (((tbl 298).drop 520).take 40).all (fun e => chk 298 e.1 e.2) = true := by decide +kernel
set_option maxRecDepth 100000 in
theorem chkL_560 : (((tbl 298).drop 560).take 40).all (fun e => chk 298 e.1 e.2) = true := by decide +kernel
set_option maxRecDepth 100000 in
theorem chkL_600 : (((tbl 298).drop 600).take 40).all (fun e => chk 298 e.1 e.2) = true := by decide +kernel
set_option maxRecDepth 100000 in
theorem chkL_640 : (((tbl 298).drop 640).take 40).all (fun e => chk 298 e.1 e.2) = true := by decide +kernel
set_option maxRecDepth 100000 in
theorem chkL_680 : (((tbl 298).drop 680).take 40).all (fun e => chk 298 e.1 e.2) = true := by decide +kernel
set_option maxRecDepth 100000 in
theorem chkL_720 : (((tbl 298).drop 720).take 40).all (fun e => chk 298 e.1 e.2) = true := by decide +kernel
set_option maxRecDepth 100000 in
theorem chkL_760 : (((tbl 298).drop 760).take 40).all (fun e => chk 298 e.1 e.2) = true := by decide +kernel
theorem chk_use {a n y : Nat} (h : chkR a n = true) (h1 : a ≤ y) (h2 : y < a + n) : ∀ e ∈ tbl y, chk y e.1 e.2 = true := by
  have h3 := List.all_eq_true.mp h (y - a) (List.mem_range.mpr (by omega))
  rw [show a + (y - a) = y by omega] at h3
  exact List.all_eq_true.mp h3
theorem chk_slice {l : List (Nat × Ins)} {y : Nat} {e : Nat × Ins} {j : Nat} (q : Nat) (h : (((l.drop q).take 40).all (fun e => chk y e.1 e.2)) = true) (hj : l[j]? = some e) (h1 : q ≤ j) (h2 : j < q + 40) : chk y e.1 e.2 = true := by
  refine List.all_eq_true.mp h e (List.mem_of_getElem? (i := j - q) ?_)
  rw [List.getElem?_take, if_pos (by omega), List.getElem?_drop, show q + (j - q) = j by omega]
  exact hj
theorem lenL : (tbl 298).length = 780 := by decide +kernel
theorem chk_law : ∀ e ∈ tbl 298, chk 298 e.1 e.2 = true := by
  intro e he
  obtain ⟨j, hj⟩ := List.getElem?_of_mem he
  have hl : j < 780 := by rw [← lenL]; exact (List.getElem?_eq_some_iff.mp hj).1
  rcases Nat.lt_or_ge j 40 with h | h
  · exact chk_slice 0 chkL_0 hj (by omega) (by omega)
  rcases Nat.lt_or_ge j 80 with h | h
  · exact chk_slice 40 chkL_40 hj (by omega) (by omega)
  rcases Nat.lt_or_ge j 120 with h | h
  · exact chk_slice 80 chkL_80 hj (by omega) (by omega)
  rcases Nat.lt_or_ge j 160 with h | h
  · exact chk_slice 120 chkL_120 hj (by omega) (by omega)
  rcases Nat.lt_or_ge j 200 with h | h
  · exact chk_slice 160 chkL_160 hj (by omega) (by omega)
  rcases Nat.lt_or_ge j 240 with h | h
  · exact chk_slice 200 chkL_200 hj (by omega) (by omega)
  rcases Nat.lt_or_ge j 280 with h | h
  · exact chk_slice 240 chkL_240 hj (by omega) (by omega)
  rcases Nat.lt_or_ge j 320 with h | h
  · exact chk_slice 280 chkL_280 hj (by omega) (by omega)
  rcases Nat.lt_or_ge j 360 with h | h
  · exact chk_slice 320 chkL_320 hj (by omega) (by omega)
  rcases Nat.lt_or_ge j 400 with h | h
  · exact chk_slice 360 chkL_360 hj (by omega) (by omega)
  rcases Nat.lt_or_ge j 440 with h | h
  · exact chk_slice 400 chkL_400 hj (by omega) (by omega)
  rcases Nat.lt_or_ge j 480 with h | h
  · exact chk_slice 440 chkL_440 hj (by omega) (by omega)
  rcases Nat.lt_or_ge j 520 with h | h
  · exact chk_slice 480 chkL_480 hj (by omega) (by omega)
  rcases Nat.lt_or_ge j 560 with h | h
  · exact chk_slice 520 chkL_520 hj (by omega) (by omega)
  rcases Nat.lt_or_ge j 600 with h | h
  · exact chk_slice 560 chkL_560 hj (by omega) (by omega)
  rcases Nat.lt_or_ge j 640 with h | h
  · exact chk_slice 600 chkL_600 hj (by omega) (by omega)
  rcases Nat.lt_or_ge j 680 with h | h
  · exact chk_slice 640 chkL_640 hj (by omega) (by omega)
  rcases Nat.lt_or_ge j 720 with h | h
  · exact chk_slice 680 chkL_680 hj (by omega) (by omega)
  rcases Nat.lt_or_ge j 760 with h | h
  · exact chk_slice 720 chkL_720 hj (by omega) (by omega)
  rcases Nat.lt_or_ge j 800 with h | h
  · exact chk_slice 760 chkL_760 hj (by omega) (by omega)
  omega
theorem chk_lt : ∀ y, y < 299 → ∀ e ∈ tbl y, chk y e.1 e.2 = true := by
  intro y hy
  rcases Nat.lt_or_ge y 10 with h | h
  · exact chk_use chk_0 (by omega) (by omega)
  rcases Nat.lt_or_ge y 20 with h | h
  · exact chk_use chk_10 (by omega) (by omega)
  rcases Nat.lt_or_ge y 30 with h | h
  · exact chk_use chk_20 (by omega) (by omega)
  rcases Nat.lt_or_ge y 40 with h | h
  · exact chk_use chk_30 (by omega) (by omega)
  rcases Nat.lt_or_ge y 50 with h | h
  · exact chk_use chk_40 (by omega) (by omega)
  rcases Nat.lt_or_ge y 60 with h | h
  · exact chk_use chk_50 (by omega) (by omega)
  rcases Nat.lt_or_ge y 70 with h | h
  · exact chk_use chk_60 (by omega) (by omega)
  rcases Nat.lt_or_ge y 80 with h | h
  · exact chk_use chk_70 (by omega) (by omega)
  rcases Nat.lt_or_ge y 90 with h | h
  · exact chk_use chk_80 (by omega) (by omega)
  rcases Nat.lt_or_ge y 100 with h | h
  · exact chk_use chk_90 (by omega) (by omega)
  rcases Nat.lt_or_ge y 110 with h | h
  · exact chk_use chk_100 (by omega) (by omega)
  rcases Nat.lt_or_ge y 120 with h | h
  · exact chk_use chk_110 (by omega) (by omega)
  rcases Nat.lt_or_ge y 130 with h | h
  · exact chk_use chk_120 (by omega) (by omega)
  rcases Nat.lt_or_ge y 140 with h | h
  · exact chk_use chk_130 (by omega) (by omega)
  rcases Nat.lt_or_ge y 150 with h | h
  · exact chk_use chk_140 (by omega) (by omega)
  rcases Nat.lt_or_ge y 160 with h | h
  · exact chk_use chk_150 (by omega) (by omega)
  rcases Nat.lt_or_ge y 170 with h | h
  · exact chk_use chk_160 (by omega) (by omega)
  rcases Nat.lt_or_ge y 180 with h | h
  · exact chk_use chk_170 (by omega) (by omega)
  rcases Nat.lt_or_ge y 190 with h | h
  · exact chk_use chk_180 (by omega) (by omega)
  rcases Nat.lt_or_ge y 200 with h | h
  · exact chk_use chk_190 (by omega) (by omega)
  rcases Nat.lt_or_ge y 210 with h | h
  · exact chk_use chk_200 (by omega) (by omega)
  rcases Nat.lt_or_ge y 220 with h | h
  · exact chk_use chk_210 (by omega) (by omega)
  rcases Nat.lt_or_ge y 230 with h | h
  · exact chk_use chk_220 (by omega) (by omega)
  rcases Nat.lt_or_ge y 240 with h | h
  · exact chk_use chk_230 (by omega) (by omega)
  rcases Nat.lt_or_ge y 250 with h | h
  · exact chk_use chk_240 (by omega) (by omega)
  rcases Nat.lt_or_ge y 260 with h | h
  · exact chk_use chk_250 (by omega) (by omega)
  rcases Nat.lt_or_ge y 270 with h | h
  · exact chk_use chk_260 (by omega) (by omega)
  rcases Nat.lt_or_ge y 280 with h | h
  · exact chk_use chk_270 (by omega) (by omega)
  rcases Nat.lt_or_ge y 290 with h | h
  · exact chk_use chk_280 (by omega) (by omega)
  rcases Nat.lt_or_ge y 298 with h | h
  · exact chk_use chk_290 (by omega) (by omega)
  rw [show y = 298 by omega]
  exact chk_law
theorem tbl_out {y : Nat} (h : 299 ≤ y) : tbl y = [] := by
  have hl : tbls.length = 299 := by decide +kernel
  show tbls.getD y [] = []
  rw [List.getD_eq_getElem?_getD, List.getElem?_eq_none (by omega)]
  rfl
theorem cd_mem {y pc : Nat} {i : Ins} (h : cd y pc = some i) : (pc, i) ∈ tbl y := by
  unfold cd at h
  cases hf : (tbl y).find? (fun e => e.1 == pc) with
  | none => rw [hf] at h; cases h
  | some e =>
    rw [hf] at h
    have h1 := List.mem_of_find?_eq_some hf
    have h2 := List.find?_some hf
    simp only [beq_iff_eq] at h2
    cases h
    subst h2
    exact h1
/-- what stands in the tables is what the bytes say -/
theorem cd_chk {y pc : Nat} {i : Ins} (h : cd y pc = some i) : y < 299 ∧ chk y pc i = true := by
  have hm := cd_mem h
  by_cases hy : y < 299
  · exact ⟨hy, chk_lt y hy _ hm⟩
  · rw [tbl_out (by omega)] at hm
    cases hm
