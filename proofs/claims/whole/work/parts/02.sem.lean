def sx_tab_0 : List (MethodName × ByteArray × Nat × Option FieldType × Nat × Nat) := [(yX0_init, cX0_init, 1, none, 2, 17),
  (yX0_become, cX0_become, 3, none, 0, 0),
  (yX0_rowOf, cX0_rowOf, 2, (some (.object "StrawGarrison$Text")), 0, 0),
  (yX6_valueOf, cX6_valueOf, 7, (some .int), 0, 0),
  (yX6_workedOut, cX6_workedOut, 3, (some .int), 0, 0),
  (yX1_init, cX1_init, 1, none, 10, 77),
  (yX1_become, cX1_become, 2, none, 0, 0),
  (yX1_enlist, cX1_enlist, 5, (some .int), 0, 0),
  (yX1_enlistDrawn, cX1_enlistDrawn, 4, none, 0, 0),
  (yX1_draw, cX1_draw, 1, (some .int), 0, 0),
  (yX1_ownerOf, cX1_ownerOf, 3, (some .int), 0, 0),
  (yX1_isInSight, cX1_isInSight, 3, (some .boolean), 0, 0),
  (yX1_isNear, cX1_isNear, 3, (some .boolean), 0, 0),
  (yX1_looksOf, cX1_looksOf, 4, (some .int), 0, 0),
  (yX1_counted, cX1_counted, 3, (some .int), 0, 0),
  (yX1_strength, cX1_strength, 3, (some .int), 0, 0),
  (yX1_downBits, cX1_downBits, 3, (some .int), 0, 0),
  (yX1_doubts, cX1_doubts, 3, (some .int), 0, 0),
  (yX1_othersNear, cX1_othersNear, 5, (some .int), 0, 0),
  (yX1_passNight, cX1_passNight, 2, (some .boolean), 0, 0),
  (yX1_blow, cX1_blow, 3, none, 0, 0),
  (yX1_setUp, cX1_setUp, 2, none, 0, 0),
  (yX1_setUpFirstNear, cX1_setUpFirstNear, 3, none, 0, 0),
  (yX1_watch, cX1_watch, 4, none, 0, 0),
  (yX1_wet, cX1_wet, 2, none, 0, 0),
  (yX2_isUnder, cX2_isUnder, 4, (some .boolean), 0, 0),
  (yX2_lives, cX2_lives, 1, (some .boolean), 0, 0),
  (yX2_looks, cX2_looks, 3, (some .int), 0, 0),
  (yX2_falls, cX2_falls, 2, (some .int), 0, 0),
  (yX2_fights, cX2_fights, 1, (some .int), 0, 0),
  (yX2_worth, cX2_worth, 2, (some .int), 0, 0),
  (yX3_init, cX3_init, 1, none, 3, 201),
  (yX3_read, cX3_read, 8, (some .int), 0, 0),
  (yX3_start, cX3_start, 1, none, 0, 0),
  (yX3_sortOf, cX3_sortOf, 1, (some .int), 0, 0),
  (yX3_placeBehindBlanks, cX3_placeBehindBlanks, 4, (some .int), 0, 0),
  (yX3_endOf, cX3_endOf, 5, (some .int), 0, 0),
  (yX3_keyOf, cX3_keyOf, 3, (some .int), 0, 0),
  (yX3_isWord, cX3_isWord, 5, (some .boolean), 0, 0),
  (yX3_goesOnWith, cX3_goesOnWith, 4, (some .boolean), 0, 0),
  (yX3_takesNumber, cX3_takesNumber, 6, (some .boolean), 0, 0),
  (yX3_takesName, cX3_takesName, 4, (some .boolean), 0, 0),
  (yX3_takePiece, cX3_takePiece, 2, none, 0, 0),
  (yX3_opens, cX3_opens, 2, (some .boolean), 0, 0),
  (yX3_closes, cX3_closes, 1, (some .boolean), 0, 0),
  (yX3_endPiece, cX3_endPiece, 1, none, 0, 0),
  (yX3_joins, cX3_joins, 4, (some .boolean), 0, 0),
  (yX3_tightnessOf, cX3_tightnessOf, 1, (some .int), 0, 0),
  (yX3_putDownFrom, cX3_putDownFrom, 2, none, 0, 0),
  (yX3_putDown, cX3_putDown, 2, none, 0, 0)]
def sx_tab_1 : List (MethodName × ByteArray × Nat × Option FieldType × Nat × Nat) := [(yX3_push, cX3_push, 2, none, 0, 0),
  (yX4_init, cX4_init, 1, none, 1, 24),
  (yX4_start, cX4_start, 3, none, 0, 0),
  (yX4_become, cX4_become, 2, none, 0, 0),
  (yX4_isNumber, cX4_isNumber, 2, (some .boolean), 0, 0),
  (yX4_hasPlaces, cX4_hasPlaces, 3, (some .boolean), 0, 0),
  (yX5_init, cX5_init, 1, none, 2, 27),
  (yX6_init, cX6_init, 2, none, 2, 192),
  (yX7_init, cX7_init, 2, none, 65, 918),
  (yX7_guard, cX7_guard, 4, (some .int), 0, 0),
  (yX7_told, cX7_told, 5, (some .int), 0, 0),
  (yX7_as, cX7_as, 3, (some .int), 0, 0),
  (yX7_turns, cX7_turns, 4, (some .int), 0, 0),
  (yX7_set, cX7_set, 6, (some .int), 0, 0),
  (yX7_moves, cX7_moves, 4, (some .int), 0, 0),
  (yX7_at, cX7_at, 2, (some .int), 0, 0),
  (yX7_rule, cX7_rule, 4, (some .int), 0, 0),
  (yX7_deal, cX7_deal, 4, (some .int), 0, 0),
  (yX7_seed, cX7_seed, 3, (some .int), 0, 0),
  (yX7_seen, cX7_seen, 4, (some .int), 0, 0),
  (yX7_nights, cX7_nights, 5, (some .int), 0, 0),
  (yX7_border, cX7_border, 2, (some .int), 0, 0),
  (yX7_covers, cX7_covers, 8, (some .int), 0, 0),
  (yX7_fewest, cX7_fewest, 5, (some .int), 0, 0),
  (yX7_behind, cX7_behind, 4, (some .int), 0, 0),
  (yX7_bluff, cX7_bluff, 2, (some .int), 0, 0),
  (yX7_washed, cX7_washed, 7, (some .int), 0, 0),
  (yX7_needed, cX7_needed, 3, (some .int), 0, 0),
  (yX7_becomes, cX7_becomes, 8, (some .int), 0, 0),
  (yX7_like, cX7_like, 5, (some .int), 0, 0),
  (yX7_fee, cX7_fee, 2, (some .int), 0, 0),
  (yX7_fine, cX7_fine, 3, (some .int), 0, 0),
  (yX7_feed, cX7_feed, 4, (some .int), 0, 0),
  (yX7_trim, cX7_trim, 2, (some .int), 0, 0),
  (yX7_text, cX7_text, 3, (some .int), 3, 196),
  (yX7_textTold, cX7_textTold, 4, (some .int), 0, 0),
  (yX7_why, cX7_why, 2, (some .int), 0, 0),
  (yX7_sheet, cX7_sheet, 4, (some .int), 0, 0),
  (yX7_mark, cX7_mark, 5, (some .int), 0, 0),
  (yX7_pour, cX7_pour, 7, (some .int), 0, 0),
  (yX7_reads, cX7_reads, 4, (some .int), 0, 0),
  (yX7_copy, cX7_copy, 8, (some .int), 0, 0),
  (yX7_lay, cX7_lay, 6, (some .int), 0, 0),
  (yX7_ask, cX7_ask, 4, (some .int), 0, 0),
  (yX7_item, cX7_item, 4, (some .int), 0, 0),
  (yX7_rest, cX7_rest, 3, (some .int), 0, 0),
  (yX7_tell, cX7_tell, 2, (some .int), 0, 0),
  (yX7_check, cX7_check, 6, (some .int), 0, 0),
  (yX7_keep, cX7_keep, 1, (some .int), 0, 0),
  (yX7_back, cX7_back, 1, (some .int), 0, 0)]
def sx_tab_2 : List (MethodName × ByteArray × Nat × Option FieldType × Nat × Nat) := [(yX7_count, cX7_count, 2, (some .int), 0, 0),
  (yX7_isGuard, cX7_isGuard, 2, (some .boolean), 0, 0),
  (yX7_isKind, cX7_isKind, 1, (some .boolean), 0, 0),
  (yX7_isPost, cX7_isPost, 1, (some .boolean), 0, 0),
  (yX7_isSheet, cX7_isSheet, 1, (some .boolean), 0, 0),
  (yX7_isSlot, cX7_isSlot, 1, (some .boolean), 0, 0),
  (yX7_isWithin, cX7_isWithin, 3, (some .boolean), 0, 0),
  (yX7_heldWithin99, cX7_heldWithin99, 1, (some .int), 0, 0),
  (yX7_countedBehind, cX7_countedBehind, 3, (some .int), 0, 0),
  (yX7_firstRaid, cX7_firstRaid, 3, (some .int), 0, 0),
  (yX7_sumDifferences, cX7_sumDifferences, 4, none, 0, 0),
  (yX7_tapeNumber, cX7_tapeNumber, 3, none, 0, 0),
  (yX8_init, cX8_init, 2, none, 18, 9960),
  (yX8_isIn, cX8_isIn, 6, (some .boolean), 0, 0),
  (yX8_orNone, cX8_orNone, 1, (some .int), 0, 0),
  (yX8_within, cX8_within, 2, (some .int), 0, 0),
  (yX8_off, cX8_off, 2, (some .int), 0, 0),
  (yX8_changes, cX8_changes, 4, (some .int), 0, 0),
  (yX8_textAt, cX8_textAt, 2, (some .int), 0, 0),
  (yX8_of, cX8_of, 3, (some .int), 0, 0),
  (yX8_sets, cX8_sets, 4, none, 0, 0),
  (yX8_isGuard, cX8_isGuard, 2, (some .boolean), 0, 0),
  (yX8_isText, cX8_isText, 2, (some .boolean), 0, 0),
  (yX8_drawn, cX8_drawn, 1, (some .int), 0, 0),
  (yX8_isOf, cX8_isOf, 2, (some .boolean), 0, 0),
  (yX8_isPost, cX8_isPost, 1, (some .boolean), 0, 0),
  (yX8_whose, cX8_whose, 3, (some .int), 0, 0),
  (yX8_comes, cX8_comes, 5, none, 0, 0),
  (yX8_guard, cX8_guard, 4, (some .int), 0, 0),
  (yX8_plain, cX8_plain, 3, (some .int), 0, 0),
  (yX8_looks, cX8_looks, 2, (some .int), 0, 0),
  (yX8_lives, cX8_lives, 2, (some .boolean), 0, 0),
  (yX8_falls, cX8_falls, 3, (some .int), 0, 0),
  (yX8_fights, cX8_fights, 2, (some .int), 0, 0),
  (yX8_worth, cX8_worth, 3, (some .int), 0, 0),
  (yX8_told, cX8_told, 3, (some .int), 0, 0),
  (yX8_as, cX8_as, 3, (some .int), 0, 0),
  (yX8_turns, cX8_turns, 3, (some .int), 0, 0),
  (yX8_set, cX8_set, 4, (some .int), 0, 0),
  (yX8_moves, cX8_moves, 3, (some .int), 0, 0),
  (yX8_at, cX8_at, 2, (some .int), 0, 0),
  (yX8_rule, cX8_rule, 3, (some .int), 0, 0),
  (yX8_deal, cX8_deal, 5, (some .int), 0, 0),
  (yX8_seed, cX8_seed, 2, (some .int), 0, 0),
  (yX8_counted, cX8_counted, 3, (some .int), 0, 0),
  (yX8_strength, cX8_strength, 3, (some .int), 0, 0),
  (yX8_blows, cX8_blows, 3, none, 0, 0),
  (yX8_rises, cX8_rises, 3, none, 0, 0),
  (yX8_watches, cX8_watches, 4, none, 0, 0),
  (yX8_goesOn, cX8_goesOn, 2, none, 0, 0)]
def sx_tab_3 : List (MethodName × ByteArray × Nat × Option FieldType × Nat × Nat) := [(yX8_goesOnMany, cX8_goesOnMany, 3, none, 0, 0),
  (yX8_raids, cX8_raids, 1, (some .int), 0, 0),
  (yX8_seen, cX8_seen, 4, (some .int), 0, 0),
  (yX8_nights, cX8_nights, 4, (some .int), 0, 0),
  (yX8_doubts, cX8_doubts, 3, (some .int), 0, 0),
  (yX8_downs, cX8_downs, 3, (some .int), 0, 0),
  (yX8_border, cX8_border, 2, (some .int), 0, 0),
  (yX8_reached, cX8_reached, 5, (some .int), 0, 0),
  (yX8_covers, cX8_covers, 8, (some .int), 0, 0),
  (yX8_fewest, cX8_fewest, 5, (some .int), 0, 0),
  (yX8_laysBy, cX8_laysBy, 2, none, 0, 0),
  (yX8_laysBack, cX8_laysBack, 2, none, 0, 0),
  (yX8_behind, cX8_behind, 4, (some .int), 0, 0),
  (yX8_bluff, cX8_bluff, 4, (some .int), 0, 0),
  (yX8_isAsked, cX8_isAsked, 2, (some .boolean), 0, 0),
  (yX8_washed, cX8_washed, 7, (some .int), 0, 0),
  (yX8_needed, cX8_needed, 5, (some .int), 0, 0),
  (yX8_becomes, cX8_becomes, 8, (some .int), 0, 0),
  (yX8_fee, cX8_fee, 2, (some .int), 0, 0),
  (yX8_fine, cX8_fine, 3, (some .int), 0, 0),
  (yX8_feed, cX8_feed, 6, (some .int), 0, 0),
  (yX8_trim, cX8_trim, 2, (some .int), 0, 0),
  (yX8_isLetter, cX8_isLetter, 2, (some .boolean), 0, 0),
  (yX8_isDigit, cX8_isDigit, 2, (some .boolean), 0, 0),
  (yX8_nextToken, cX8_nextToken, 3, none, 0, 0),
  (yX8_isSign, cX8_isSign, 2, (some .boolean), 0, 0),
  (yX8_isWordAt, cX8_isWordAt, 6, (some .boolean), 0, 0),
  (yX8_key, cX8_key, 1, (some .int), 0, 0),
  (yX8_isName, cX8_isName, 2, (some .boolean), 0, 0),
  (yX8_step, cX8_step, 3, none, 0, 0),
  (yX8_either, cX8_either, 2, (some .boolean), 0, 0),
  (yX8_both, cX8_both, 2, (some .boolean), 0, 0),
  (yX8_test, cX8_test, 3, (some .boolean), 0, 0),
  (yX8_sum, cX8_sum, 3, (some .boolean), 0, 0),
  (yX8_term, cX8_term, 3, (some .boolean), 0, 0),
  (yX8_part0, cX8_part0, 2, (some .boolean), 0, 0),
  (yX8_parse, cX8_parse, 3, (some .int), 0, 0),
  (yX8_text, cX8_text, 3, (some .int), 0, 0),
  (yX8_textTold, cX8_textTold, 3, (some .int), 0, 0),
  (yX8_counts, cX8_counts, 4, (some .int), 0, 0),
  (yX8_why, cX8_why, 2, (some .int), 0, 0),
  (yX8_joined, cX8_joined, 3, (some .int), 0, 0),
  (yX8_worked, cX8_worked, 6, (some .int), 0, 0),
  (yX8_isSheet, cX8_isSheet, 1, (some .boolean), 0, 0),
  (yX8_sheet, cX8_sheet, 5, (some .int), 0, 0),
  (yX8_mark, cX8_mark, 4, (some .int), 0, 0),
  (yX8_pour, cX8_pour, 6, (some .int), 0, 0),
  (yX8_reads, cX8_reads, 4, (some .int), 0, 0),
  (yX8_offBy, cX8_offBy, 6, (some .int), 0, 0),
  (yX8_like, cX8_like, 7, (some .int), 0, 0)]
def sx_tab_4 : List (MethodName × ByteArray × Nat × Option FieldType × Nat × Nat) := [(yX8_copy, cX8_copy, 7, (some .int), 0, 0),
  (yX8_isSlot, cX8_isSlot, 1, (some .boolean), 0, 0),
  (yX8_lay, cX8_lay, 7, (some .int), 0, 0),
  (yX8_ask, cX8_ask, 3, (some .int), 0, 0),
  (yX8_item, cX8_item, 4, (some .int), 0, 0),
  (yX8_rest, cX8_rest, 3, (some .int), 0, 0),
  (yX8_tell, cX8_tell, 2, (some .int), 0, 0),
  (yX8_setAside, cX8_setAside, 4, none, 0, 0),
  (yX8_check, cX8_check, 5, (some .int), 0, 0),
  (yX8_keep, cX8_keep, 1, (some .int), 0, 0),
  (yX8_back, cX8_back, 1, (some .int), 0, 0),
  (yX8_count, cX8_count, 2, (some .int), 0, 0),
  (yJ9_abs_0f7a4, cJ9_abs_0f7a4, 1, (some .int), 0, 0),
  (yJ9_max_7cf53, cJ9_max_7cf53, 2, (some .int), 0, 0),
  (yJ9_min_7cf53, cJ9_min_7cf53, 2, (some .int), 0, 0),
  (yJ0_length_8abf5, cJ0_length_8abf5, 1, (some .int), 0, 0),
  (yJ0_charAt_5068e, cJ0_charAt_5068e, 2, (some .char), 0, 0),
  (yJ0_indexOf_0f7a4, cJ0_indexOf_0f7a4, 2, (some .int), 0, 0),
  (yJ0_indexOf_7cf53, cJ0_indexOf_7cf53, 3, (some .int), 0, 0),
  (yJ0_coder_7d493, cJ0_coder_7d493, 1, (some .byte), 0, 0),
  (yJ0_isLatin1_aae02, cJ0_isLatin1_aae02, 1, (some .boolean), 0, 0),
  (yJ0_checkIndex_df160, cJ0_checkIndex_df160, 2, none, 0, 0),
  (yJ1_charAt_3b067, cJ1_charAt_3b067, 2, (some .char), 0, 0),
  (yJ1_canEncode_9a6ad, cJ1_canEncode_9a6ad, 1, (some .boolean), 0, 0),
  (yJ1_indexOf_4cfef, cJ1_indexOf_4cfef, 4, (some .int), 0, 0),
  (yJ1_indexOfChar_4cfef, cJ1_indexOfChar_4cfef, 6, (some .int), 0, 0),
  (yJ7_fill_53178, cJ7_fill_53178, 4, none, 0, 0),
  (yJ7_copyOf_59c91, cJ7_copyOf_59c91, 3, (some (.array .int)), 1, 96),
  (yJ3_checkIndex_8e157, cJ3_checkIndex_8e157, 3, (some .int), 0, 0),
  (x, code, 4, (some .boolean), 600000, 7302250),
  (yX0_take, cX0_take, 3, (some .int), 3, 196),
  (yX0_textFor, cX0_textFor, 3, (some (.object "StrawGarrison$Text")), 0, 0)]
def sx_tab : List (MethodName × ByteArray × Nat × Option FieldType × Nat × Nat) := sx_tab_0 ++ (sx_tab_1 ++ (sx_tab_2 ++ (sx_tab_3 ++ (sx_tab_4))))
def sx_tab0 : MethodName × ByteArray × Nat × Option FieldType × Nat × Nat := (x, code, 0, none, 0, 0)
def sx_shS (a : Nat) : Nat × Nat × Nat := bif Nat.ble a 60 then (bif Nat.ble a 39 then (bif Nat.ble a 28 then (bif Nat.ble a 23 then (bif Nat.ble a 20 then (bif Nat.ble a 19 then (bif Nat.ble a 15 then ((0, 6, 12)) else ((0, 1, 11))) else ((1, 0, 10))) else (bif Nat.ble a 22 then (bif Nat.ble a 21 then ((1, 0, 10)) else ((1, 0, 10))) else ((1, 0, 10)))) else (bif Nat.ble a 26 then (bif Nat.ble a 25 then (bif Nat.ble a 24 then ((1, 0, 10)) else ((1, 0, 4))) else ((1, 0, 3))) else (bif Nat.ble a 27 then ((1, 0, 3)) else ((0, 1, 11))))) else (bif Nat.ble a 34 then (bif Nat.ble a 31 then (bif Nat.ble a 30 then (bif Nat.ble a 29 then ((1, 0, 10)) else ((1, 0, 10))) else ((1, 0, 10))) else (bif Nat.ble a 33 then (bif Nat.ble a 32 then ((1, 0, 10)) else ((1, 0, 10))) else ((1, 0, 4)))) else (bif Nat.ble a 37 then (bif Nat.ble a 36 then (bif Nat.ble a 35 then ((1, 0, 3)) else ((1, 0, 3))) else ((0, 1, 11))) else (bif Nat.ble a 38 then ((1, 0, 10)) else ((1, 0, 10)))))) else (bif Nat.ble a 50 then (bif Nat.ble a 45 then (bif Nat.ble a 42 then (bif Nat.ble a 41 then (bif Nat.ble a 40 then ((1, 0, 10)) else ((1, 0, 10))) else ((1, 0, 10))) else (bif Nat.ble a 44 then (bif Nat.ble a 43 then ((1, 0, 4)) else ((1, 0, 3))) else ((1, 0, 3)))) else (bif Nat.ble a 48 then (bif Nat.ble a 47 then (bif Nat.ble a 46 then ((0, 2, 10)) else ((1, 0, 96))) else ((1, 0, 96))) else (bif Nat.ble a 49 then ((1, 2, 9)) else ((1, 1, 96))))) else (bif Nat.ble a 55 then (bif Nat.ble a 53 then (bif Nat.ble a 52 then (bif Nat.ble a 51 then ((1, 4, 4)) else ((1, 5, 5))) else ((1, 0, 60))) else (bif Nat.ble a 54 then ((1, 0, 10)) else ((0, 3, 3)))) else (bif Nat.ble a 58 then (bif Nat.ble a 57 then (bif Nat.ble a 56 then ((1, 0, 24)) else ((0, 3, 3))) else ((1, 0, 24))) else (bif Nat.ble a 59 then ((0, 3, 3)) else ((1, 0, 24))))))) else (bif Nat.ble a 81 then (bif Nat.ble a 71 then (bif Nat.ble a 66 then (bif Nat.ble a 63 then (bif Nat.ble a 62 then (bif Nat.ble a 61 then ((0, 3, 3)) else ((1, 0, 24))) else ((0, 4, 5))) else (bif Nat.ble a 65 then (bif Nat.ble a 64 then ((0, 3, 3)) else ((1, 0, 24))) else ((0, 4, 5)))) else (bif Nat.ble a 69 then (bif Nat.ble a 68 then (bif Nat.ble a 67 then ((0, 3, 3)) else ((1, 0, 24))) else ((0, 4, 5))) else (bif Nat.ble a 70 then ((0, 3, 3)) else ((1, 0, 24))))) else (bif Nat.ble a 76 then (bif Nat.ble a 74 then (bif Nat.ble a 73 then (bif Nat.ble a 72 then ((0, 4, 5)) else ((0, 3, 3))) else ((1, 0, 24))) else (bif Nat.ble a 75 then ((0, 4, 5)) else ((0, 3, 3)))) else (bif Nat.ble a 79 then (bif Nat.ble a 78 then (bif Nat.ble a 77 then ((1, 0, 24)) else ((0, 7, 31))) else ((1, 0, 3062))) else (bif Nat.ble a 80 then ((1, 0, 3062)) else ((1, 0, 3062)))))) else (bif Nat.ble a 92 then (bif Nat.ble a 87 then (bif Nat.ble a 84 then (bif Nat.ble a 83 then (bif Nat.ble a 82 then ((1, 0, 4)) else ((1, 0, 4))) else ((1, 0, 96))) else (bif Nat.ble a 86 then (bif Nat.ble a 85 then ((1, 0, 5)) else ((1, 0, 5))) else ((1, 0, 5)))) else (bif Nat.ble a 90 then (bif Nat.ble a 89 then (bif Nat.ble a 88 then ((1, 0, 5)) else ((1, 0, 120))) else ((1, 0, 62))) else (bif Nat.ble a 91 then ((1, 0, 96)) else ((1, 0, 128))))) else (bif Nat.ble a 119 then (bif Nat.ble a 95 then (bif Nat.ble a 94 then (bif Nat.ble a 93 then ((1, 0, 100)) else ((1, 0, 24))) else ((1, 0, 60))) else (bif Nat.ble a 96 then ((1, 0, 60)) else ((0, 0, 3)))) else (bif Nat.ble a 129 then (bif Nat.ble a 128 then (bif Nat.ble a 120 then ((1, 3, 14)) else ((0, 0, 3))) else ((1, 3, 14))) else (bif Nat.ble a 137 then ((0, 0, 3)) else ((1, 3, 14)))))))
/-- what is made n-th: its id and its shape -/
def sx_shL (n : Nat) : Nat × Nat × Nat × Nat := bif Nat.ble n 57 then (bif Nat.ble n 36 then (bif Nat.ble n 25 then (bif Nat.ble n 20 then (bif Nat.ble n 17 then (bif Nat.ble n 16 then (bif Nat.ble n 15 then ((15, 0, 6, 12)) else ((19, 0, 1, 11))) else ((20, 1, 0, 10))) else (bif Nat.ble n 19 then (bif Nat.ble n 18 then ((21, 1, 0, 10)) else ((22, 1, 0, 10))) else ((23, 1, 0, 10)))) else (bif Nat.ble n 23 then (bif Nat.ble n 22 then (bif Nat.ble n 21 then ((24, 1, 0, 10)) else ((25, 1, 0, 4))) else ((26, 1, 0, 3))) else (bif Nat.ble n 24 then ((119, 0, 0, 3)) else ((120, 1, 3, 14))))) else (bif Nat.ble n 31 then (bif Nat.ble n 28 then (bif Nat.ble n 27 then (bif Nat.ble n 26 then ((27, 1, 0, 3)) else ((28, 0, 1, 11))) else ((29, 1, 0, 10))) else (bif Nat.ble n 30 then (bif Nat.ble n 29 then ((30, 1, 0, 10)) else ((31, 1, 0, 10))) else ((32, 1, 0, 10)))) else (bif Nat.ble n 34 then (bif Nat.ble n 33 then (bif Nat.ble n 32 then ((33, 1, 0, 10)) else ((34, 1, 0, 4))) else ((35, 1, 0, 3))) else (bif Nat.ble n 35 then ((128, 0, 0, 3)) else ((129, 1, 3, 14)))))) else (bif Nat.ble n 47 then (bif Nat.ble n 42 then (bif Nat.ble n 39 then (bif Nat.ble n 38 then (bif Nat.ble n 37 then ((36, 1, 0, 3)) else ((37, 0, 1, 11))) else ((38, 1, 0, 10))) else (bif Nat.ble n 41 then (bif Nat.ble n 40 then ((39, 1, 0, 10)) else ((40, 1, 0, 10))) else ((41, 1, 0, 10)))) else (bif Nat.ble n 45 then (bif Nat.ble n 44 then (bif Nat.ble n 43 then ((42, 1, 0, 10)) else ((43, 1, 0, 4))) else ((44, 1, 0, 3))) else (bif Nat.ble n 46 then ((137, 0, 0, 3)) else ((138, 1, 3, 14))))) else (bif Nat.ble n 52 then (bif Nat.ble n 50 then (bif Nat.ble n 49 then (bif Nat.ble n 48 then ((45, 1, 0, 3)) else ((46, 0, 2, 10))) else ((47, 1, 0, 96))) else (bif Nat.ble n 51 then ((48, 1, 0, 96)) else ((49, 1, 2, 9)))) else (bif Nat.ble n 55 then (bif Nat.ble n 54 then (bif Nat.ble n 53 then ((50, 1, 1, 96)) else ((51, 1, 4, 4))) else ((52, 1, 5, 5))) else (bif Nat.ble n 56 then ((53, 1, 0, 60)) else ((54, 1, 0, 10))))))) else (bif Nat.ble n 78 then (bif Nat.ble n 68 then (bif Nat.ble n 63 then (bif Nat.ble n 60 then (bif Nat.ble n 59 then (bif Nat.ble n 58 then ((55, 0, 3, 3)) else ((56, 1, 0, 24))) else ((57, 0, 3, 3))) else (bif Nat.ble n 62 then (bif Nat.ble n 61 then ((58, 1, 0, 24)) else ((59, 0, 3, 3))) else ((60, 1, 0, 24)))) else (bif Nat.ble n 66 then (bif Nat.ble n 65 then (bif Nat.ble n 64 then ((61, 0, 3, 3)) else ((62, 1, 0, 24))) else ((63, 0, 4, 5))) else (bif Nat.ble n 67 then ((64, 0, 3, 3)) else ((65, 1, 0, 24))))) else (bif Nat.ble n 73 then (bif Nat.ble n 71 then (bif Nat.ble n 70 then (bif Nat.ble n 69 then ((66, 0, 4, 5)) else ((67, 0, 3, 3))) else ((68, 1, 0, 24))) else (bif Nat.ble n 72 then ((69, 0, 4, 5)) else ((70, 0, 3, 3)))) else (bif Nat.ble n 76 then (bif Nat.ble n 75 then (bif Nat.ble n 74 then ((71, 1, 0, 24)) else ((72, 0, 4, 5))) else ((73, 0, 3, 3))) else (bif Nat.ble n 77 then ((74, 1, 0, 24)) else ((75, 0, 4, 5)))))) else (bif Nat.ble n 89 then (bif Nat.ble n 84 then (bif Nat.ble n 81 then (bif Nat.ble n 80 then (bif Nat.ble n 79 then ((76, 0, 3, 3)) else ((77, 1, 0, 24))) else ((78, 0, 7, 31))) else (bif Nat.ble n 83 then (bif Nat.ble n 82 then ((79, 1, 0, 3062)) else ((80, 1, 0, 3062))) else ((81, 1, 0, 3062)))) else (bif Nat.ble n 87 then (bif Nat.ble n 86 then (bif Nat.ble n 85 then ((82, 1, 0, 4)) else ((83, 1, 0, 4))) else ((84, 1, 0, 96))) else (bif Nat.ble n 88 then ((85, 1, 0, 5)) else ((86, 1, 0, 5))))) else (bif Nat.ble n 94 then (bif Nat.ble n 92 then (bif Nat.ble n 91 then (bif Nat.ble n 90 then ((87, 1, 0, 5)) else ((88, 1, 0, 5))) else ((89, 1, 0, 120))) else (bif Nat.ble n 93 then ((90, 1, 0, 62)) else ((91, 1, 0, 96)))) else (bif Nat.ble n 97 then (bif Nat.ble n 96 then (bif Nat.ble n 95 then ((92, 1, 0, 128)) else ((93, 1, 0, 100))) else ((94, 1, 0, 24))) else (bif Nat.ble n 98 then ((95, 1, 0, 60)) else ((96, 1, 0, 60)))))))
/-- which id was made when -/
def sx_ps (a : Nat) : Nat := bif Nat.ble a 14 then a else bif Nat.ble a 199 then (bif Nat.ble a 60 then (bif Nat.ble a 39 then (bif Nat.ble a 28 then (bif Nat.ble a 23 then (bif Nat.ble a 20 then (bif Nat.ble a 19 then (bif Nat.ble a 15 then (15) else (16)) else (17)) else (bif Nat.ble a 22 then (bif Nat.ble a 21 then (18) else (19)) else (20))) else (bif Nat.ble a 26 then (bif Nat.ble a 25 then (bif Nat.ble a 24 then (21) else (22)) else (23)) else (bif Nat.ble a 27 then (26) else (27)))) else (bif Nat.ble a 34 then (bif Nat.ble a 31 then (bif Nat.ble a 30 then (bif Nat.ble a 29 then (28) else (29)) else (30)) else (bif Nat.ble a 33 then (bif Nat.ble a 32 then (31) else (32)) else (33))) else (bif Nat.ble a 37 then (bif Nat.ble a 36 then (bif Nat.ble a 35 then (34) else (37)) else (38)) else (bif Nat.ble a 38 then (39) else (40))))) else (bif Nat.ble a 50 then (bif Nat.ble a 45 then (bif Nat.ble a 42 then (bif Nat.ble a 41 then (bif Nat.ble a 40 then (41) else (42)) else (43)) else (bif Nat.ble a 44 then (bif Nat.ble a 43 then (44) else (45)) else (48))) else (bif Nat.ble a 48 then (bif Nat.ble a 47 then (bif Nat.ble a 46 then (49) else (50)) else (51)) else (bif Nat.ble a 49 then (52) else (53)))) else (bif Nat.ble a 55 then (bif Nat.ble a 53 then (bif Nat.ble a 52 then (bif Nat.ble a 51 then (54) else (55)) else (56)) else (bif Nat.ble a 54 then (57) else (58))) else (bif Nat.ble a 58 then (bif Nat.ble a 57 then (bif Nat.ble a 56 then (59) else (60)) else (61)) else (bif Nat.ble a 59 then (62) else (63)))))) else (bif Nat.ble a 81 then (bif Nat.ble a 71 then (bif Nat.ble a 66 then (bif Nat.ble a 63 then (bif Nat.ble a 62 then (bif Nat.ble a 61 then (64) else (65)) else (66)) else (bif Nat.ble a 65 then (bif Nat.ble a 64 then (67) else (68)) else (69))) else (bif Nat.ble a 69 then (bif Nat.ble a 68 then (bif Nat.ble a 67 then (70) else (71)) else (72)) else (bif Nat.ble a 70 then (73) else (74)))) else (bif Nat.ble a 76 then (bif Nat.ble a 74 then (bif Nat.ble a 73 then (bif Nat.ble a 72 then (75) else (76)) else (77)) else (bif Nat.ble a 75 then (78) else (79))) else (bif Nat.ble a 79 then (bif Nat.ble a 78 then (bif Nat.ble a 77 then (80) else (81)) else (82)) else (bif Nat.ble a 80 then (83) else (84))))) else (bif Nat.ble a 92 then (bif Nat.ble a 87 then (bif Nat.ble a 84 then (bif Nat.ble a 83 then (bif Nat.ble a 82 then (85) else (86)) else (87)) else (bif Nat.ble a 86 then (bif Nat.ble a 85 then (88) else (89)) else (90))) else (bif Nat.ble a 90 then (bif Nat.ble a 89 then (bif Nat.ble a 88 then (91) else (92)) else (93)) else (bif Nat.ble a 91 then (94) else (95)))) else (bif Nat.ble a 119 then (bif Nat.ble a 95 then (bif Nat.ble a 94 then (bif Nat.ble a 93 then (96) else (97)) else (98)) else (bif Nat.ble a 96 then (99) else (24))) else (bif Nat.ble a 129 then (bif Nat.ble a 128 then (bif Nat.ble a 120 then (25) else (35)) else (36)) else (bif Nat.ble a 137 then (46) else (47))))))) else a - 100
def sx_shRT : List (Nat × Nat × Nat) := [(1, 0, 4), (1, 0, 6), (2, 0, 0), (2, 1, 0), (2, 2, 0), (2, 3, 0), (2, 4, 0), (2, 5, 0), (1, 1, 4), (1, 1, 3), (1, 1, 4), (1, 1, 3), (1, 1, 2), (1, 1, 2)]
/-! ===== THE ABSTRACT MACHINE: values by ids, memory as functions ===== -/
abbrev sx_I : Type := Nat → Nat → Int32
abbrev sx_G : Type := (Nat → Nat → Option Nat) × (Nat ⊕ Nat) × (Nat → Nat)
abbrev sx_L : Type := List (Nat × Value)
abbrev sx_K : Type := Option Value → sx_I → sx_G → Prop
abbrev sx_E : Type := Instr × Nat × Nat × List Nat × Value
/-- addresses of the read-only cells; what is opaque; the first address of ours; array classes; class layouts -/
abbrev sx_P : Type := (Nat → Nat) × Value × Nat × (Nat → ClassId) × va_G
def sx_tr (P : sx_P) (a : Nat) : Nat := if a < 15 then P.1 a else P.2.2.1 + (sx_ps a - 15)
def sx_tv (P : sx_P) : Value → Value
  | .ref a => .ref (sx_tr P a)
  | .float _ => P.2.1
  | v => v
def sx_A (P : sx_P) : Nat → Prop := fun q => P.2.2.1 ≤ q
def sx_lk : sx_L → Nat → Option Value
  | [], _ => none
  | (k, v) :: r, i => bif Nat.beq k i then some v else sx_lk r i
def sx_pt : sx_L → Nat → Value → sx_L
  | [], i, v => [(i, v)]
  | (k, w) :: r, i, v => bif Nat.beq k i then (i, v) :: r else bif Nat.ble i k then (i, v) :: (k, w) :: r else (k, w) :: sx_pt r i v
/-- no two-slot value stands right below slot i -/
def sx_nl : sx_L → Nat → Bool
  | [], _ => true
  | (k, v) :: r, i => bif Nat.beq (k + 1) i then (match v with | .long _ => false | .double _ => false | _ => sx_nl r i) else sx_nl r i
def sx_lv (L : sx_L) : List Nat → sx_L
  | [] => []
  | i :: r => match sx_lk L i with
    | some v => (i, v) :: sx_lv L r
    | none => sx_lv L r
def sx_at : List sx_E → Nat → List sx_E
  | [], _ => []
  | e :: r, t => bif Nat.beq e.2.1 t then e :: r else sx_at r t
def sx_w2 (v : Value) (i : Nat) : Nat := match v with
  | .long _ => i + 2
  | .double _ => i + 2
  | _ => i + 1
def sx_args : Nat → List Value → sx_L
  | _, [] => []
  | i, v :: r => (i, v) :: sx_args (sx_w2 v i) r
def sx_pop : Nat → List Value → List Value → Option (List Value × List Value)
  | 0, st, acc => some (acc, st)
  | _ + 1, [], _ => none
  | n + 1, v :: st, acc => sx_pop n st (v :: acc)
def sx_psh (v : Option Value) (st : List Value) : List Value := match v with
  | some x => x :: st
  | none => st
def sx_up (I : sx_I) (a : Nat) (f : Nat → Int32) : sx_I := fun i => if i = a then f else I i
def sx_upR (R : Nat → Nat → Option Nat) (a : Nat) (f : Nat → Option Nat) : Nat → Nat → Option Nat := fun i => if i = a then f else R i
def sx_rv : Option Nat → Value
  | some b => .ref b
  | none => .null
/-- the fixed cells' contents -/
def sx_rom (a k : Nat) : Int32 := match a with
  | 0 => ([19, 100, 999, 999] : List Int32).getD k 0
  | 1 => ([-1000000005, 0, 0, 1, 2, 0] : List Int32).getD k 0
  | 8 => ([108, 111, 111, 107] : List Int32).getD k 0
  | 9 => ([102, 101, 101] : List Int32).getD k 0
  | 10 => ([102, 105, 110, 101] : List Int32).getD k 0
  | 11 => ([119, 100, 112] : List Int32).getD k 0
  | 12 => ([104, 108] : List Int32).getD k 0
  | 13 => ([119, 100] : List Int32).getD k 0
  | _ => 0
/-- the id of what is made n-th -/
def sx_lb (n : Nat) : Nat := bif Nat.ble n 14 then n else bif Nat.ble n 99 then (sx_shL n).1 else n + 100
/-- this is an id -/
def sx_gd (a : Nat) : Bool := bif Nat.ble a 15 then true else bif Nat.ble a 18 then false else bif Nat.ble a 96 then true else bif Nat.ble 200 a then true else (Nat.beq a 119 || Nat.beq a 120 || Nat.beq a 128 || Nat.beq a 129 || Nat.beq a 137 || Nat.beq a 138)
/-- how many were made, and 15; behind the start a call makes texts, three objects each -/
def sx_nx (G : sx_G) : Nat := match G.2.1 with
  | .inl n => n
  | .inr m => 100 + m
def sx_al (G : sx_G) (a : Nat) : Bool := match G.2.1 with
  | .inl n => bif sx_gd a then Nat.ble (sx_ps a + 1) n else false
  | .inr m => bif sx_gd a then (bif Nat.ble a 199 then true else Nat.ble (a + 1) (200 + m)) else false
def sx_shR (G : sx_G) (a : Nat) : Nat × Nat × Nat := bif Nat.beq a 14 then (1, 0, G.2.2 14) else sx_shRT.getD a (1, 0, 0)
def sx_isrT : List (List Bool) := [[true, false, true], [true, false, true, true, true, true, true, true, true, false, false], [false, false, true, false, true, false, false, false, false, true], [false, false, true], [false, false, false, false, true], [false, false, true, true], [true, true, true, true, false, true, true, false, true, true, true, false], [true, true, true, false, true, true, true, true, true, true, true, true, true, true, false, false, false, false, false, false, false, false, false, false, false, true, true, true, true, false, true]]
def sx_isr (ci k : Nat) : Bool := (sx_isrT.getD ci []).getD k false
/-- what an id is: (0, class, fields), (1, element type, length), (2, which String, 0) -/
def sx_sh (G : sx_G) (a : Nat) : Nat × Nat × Nat :=
  bif Nat.ble a 14 then sx_shR G a else bif Nat.ble a 199 then sx_shS a else bif Nat.beq ((a - 200) % 3) 0 then (0, 5, 4) else (1, 0, G.2.2 a)
def sx_ce (P : sx_P) (sh : Nat × Nat × Nat) (Ia : Nat → Int32) (Ra : Nat → Option Nat) : va_E := match sh with
  | (0, ci, N) => .inr (ci, (List.range N).map (fun k => if sx_isr ci k = true then va_rf ((Ra k).map (sx_tr P)) else .int (Ia k)))
  | (_, t, n) => if t < 3 then .inl (P.2.2.2.1 t, n, .inl Ia) else .inl (P.2.2.2.1 t, n, .inr (.inr (.inr (.inr (fun j => (Ra j).map (sx_tr P))))))
def sx_ws (P : sx_P) (I : sx_I) (G : sx_G) : va_W := (List.range (sx_nx G - 15)).map (fun i => (P.2.2.1 + i, sx_ce P (sx_sh G (sx_lb (15 + i))) (I (sx_lb (15 + i))) (G.1 (sx_lb (15 + i)))))
def sx_tys (P : sx_P) : List (ClassId × FieldType) := [(P.2.2.2.1 0, .int), (P.2.2.2.1 1, .byte), (P.2.2.2.1 2, .boolean), (P.2.2.2.1 3, .object "StrawGarrison$Text"), (P.2.2.2.1 4, .object "StrawGarrison$Sheet"), (P.2.2.2.1 5, .object "StrawGarrison$Slot")]
def sx_sk : Nat → Nat | 0 => 71 | 1 => 77 | 2 => 79 | 3 => 110 | 4 => 112 | _ => 114
def sx_stx : Nat → String | 0 => "look" | 1 => "fee" | 2 => "fine" | 3 => "wdp" | 4 => "hl" | _ => "wd"
def sx_sl : List Nat := [4, 3, 4, 3, 2, 2]
def sx_sb : List (List Int32) := [[108, 111, 111, 107], [102, 101, 101], [102, 105, 110, 101], [119, 100, 112], [104, 108], [119, 100]]
def sx_nest : List (String × Nat × MethodName × String) := [("StrawGarrison", 9, yX1_init, "StrawGarrison"), ("StrawGarrison$Border", 45, yX0_init, "StrawGarrison"), ("StrawGarrison", 28, yX3_init, "StrawGarrison"), ("StrawGarrison", 63, yX4_init, "StrawGarrison"), ("StrawGarrison", 64, yX5_init, "StrawGarrison"), ("StrawGarrison$Slot", 26, yX4_init, "StrawGarrison"), ("StrawGarrison$Book", 41, yX7_isWithin, "StrawGarrison"), ("StrawGarrison$Border", 90, yX7_heldWithin99, "StrawGarrison")]
/-- what nobody writes, at a state -/
def sx_RO (P : sx_P) (U : State) (H : Heap) : Prop :=
  (va_Z "StrawGarrison" "MOST_OF_RULE" "[I" (.ref (P.1 0)) (sx_A P) U H ∧ va_T .int (P.1 0) 4 (fun j => .int (sx_rom 0 j)) (sx_A P) U H) ∧
  (va_Z "StrawGarrison$Kinds" "ABOVE" "[I" (.ref (P.1 1)) (sx_A P) U H ∧ va_T .int (P.1 1) 6 (fun j => .int (sx_rom 1 j)) (sx_A P) U H) ∧
  va_Z "java/lang/String" "COMPACT_STRINGS" "Z" (.int 1) (sx_A P) U H ∧
  (va_Z "jdk/internal/util/Preconditions" "SIOOBE_FORMATTER" "Ljava/util/function/BiFunction;" P.2.1 (sx_A P) U H ∧ (P.2.1 = .null ∨ ∃ t : Nat, P.2.1 = .ref t)) ∧
  (∀ i : Nat, i < 6 → vk_R "StrawGarrison$Reader" (sx_sk i) (sx_stx i) (P.1 (2 + i)) U) ∧
  vk_S 6 sx_sl sx_sb (fun i => P.1 (2 + i)) (fun i => P.1 (8 + i)) (sx_A P) U H ∧
  (∀ q ∈ sx_nest, va_Nw (.methodLinkNest q.1 q.2.1 q.2.2.1 q.2.2.2) U) ∧
  (va_AO "StrawGarrison$Text" U ∧ va_AO "StrawGarrison$Sheet" U ∧ va_AO "StrawGarrison$Slot" U)
/-- the memory is in the heap -/
def sx_Rel (P : sx_P) (I : sx_I) (G : sx_G) (U : State) (H : Heap) : Prop :=
  va_K P.2.2.2.2 vwCl (sx_tys P) U ∧ va_P P.2.2.2.2 vwCl (sx_ws P I G) H ∧ H.size = P.2.2.1 + (sx_nx G - 15) ∧ 15 ≤ sx_nx G ∧ (∀ a, G.2.2 a < 2 ^ 31) ∧
  va_T .int (P.1 14) (G.2.2 14) (fun j => .int (I 14 j)) (sx_A P) U H
/-- the words that calls need -/
def sx_tb : List Cond := lw_tbl.filter goodWord
theorem sx_tb_of {w : Cond} (i : Nat) (h : lw_tbl[i]? = some w) (hg : goodWord w = true) : w ∈ sx_tb := List.mem_filter.mpr ⟨List.mem_of_getElem? h, hg⟩
def sx_nm (j : Nat) : MethodName := (sx_tab.getD j sx_tab0).1
def sx_by (j : Nat) : ByteArray := (sx_tab.getD j sx_tab0).2.1
def sx_ml (j : Nat) : Nat := (sx_tab.getD j sx_tab0).2.2.1
def sx_rt (j : Nat) : Option FieldType := (sx_tab.getD j sx_tab0).2.2.2.1
def sx_mc (j : Nat) : Nat := (sx_tab.getD j sx_tab0).2.2.2.2.1
def sx_ms (j : Nat) : Nat := (sx_tab.getD j sx_tab0).2.2.2.2.2
def sx_ct (j : Nat) : Prop := (sx_nm j).name = "<init>"
def sx_ww (j : Nat) : List Cond := Cond.code (sx_nm j) (sx_by j) (sx_ml j) (sx_rt j) :: sx_tb
def sx_rm (j d : Nat) : Room := { frames := d, cells := sx_mc j, slots := sx_ms j, locals := 48 * d }
def sx_Qc (P : sx_P) (K : sx_K) : Array Value → State → Outcome → State → Prop := fun _ st o t =>
  (∃ (v : Option Value) (I : sx_I) (G : sx_G), o = .returned (v.map (sx_tv P)) ∧ K v I G ∧ sx_Rel P I G t t.heap) ∧ va_F (sx_A P) st t
/-- CALLING METHOD j with these arguments in this memory comes to an end, and K holds of it -/
def sx_C (j d : Nat) (as : List Value) (I : sx_I) (G : sx_G) (K : sx_K) : Prop :=
  ∀ (l : Launch) (P : sx_P), Met l (sx_nm j) (sx_ww j) (sx_rm j d) (va_Pc (as.map (sx_tv P)) (fun U => sx_RO P U U.heap ∧ sx_Rel P I G U U.heap)) (sx_Qc P K) (sx_mc j) (sx_ms j) (sx_A P)
def sx_Cx (j d mcT msT : Nat) (P : sx_P) (p : Program) (R : Room) (s : State) (m : MethodId) (args : Array Value) (meth : Method) (c : Code) : Prop :=
  p.tables.exec = Jvm.exec ∧ c.code = sx_by j ∧ c.maxLocals = sx_ml j ∧ s.vm.findClass (sx_nm j).cls = some m.cls ∧ (∀ w ∈ sx_tb, w.before args s = true) ∧ meth.locks = false ∧ meth.sig.returnType = sx_rt j ∧
  (sx_ct j → meth.name = "<init>") ∧ d ≤ R.frames ∧ 48 * d ≤ R.locals ∧ mcT ≤ R.cells ∧ msT ≤ R.slots ∧ sx_RO P s s.heap ∧ P.2.2.1 ≤ s.heap.size
/-- the locals hold what is listed -/
def sx_LH (P : sx_P) (ls : Array Slot) (n : Nat) (L : sx_L) : Prop := ls.size = n ∧ lv_wf ls ∧ ∀ (i : Nat) (v : Value), sx_lk L i = some v → ls[i]? = some (.val (sx_tv P v))
/-- STANDING IN METHOD j at pc comes to an end, and K holds of it -/
def sx_V (j d mc ms : Nat) (K : sx_K) (pc : Nat) (L : sx_L) (st : List Value) (I : sx_I) (G : sx_G) : Prop :=
  ∀ (P : sx_P) (p : Program) (l : Launch) (e : Env) (R : Room) (s : State) (m : MethodId) (args : Array Value) (below : List Frame) (meth : Method) (c : Code) (mcT msT : Nat) (H : Heap) (locs : List Loc) (cells slots : Nat) (ls : Array Slot),
    sx_Cx j d mcT msT P p R s m args meth c → cells + mc ≤ mcT → slots + ms ≤ msT → va_S (sx_A P) s.heap H locs → sx_Rel P I G s H → sx_LH P ls (sx_ml j) L →
    W p l e R s m args below meth c H locs cells slots (MQ below (sx_Qc P K) args s mcT msT (sx_A P)) (F0 m pc ls (st.map (sx_tv P)))
abbrev sx_T : Type := Nat → Nat → List sx_E → sx_L → List Value → sx_I → sx_G → Prop
def sx_cc : ClassFile.Cond → Int32 → Int32 → Prop
  | .eq, x, y => x = y | .ne, x, y => ¬ x = y | .lt, x, y => x < y | .ge, x, y => y ≤ x | .gt, x, y => y < x | .le, x, y => x ≤ y
def sx_cn : ClassFile.Cond → Int32 → Int32 → Prop
  | .eq, x, y => ¬ x = y | .ne, x, y => x = y | .lt, x, y => ¬ x < y | .ge, x, y => ¬ y ≤ x | .gt, x, y => ¬ y < x | .le, x, y => ¬ x ≤ y
def sx_tsw (x : Int32) (k : Nat → Prop) (dflt : Nat) : Nat → List Nat → Prop
  | _, [] => k dflt
  | i, t :: ts => (x = nI i → k t) ∧ (¬ x = nI i → sx_tsw x k dflt (i + 1) ts)
def sx_lsw (x : Int32) (k : Nat → Prop) (dflt : Nat) : List Nat → Prop
  | i :: t :: ts => (x = nI i → k t) ∧ (¬ x = nI i → sx_lsw x k dflt ts)
  | _ => k dflt
def sx_nrw (t : Nat) (x : Int32) : Prop := match t with
  | 1 => x = 0 ∨ x = 1
  | 2 => narrow .byte (.int x) = .int x
  | _ => narrow .char (.int x) = .int x
abbrev sx_VT : Type := Nat → Nat → Nat → sx_L → List Value → sx_I → sx_G → Prop
abbrev sx_CT : Type := Nat → List Value → sx_I → sx_G → sx_K → Prop
def sx_stepG (VV : sx_VT) (CC : sx_CT) (K : sx_K) (cd : List sx_E) (f : sx_T) (op : Instr) (pc : Nat) (ax : List Nat) (cv : Value) (cs : List sx_E) (mc ms : Nat) (L : sx_L) (st : List Value) (I : sx_I) (G : sx_G) : Prop :=
  match op with
  | .nop => f mc ms cs L (cv :: st) I G
  | .iload i => (match sx_lk L i with | some (.int x) => f mc ms cs L (.int x :: st) I G | _ => False)
  | .lload i => (match sx_lk L i with | some (.long x) => f mc ms cs L (.long x :: st) I G | _ => False)
  | .aload i => (match sx_lk L i with | some (.ref a) => f mc ms cs L (.ref a :: st) I G | some .null => f mc ms cs L (.null :: st) I G | _ => False)
  | .istore i => (match st with | .int x :: r => (match sx_nl L i with | true => f mc ms cs (sx_pt L i (.int x)) r I G | false => False) | _ => False)
  | .astore i => (match st with | .ref a :: r => (match sx_nl L i with | true => f mc ms cs (sx_pt L i (.ref a)) r I G | false => False) | .null :: r => (match sx_nl L i with | true => f mc ms cs (sx_pt L i .null) r I G | false => False) | _ => False)
  | .iinc i _ => (match sx_lk L i, cv with | some (.int x), .int y => (match sx_nl L i with | true => f mc ms cs (sx_pt L i (.int (x + y))) st I G | false => False) | _, _ => False)
  | .iadd => (match st with | .int y :: .int x :: r => f mc ms cs L (.int (x + y) :: r) I G | _ => False)
  | .isub => (match st with | .int y :: .int x :: r => f mc ms cs L (.int (x - y) :: r) I G | _ => False)
  | .imul => (match st with | .int y :: .int x :: r => f mc ms cs L (.int (x * y) :: r) I G | _ => False)
  | .iand => (match st with | .int y :: .int x :: r => f mc ms cs L (.int (x &&& y) :: r) I G | _ => False)
  | .ior => (match st with | .int y :: .int x :: r => f mc ms cs L (.int (x ||| y) :: r) I G | _ => False)
  | .ishl => (match st with | .int y :: .int x :: r => f mc ms cs L (.int (x <<< (y &&& 31)) :: r) I G | _ => False)
  | .ishr => (match st with | .int y :: .int x :: r => f mc ms cs L (.int (x >>> (y &&& 31)) :: r) I G | _ => False)
  | .iushr => (match st with | .int y :: .int x :: r => f mc ms cs L (.int ((x.toUInt32 >>> (y.toUInt32 &&& Int32.toUInt32 31)).toInt32) :: r) I G | _ => False)
  | .idiv => (match st with | .int y :: .int x :: r => (¬ y = 0) ∧ f mc ms cs L (.int (x / y) :: r) I G | _ => False)
  | .irem => (match st with | .int y :: .int x :: r => (¬ y = 0) ∧ f mc ms cs L (.int (x - x / y * y) :: r) I G | _ => False)
  | .ineg => (match st with | .int x :: r => f mc ms cs L (.int (-x) :: r) I G | _ => False)
  | .i2l => (match st with | .int x :: r => f mc ms cs L (.long x.toInt64 :: r) I G | _ => False)
  | .i2b => (match st with | .int x :: r => f mc ms cs L (.int x.toInt8.toInt32 :: r) I G | _ => False)
  | .i2s => (match st with | .int x :: r => f mc ms cs L (.int x.toInt16.toInt32 :: r) I G | _ => False)
  | .i2c => (match st with | .int x :: r => f mc ms cs L (.int (x.toUInt32 % 65536).toInt32 :: r) I G | _ => False)
  | .ladd => (match st with | .long y :: .long x :: r => f mc ms cs L (.long (x + y) :: r) I G | _ => False)
  | .lcmp => (match st with | .long y :: .long x :: r => f mc ms cs L (.int (lg_cmp x y) :: r) I G | _ => False)
  | .dup => (match st with | .int x :: r => f mc ms cs L (.int x :: .int x :: r) I G | .ref x :: r => f mc ms cs L (.ref x :: .ref x :: r) I G | _ => False)
  | .dup2 => (match st with | .int x :: .ref y :: r => f mc ms cs L (.int x :: .ref y :: .int x :: .ref y :: r) I G | _ => False)
  | .pop => (match st with | .int _ :: r => f mc ms cs L r I G | .ref _ :: r => f mc ms cs L r I G | _ => False)
  | .ifCond c _ => (match st, ax with | .int x :: r, t :: _ => (sx_cc c x 0 → f mc ms (sx_at cd t) L r I G) ∧ (sx_cn c x 0 → f mc ms cs L r I G) | _, _ => False)
  | .if_icmp c _ => (match st, ax with | .int y :: .int x :: r, t :: _ => (sx_cc c x y → f mc ms (sx_at cd t) L r I G) ∧ (sx_cn c x y → f mc ms cs L r I G) | _, _ => False)
  | .goto _ => (match ax with | t :: _ => f mc ms (sx_at cd t) L st I G | _ => False)
  | .ifnonnull _ => (match st, ax with | .ref _ :: r, t :: _ => f mc ms (sx_at cd t) L r I G | .null :: r, _ :: _ => f mc ms cs L r I G | _, _ => False)
  | .tableswitch _ _ _ _ => (match st, ax with | .int x :: r, lo :: t :: ts => sx_tsw x (fun t => f mc ms (sx_at cd t) L r I G) t lo ts | _, _ => False)
  | .lookupswitch _ _ => (match st, ax with | .int x :: r, t :: ts => sx_lsw x (fun t => f mc ms (sx_at cd t) L r I G) t ts | _, _ => False)
  | .getfield _ => (match st, ax with
    | .ref a :: r, ci :: k :: q :: _ => (match sx_al G a, sx_sh G a with
      | true, (0, ci2, _) => (match Nat.beq ci ci2, q with
        | true, 1 => (match G.1 a k with | some b => f mc ms cs L (.ref b :: r) I G | none => f mc ms cs L (.null :: r) I G)
        | true, _ => f mc ms cs L (.int (I a k) :: r) I G
        | false, _ => False)
      | true, (2, i, _) => (match Nat.beq ci 100, q with
        | true, 1 => f mc ms cs L (.ref (8 + i) :: r) I G
        | true, _ => f mc ms cs L (.int 0 :: r) I G
        | false, _ => False)
      | _, _ => False)
    | _, _ => False)
  | .putfield _ => (match st, ax with
    | v :: .ref a :: r, ci :: k :: q :: _ => (match sx_al G a, sx_sh G a with
      | true, (0, ci2, _) => (match Nat.beq ci ci2, q, v with
        | true, 1, .ref b => f mc ms cs L r I (sx_upR G.1 a (fun i => if i = k then some b else G.1 a i), G.2)
        | true, 0, .int x => f mc ms cs L r (sx_up I a (upd (I a) k x)) G
        | true, 2, .int x => (x = 0 ∨ x = 1) ∧ f mc ms cs L r (sx_up I a (upd (I a) k x)) G
        | _, _, _ => False)
      | _, _ => False)
    | _, _ => False)
  | .iaload => (match st with
    | .int i :: .ref a :: r => (match sx_al G a, sx_sh G a with
      | true, (1, 0, n) => ∃ k : Nat, (i = nI k ∧ k < n) ∧ (match Nat.ble a 13 with | true => f mc ms cs L (.int (sx_rom a k) :: r) I G | false => f mc ms cs L (.int (I a k) :: r) I G)
      | _, _ => False)
    | _ => False)
  | .baload => (match st with
    | .int i :: .ref a :: r => (match sx_al G a, sx_sh G a with
      | true, (1, 1, n) => ∃ k : Nat, (i = nI k ∧ k < n) ∧ (match Nat.ble a 13 with | true => f mc ms cs L (.int (sx_rom a k) :: r) I G | false => f mc ms cs L (.int (I a k) :: r) I G)
      | true, (1, 2, n) => ∃ k : Nat, (i = nI k ∧ k < n) ∧ f mc ms cs L (.int (I a k) :: r) I G
      | _, _ => False)
    | _ => False)
  | .iastore => (match st with
    | .int x :: .int i :: .ref a :: r => (match sx_al G a, sx_sh G a, Nat.ble a 14 with
      | true, (1, 0, n), false => ∃ k : Nat, (i = nI k ∧ k < n) ∧ f mc ms cs L r (sx_up I a (upd (I a) k x)) G
      | _, _, _ => False)
    | _ => False)
  | .bastore => (match st with
    | .int x :: .int i :: .ref a :: r => (match sx_al G a, sx_sh G a, Nat.ble a 14 with
      | true, (1, 1, n), false => ∃ k : Nat, (i = nI k ∧ k < n) ∧ f mc ms cs L r (sx_up I a (upd (I a) k x.toInt8.toInt32)) G
      | true, (1, 2, n), false => ∃ k : Nat, (i = nI k ∧ k < n) ∧ f mc ms cs L r (sx_up I a (upd (I a) k (vp_nar .boolean x))) G
      | _, _, _ => False)
    | _ => False)
  | .aaload => (match st with
    | .int i :: .ref a :: r => (match sx_al G a, sx_sh G a with
      | true, (1, t, n) => (match Nat.ble 3 t with
        | true => ∃ k : Nat, (i = nI k ∧ k < n) ∧ (∀ b : Nat, G.1 a k = some b → f mc ms cs L (.ref b :: r) I G) ∧ (G.1 a k = none → f mc ms cs L (.null :: r) I G)
        | false => False)
      | _, _ => False)
    | _ => False)
  | .aastore => (match st with
    | .ref v :: .int i :: .ref a :: r => (match sx_al G a, sx_sh G a, sx_al G v, sx_sh G v with
      | true, (1, t, n), true, (0, ci, _) => (match t, ci with
        | 3, 5 => ∃ k : Nat, (i = nI k ∧ k < n) ∧ f mc ms cs L r I (sx_upR G.1 a (fun i => if i = k then some v else G.1 a i), G.2)
        | 4, 3 => ∃ k : Nat, (i = nI k ∧ k < n) ∧ f mc ms cs L r I (sx_upR G.1 a (fun i => if i = k then some v else G.1 a i), G.2)
        | 5, 4 => ∃ k : Nat, (i = nI k ∧ k < n) ∧ f mc ms cs L r I (sx_upR G.1 a (fun i => if i = k then some v else G.1 a i), G.2)
        | _, _ => False)
      | _, _, _, _ => False)
    | .null :: .int i :: .ref a :: r => (match sx_al G a, sx_sh G a with
      | true, (1, t, n) => (match Nat.ble 3 t with
        | true => ∃ k : Nat, (i = nI k ∧ k < n) ∧ f mc ms cs L r I (sx_upR G.1 a (fun i => if i = k then none else G.1 a i), G.2)
        | false => False)
      | _, _ => False)
    | _ => False)
  | .arraylength => (match st with
    | .ref a :: r => (match sx_al G a, sx_sh G a with
      | true, (1, _, n) => f mc ms cs L (.int (nI n) :: r) I G
      | _, _ => False)
    | _ => False)
  | .ret _ => (match st with
    | .int n :: .int dp :: .ref b :: .int sp :: .ref a :: r => (match sx_al G a, sx_sh G a, sx_al G b, sx_sh G b, Nat.ble b 14, Nat.ble r.length 4 with
      | true, (1, 0, na), true, (1, 0, nb), false, true => ∃ (kn ks kd : Nat), (n = nI kn ∧ sp = nI ks ∧ dp = nI kd ∧ ks + kn ≤ na ∧ kd + kn ≤ nb) ∧ 15 ≤ a ∧ f mc ms cs L r (sx_up I b (va_cpy (I a) (I b) ks kd kn)) G
      | _, _, _, _, _, _ => False)
    | _ => False)
  | .jsr _ => (match st with | .ref _ :: r => (match Nat.ble r.length 4 with | true => f mc ms cs L r I G | false => False) | _ => False)
  | .new _ => (match ax with
    | ci :: N :: _ => (match G.2.1, Nat.ble 1 mc, Nat.ble N ms with
      | .inl n, true, true => (match sx_shL n with
        | (lab, 0, ci2, N2) => (match Nat.beq ci ci2 && Nat.beq N N2 && Nat.ble n 99 && Nat.ble 15 n with
          | true => f (mc - 1) (ms - N) cs L (.ref lab :: st) (sx_up I lab (fun _ => 0)) (sx_upR G.1 lab (fun _ => none), .inl (n + 1), G.2.2)
          | false => False)
        | _ => False)
      | .inr m, true, true => (m % 3 = 0 ∧ ci = 5 ∧ N = 4) ∧ f (mc - 1) (ms - N) cs L (.ref (200 + m) :: st) (sx_up I (200 + m) (fun _ => 0)) (sx_upR G.1 (200 + m) (fun _ => none), .inr (m + 1), G.2.2)
      | _, _, _ => False)
    | _ => False)
  | .newarray _ => (match st, ax with
    | .int x :: r, t :: N :: _ => (match G.2.1, Nat.ble 1 mc, Nat.ble N ms with
      | .inl n, true, true => (match sx_shL n with
        | (lab, 1, t2, N2) => (match Nat.beq t t2 && Nat.beq N N2 && Nat.ble n 99 && Nat.ble 15 n with
          | true => x = nI N ∧ f (mc - 1) (ms - N) cs L (.ref lab :: r) (sx_up I lab (fun _ => 0)) (G.1, .inl (n + 1), G.2.2)
          | false => False)
        | _ => False)
      | .inr m, true, true => ∃ k : Nat, (x = nI k ∧ k ≤ N ∧ ¬ m % 3 = 0 ∧ t = 0 ∧ N < 65536) ∧ f (mc - 1) (ms - N) cs L (.ref (200 + m) :: r) (sx_up I (200 + m) (fun _ => 0)) (G.1, .inr (m + 1), fun i => if i = 200 + m then k else G.2.2 i)
      | _, _, _ => False)
    | _, _ => False)
  | .anewarray _ => (match st, ax with
    | .int x :: r, t :: N :: _ => (match G.2.1, Nat.ble 1 mc, Nat.ble N ms with
      | .inl n, true, true => (match sx_shL n with
        | (lab, 1, t2, N2) => (match Nat.beq t t2 && Nat.beq N N2 && Nat.ble n 99 && Nat.ble 15 n with
          | true => x = nI N ∧ f (mc - 1) (ms - N) cs L (.ref lab :: r) I (sx_upR G.1 lab (fun _ => none), .inl (n + 1), G.2.2)
          | false => False)
        | _ => False)
      | _, _, _ => False)
    | _, _ => False)
  | .invokestatic _ => (match ax with
    | t :: n :: c1 :: c2 :: _ => (match sx_pop n st [], Nat.ble c1 mc && Nat.ble c2 ms with
      | some (as, r), true => (match Nat.ble r.length 4 with
        | true => CC t as I G (fun v I2 G2 => f (mc - c1) (ms - c2) cs L (sx_psh v r) I2 G2)
        | false => False)
      | _, _ => False)
    | _ => False)
  | .invokespecial _ => (match ax with
    | t :: n :: c1 :: c2 :: _ => (match sx_pop n st [], Nat.ble c1 mc && Nat.ble c2 ms with
      | some (.ref a :: as, r), true => (match Nat.ble r.length 4 with
        | true => CC t (.ref a :: as) I G (fun v I2 G2 => f (mc - c1) (ms - c2) cs L (sx_psh v r) I2 G2)
        | false => False)
      | _, _ => False)
    | _ => False)
  | .invokevirtual _ => (match ax with
    | t :: n :: c1 :: c2 :: ci :: _ => (match sx_pop n st [], Nat.ble c1 mc && Nat.ble c2 ms with
      | some (.ref a :: as, r), true => (match Nat.ble r.length 4, sx_al G a, sx_sh G a with
        | true, true, (0, ci2, _) => (match Nat.beq ci ci2 with
          | true => CC t (.ref a :: as) I G (fun v I2 G2 => f (mc - c1) (ms - c2) cs L (sx_psh v r) I2 G2)
          | false => False)
        | true, true, (2, _, _) => (match Nat.beq ci 100 with
          | true => CC t (.ref a :: as) I G (fun v I2 G2 => f (mc - c1) (ms - c2) cs L (sx_psh v r) I2 G2)
          | false => False)
        | _, _, _ => False)
      | _, _ => False)
    | _ => False)
  | .ireturn => (match st, ax with
    | [.int x], 0 :: _ => K (some (.int x)) I G
    | [.int x], t :: _ => sx_nrw t x ∧ K (some (.int x)) I G
    | _, _ => False)
  | .areturn => (match st with | [.ref a] => K (some (.ref a)) I G | [.null] => K (some .null) I G | _ => False)
  | .return_ => (match st with | [] => K none I G | _ => False)
  | .monitorenter => VV mc ms pc (sx_lv L ax) st I G
  | _ => False
def sx_symG (VV : sx_VT) (CC : sx_CT) (K : sx_K) (cd : List sx_E) : Nat → sx_T
  | 0 => fun mc ms cs L st I G => match cs with
    | [] => False
    | e :: _ => VV mc ms e.2.1 L st I G
  | n + 1 => fun mc ms cs L st I G => match cs with
    | [] => False
    | (op, pc, _, ax, cv) :: cs => sx_stepG VV CC K cd (sx_symG VV CC K cd n) op pc ax cv cs mc ms L st I G
def sx_step (j d : Nat) (K : sx_K) (cd : List sx_E) (f : sx_T) (op : Instr) (pc : Nat) (ax : List Nat) (cv : Value) (cs : List sx_E) (mc ms : Nat) (L : sx_L) (st : List Value) (I : sx_I) (G : sx_G) : Prop :=
  sx_stepG (fun mc ms pc L st I G => sx_V j (d + 1) mc ms K pc L st I G) (fun t as I G K2 => sx_C t d as I G K2) K cd f op pc ax cv cs mc ms L st I G
abbrev sx_sym (j d : Nat) (K : sx_K) (cd : List sx_E) : Nat → sx_T := sx_symG (fun mc ms pc L st I G => sx_V j (d + 1) mc ms K pc L st I G) (fun t as I G K2 => sx_C t d as I G K2) K cd
