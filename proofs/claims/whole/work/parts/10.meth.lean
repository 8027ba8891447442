abbrev M_X1_init : MD := (yX1_init, cX1_init, 1, none, { frames := 1, cells := 1, slots := 160, locals := 20 })
abbrev M_J7_fill_53178 : MD := (yJ7_fill_53178, cJ7_fill_53178, 4, none, { frames := 0, cells := 0, slots := 0, locals := 0 })
abbrev M_X2_init : MD := (yX2_init, cX2_init, 1, none, { frames := 1, cells := 6, slots := 48, locals := 23 })
abbrev M_X3_init : MD := (yX3_init, cX3_init, 1, none, { frames := 1, cells := 9, slots := 57, locals := 23 })
abbrev M_X0_init : MD := (yX0_init, cX0_init, 1, none, { frames := 1, cells := 3, slots := 18, locals := 20 })
abbrev M_X4_init : MD := (yX4_init, cX4_init, 2, none, { frames := 2, cells := 144, slots := 1227, locals := 43 })
abbrev M_X5_blank : MD := (yX5_blank, cX5_blank, 2, none, { frames := 0, cells := 0, slots := 0, locals := 0 })
abbrev M_X5_begins : MD := (yX5_begins, cX5_begins, 2, none, { frames := 0, cells := 0, slots := 0, locals := 0 })
abbrev M_X5_init : MD := (yX5_init, cX5_init, 1, none, { frames := 1, cells := 12, slots := 919, locals := 21 })
abbrev M_X1_append : MD := (yX1_append, cX1_append, 2, none, { frames := 0, cells := 0, slots := 0, locals := 0 })
abbrev M_X4_write : MD := (yX4_write, cX4_write, 2, (some .int), { frames := 1, cells := 0, slots := 0, locals := 21 })
abbrev M_X5_in : MD := (yX5_in, cX5_in, 6, (some .boolean), { frames := 0, cells := 0, slots := 0, locals := 0 })
abbrev M_X5_write : MD := (yX5_write, cX5_write, 2, (some .int), { frames := 1, cells := 0, slots := 0, locals := 25 })
abbrev M_X4_erase : MD := (yX4_erase, cX4_erase, 2, (some .int), { frames := 0, cells := 0, slots := 0, locals := 0 })
abbrev M_X5_erase : MD := (yX5_erase, cX5_erase, 2, (some .int), { frames := 0, cells := 0, slots := 0, locals := 0 })
abbrev M_X2_copyFrom : MD := (yX2_copyFrom, cX2_copyFrom, 2, none, { frames := 1, cells := 0, slots := 0, locals := 26 })
abbrev M_X1_isSmall : MD := (yX1_isSmall, cX1_isSmall, 1, (some .boolean), { frames := 0, cells := 0, slots := 0, locals := 0 })
abbrev M_X1_isDigit : MD := (yX1_isDigit, cX1_isDigit, 1, (some .boolean), { frames := 0, cells := 0, slots := 0, locals := 0 })
abbrev M_X1_nextToken : MD := (yX1_nextToken, cX1_nextToken, 1, none, { frames := 1, cells := 0, slots := 0, locals := 20 })
abbrev M_J0_coder_7d493 : MD := (yJ0_coder_7d493, cJ0_coder_7d493, 1, (some .byte), { frames := 0, cells := 0, slots := 0, locals := 0 })
abbrev M_J0_length_8abf5 : MD := (yJ0_length_8abf5, cJ0_length_8abf5, 1, (some .int), { frames := 1, cells := 0, slots := 0, locals := 20 })
abbrev M_J0_isLatin1_aae02 : MD := (yJ0_isLatin1_aae02, cJ0_isLatin1_aae02, 1, (some .boolean), { frames := 0, cells := 0, slots := 0, locals := 0 })
abbrev M_J3_checkIndex_8e157 : MD := (yJ3_checkIndex_8e157, cJ3_checkIndex_8e157, 3, (some .int), { frames := 0, cells := 0, slots := 0, locals := 0 })
abbrev M_J0_checkIndex_df160 : MD := (yJ0_checkIndex_df160, cJ0_checkIndex_df160, 2, none, { frames := 1, cells := 0, slots := 0, locals := 22 })
abbrev M_J1_charAt_3b067 : MD := (yJ1_charAt_3b067, cJ1_charAt_3b067, 2, (some .char), { frames := 2, cells := 0, slots := 0, locals := 43 })
abbrev M_J0_charAt_5068e : MD := (yJ0_charAt_5068e, cJ0_charAt_5068e, 2, (some .char), { frames := 3, cells := 0, slots := 0, locals := 64 })
abbrev M_X1_reads : MD := (yX1_reads, cX1_reads, 3, (some .boolean), { frames := 4, cells := 0, slots := 0, locals := 85 })
abbrev M_X2_clearNews : MD := (yX2_clearNews, cX2_clearNews, 1, none, { frames := 1, cells := 0, slots := 0, locals := 23 })
abbrev M_X2_clear : MD := (yX2_clear, cX2_clear, 1, none, { frames := 2, cells := 0, slots := 0, locals := 43 })
abbrev M_X1_nextNumber : MD := (yX1_nextNumber, cX1_nextNumber, 5, (some .int), { frames := 2, cells := 0, slots := 0, locals := 40 })
abbrev M_X2_addPlace : MD := (yX2_addPlace, cX2_addPlace, 4, none, { frames := 0, cells := 0, slots := 0, locals := 0 })
abbrev M_X1_readPlace : MD := (yX1_readPlace, cX1_readPlace, 5, (some .boolean), { frames := 3, cells := 0, slots := 0, locals := 64 })
abbrev M_X1_readNews : MD := (yX1_readNews, cX1_readNews, 4, (some .boolean), { frames := 3, cells := 0, slots := 0, locals := 64 })
abbrev M_X1_kindRead : MD := (yX1_kindRead, cX1_kindRead, 1, (some .int), { frames := 5, cells := 0, slots := 0, locals := 107 })
abbrev M_X2_addHen : MD := (yX2_addHen, cX2_addHen, 3, none, { frames := 0, cells := 0, slots := 0, locals := 0 })
abbrev M_X1_readHen : MD := (yX1_readHen, cX1_readHen, 4, (some .boolean), { frames := 3, cells := 0, slots := 0, locals := 64 })
abbrev M_X1_readClause : MD := (yX1_readClause, cX1_readClause, 3, (some .boolean), { frames := 6, cells := 0, slots := 0, locals := 127 })
abbrev M_X1_readInto : MD := (yX1_readInto, cX1_readInto, 3, (some .int), { frames := 7, cells := 0, slots := 0, locals := 149 })
abbrev M_X4_fault : MD := (yX4_fault, cX4_fault, 1, (some .int), { frames := 8, cells := 0, slots := 0, locals := 171 })
abbrev M_X5_copies : MD := (yX5_copies, cX5_copies, 6, none, { frames := 0, cells := 0, slots := 0, locals := 0 })
abbrev M_X5_here : MD := (yX5_here, cX5_here, 1, (some .int), { frames := 0, cells := 0, slots := 0, locals := 0 })
abbrev M_X5_step : MD := (yX5_step, cX5_step, 2, none, { frames := 1, cells := 0, slots := 0, locals := 25 })
abbrev M_X5_anew : MD := (yX5_anew, cX5_anew, 1, (some .boolean), { frames := 1, cells := 0, slots := 0, locals := 21 })
abbrev M_X5_number : MD := (yX5_number, cX5_number, 2, (some .boolean), { frames := 2, cells := 0, slots := 0, locals := 46 })
abbrev M_X5_readsPlace : MD := (yX5_readsPlace, cX5_readsPlace, 2, (some .boolean), { frames := 3, cells := 0, slots := 0, locals := 67 })
abbrev M_X5_readsNews : MD := (yX5_readsNews, cX5_readsNews, 2, (some .boolean), { frames := 3, cells := 0, slots := 0, locals := 67 })
abbrev M_X5_calm : MD := (yX5_calm, cX5_calm, 2, (some .boolean), { frames := 0, cells := 0, slots := 0, locals := 0 })
abbrev M_X5_readsHen : MD := (yX5_readsHen, cX5_readsHen, 3, (some .boolean), { frames := 3, cells := 0, slots := 0, locals := 67 })
abbrev M_X5_readsClause : MD := (yX5_readsClause, cX5_readsClause, 4, (some .boolean), { frames := 4, cells := 0, slots := 0, locals := 89 })
abbrev M_X5_reads : MD := (yX5_reads, cX5_reads, 2, (some .int), { frames := 5, cells := 0, slots := 0, locals := 112 })
abbrev M_X5_fault : MD := (yX5_fault, cX5_fault, 1, (some .int), { frames := 6, cells := 0, slots := 0, locals := 133 })
abbrev M_X3_beginAs : MD := (yX3_beginAs, cX3_beginAs, 2, none, { frames := 1, cells := 0, slots := 0, locals := 26 })
abbrev M_X4_yard : MD := (yX4_yard, cX4_yard, 2, (some .int), { frames := 8, cells := 0, slots := 0, locals := 171 })
abbrev M_X5_yard : MD := (yX5_yard, cX5_yard, 1, (some .int), { frames := 6, cells := 0, slots := 0, locals := 133 })
abbrev M_X4_isPlace : MD := (yX4_isPlace, cX4_isPlace, 2, (some .boolean), { frames := 0, cells := 0, slots := 0, locals := 0 })
abbrev M_X4_place : MD := (yX4_place, cX4_place, 3, (some .int), { frames := 1, cells := 0, slots := 0, locals := 21 })
abbrev M_X5_isPlace : MD := (yX5_isPlace, cX5_isPlace, 2, (some .boolean), { frames := 1, cells := 0, slots := 0, locals := 25 })
abbrev M_X5_place : MD := (yX5_place, cX5_place, 3, (some .int), { frames := 2, cells := 0, slots := 0, locals := 46 })
abbrev M_X4_isHen : MD := (yX4_isHen, cX4_isHen, 2, (some .boolean), { frames := 0, cells := 0, slots := 0, locals := 0 })
abbrev M_X4_hen : MD := (yX4_hen, cX4_hen, 3, (some .int), { frames := 1, cells := 0, slots := 0, locals := 21 })
abbrev M_X5_isHen : MD := (yX5_isHen, cX5_isHen, 2, (some .boolean), { frames := 1, cells := 0, slots := 0, locals := 25 })
abbrev M_X5_hen : MD := (yX5_hen, cX5_hen, 3, (some .int), { frames := 2, cells := 0, slots := 0, locals := 46 })
abbrev M_X4_news : MD := (yX4_news, cX4_news, 2, (some .int), { frames := 0, cells := 0, slots := 0, locals := 0 })
abbrev M_X5_news : MD := (yX5_news, cX5_news, 2, (some .int), { frames := 1, cells := 0, slots := 0, locals := 25 })
abbrev M_X4_isUnder : MD := (yX4_isUnder, cX4_isUnder, 2, (some .boolean), { frames := 0, cells := 0, slots := 0, locals := 0 })
abbrev M_X3_likes : MD := (yX3_likes, cX3_likes, 6, (some .int), { frames := 0, cells := 0, slots := 0, locals := 0 })
abbrev M_X4_as : MD := (yX4_as, cX4_as, 3, (some .int), { frames := 1, cells := 0, slots := 0, locals := 25 })
abbrev M_X5_asTold : MD := (yX5_asTold, cX5_asTold, 1, none, { frames := 1, cells := 0, slots := 0, locals := 25 })
abbrev M_X5_likes : MD := (yX5_likes, cX5_likes, 5, (some .int), { frames := 0, cells := 0, slots := 0, locals := 0 })
abbrev M_X5_as : MD := (yX5_as, cX5_as, 5, (some .int), { frames := 2, cells := 0, slots := 0, locals := 46 })
abbrev M_X4_dropOldest : MD := (yX4_dropOldest, cX4_dropOldest, 3, none, { frames := 0, cells := 0, slots := 0, locals := 0 })
abbrev M_X3_copyFrom : MD := (yX3_copyFrom, cX3_copyFrom, 2, none, { frames := 1, cells := 0, slots := 0, locals := 26 })
abbrev M_X4_remember : MD := (yX4_remember, cX4_remember, 1, none, { frames := 2, cells := 0, slots := 0, locals := 47 })
abbrev M_X3_laysToday : MD := (yX3_laysToday, cX3_laysToday, 2, (some .boolean), { frames := 0, cells := 0, slots := 0, locals := 0 })
abbrev M_X3_favourite : MD := (yX3_favourite, cX3_favourite, 7, (some .int), { frames := 1, cells := 0, slots := 0, locals := 25 })
abbrev M_J9_floorMod_7cf53 : MD := (yJ9_floorMod_7cf53, cJ9_floorMod_7cf53, 3, (some .int), { frames := 0, cells := 0, slots := 0, locals := 0 })
abbrev M_X2_newsOf : MD := (yX2_newsOf, cX2_newsOf, 2, (some .int), { frames := 1, cells := 0, slots := 0, locals := 22 })
abbrev M_X3_layEgg : MD := (yX3_layEgg, cX3_layEgg, 5, none, { frames := 0, cells := 0, slots := 0, locals := 0 })
abbrev M_X3_passDay : MD := (yX3_passDay, cX3_passDay, 4, none, { frames := 2, cells := 0, slots := 0, locals := 51 })
abbrev M_X3_eggBits : MD := (yX3_eggBits, cX3_eggBits, 3, (some .int), { frames := 0, cells := 0, slots := 0, locals := 0 })
abbrev M_X4_day : MD := (yX4_day, cX4_day, 1, (some .int), { frames := 3, cells := 0, slots := 0, locals := 74 })
abbrev M_X5_remember : MD := (yX5_remember, cX5_remember, 2, none, { frames := 1, cells := 0, slots := 0, locals := 25 })
abbrev M_X5_bestOf : MD := (yX5_bestOf, cX5_bestOf, 6, (some .int), { frames := 1, cells := 0, slots := 0, locals := 24 })
abbrev M_X5_goes : MD := (yX5_goes, cX5_goes, 8, (some .int), { frames := 2, cells := 0, slots := 0, locals := 49 })
abbrev M_X5_day : MD := (yX5_day, cX5_day, 1, (some .int), { frames := 3, cells := 0, slots := 0, locals := 76 })
abbrev M_X4_thunder : MD := (yX4_thunder, cX4_thunder, 2, (some .int), { frames := 3, cells := 0, slots := 0, locals := 67 })
abbrev M_X5_thunder : MD := (yX5_thunder, cX5_thunder, 2, (some .int), { frames := 2, cells := 0, slots := 0, locals := 46 })
abbrev M_X4_straw : MD := (yX4_straw, cX4_straw, 4, (some .int), { frames := 3, cells := 0, slots := 0, locals := 67 })
abbrev M_X5_straw : MD := (yX5_straw, cX5_straw, 4, (some .int), { frames := 2, cells := 0, slots := 0, locals := 46 })
abbrev M_X4_move : MD := (yX4_move, cX4_move, 4, (some .int), { frames := 3, cells := 0, slots := 0, locals := 67 })
abbrev M_X5_moves : MD := (yX5_moves, cX5_moves, 4, none, { frames := 0, cells := 0, slots := 0, locals := 0 })
abbrev M_X5_move : MD := (yX5_move, cX5_move, 3, (some .int), { frames := 2, cells := 0, slots := 0, locals := 46 })
abbrev M_X4_eat : MD := (yX4_eat, cX4_eat, 2, (some .int), { frames := 3, cells := 0, slots := 0, locals := 67 })
abbrev M_X5_eat : MD := (yX5_eat, cX5_eat, 2, (some .int), { frames := 2, cells := 0, slots := 0, locals := 46 })
abbrev M_X4_heed : MD := (yX4_heed, cX4_heed, 2, (some .int), { frames := 3, cells := 0, slots := 0, locals := 67 })
abbrev M_X5_heed : MD := (yX5_heed, cX5_heed, 2, (some .int), { frames := 2, cells := 0, slots := 0, locals := 46 })
abbrev M_X4_undo : MD := (yX4_undo, cX4_undo, 1, (some .int), { frames := 2, cells := 0, slots := 0, locals := 47 })
abbrev M_X5_undo : MD := (yX5_undo, cX5_undo, 1, (some .int), { frames := 1, cells := 0, slots := 0, locals := 25 })
abbrev M_X4_keep : MD := (yX4_keep, cX4_keep, 2, (some .int), { frames := 2, cells := 0, slots := 0, locals := 47 })
abbrev M_X5_isTwo : MD := (yX5_isTwo, cX5_isTwo, 1, (some .boolean), { frames := 1, cells := 0, slots := 0, locals := 25 })
abbrev M_X5_keep : MD := (yX5_keep, cX5_keep, 2, (some .int), { frames := 2, cells := 0, slots := 0, locals := 45 })
abbrev M_X4_back : MD := (yX4_back, cX4_back, 2, (some .int), { frames := 2, cells := 0, slots := 0, locals := 47 })
abbrev M_X5_back : MD := (yX5_back, cX5_back, 2, (some .int), { frames := 2, cells := 0, slots := 0, locals := 45 })
abbrev M_X4_foretell : MD := (yX4_foretell, cX4_foretell, 3, none, { frames := 3, cells := 0, slots := 0, locals := 74 })
abbrev M_X3_placeOfEgg : MD := (yX3_placeOfEgg, cX3_placeOfEgg, 3, (some .int), { frames := 0, cells := 0, slots := 0, locals := 0 })
abbrev M_X4_lays : MD := (yX4_lays, cX4_lays, 3, (some .int), { frames := 4, cells := 0, slots := 0, locals := 96 })
abbrev M_X5_layAside : MD := (yX5_layAside, cX5_layAside, 1, none, { frames := 1, cells := 0, slots := 0, locals := 25 })
abbrev M_X5_go : MD := (yX5_go, cX5_go, 4, none, { frames := 3, cells := 0, slots := 0, locals := 76 })
abbrev M_X5_lays : MD := (yX5_lays, cX5_lays, 3, (some .int), { frames := 4, cells := 0, slots := 0, locals := 99 })
abbrev M_X4_rightsForetold : MD := (yX4_rightsForetold, cX4_rightsForetold, 2, (some .int), { frames := 0, cells := 0, slots := 0, locals := 0 })
abbrev M_X4_rights : MD := (yX4_rights, cX4_rights, 3, (some .int), { frames := 4, cells := 0, slots := 0, locals := 96 })
abbrev M_X5_rights : MD := (yX5_rights, cX5_rights, 3, (some .int), { frames := 4, cells := 0, slots := 0, locals := 99 })
abbrev M_X4_ask : MD := (yX4_ask, cX4_ask, 6, (some .int), { frames := 4, cells := 0, slots := 0, locals := 96 })
abbrev M_X5_ask : MD := (yX5_ask, cX5_ask, 7, (some .int), { frames := 4, cells := 0, slots := 0, locals := 99 })
abbrev M_X4_hitIndex : MD := (yX4_hitIndex, cX4_hitIndex, 2, (some .int), { frames := 0, cells := 0, slots := 0, locals := 0 })
abbrev M_X4_tallyEggs : MD := (yX4_tallyEggs, cX4_tallyEggs, 3, none, { frames := 1, cells := 0, slots := 0, locals := 21 })
abbrev M_X4_tallyHits : MD := (yX4_tallyHits, cX4_tallyHits, 4, none, { frames := 3, cells := 0, slots := 0, locals := 74 })
abbrev M_X4_gainOfMove : MD := (yX4_gainOfMove, cX4_gainOfMove, 5, (some .int), { frames := 1, cells := 0, slots := 0, locals := 21 })
abbrev M_X4_trough : MD := (yX4_trough, cX4_trough, 7, (some .int), { frames := 4, cells := 0, slots := 0, locals := 97 })
abbrev M_X5_rightsOfAll : MD := (yX5_rightsOfAll, cX5_rightsOfAll, 4, (some .int), { frames := 0, cells := 0, slots := 0, locals := 0 })
abbrev M_X5_trough : MD := (yX5_trough, cX5_trough, 7, (some .int), { frames := 4, cells := 0, slots := 0, locals := 99 })
abbrev M_X4_warmth : MD := (yX4_warmth, cX4_warmth, 4, (some .int), { frames := 3, cells := 0, slots := 0, locals := 74 })
abbrev M_X5_warmth : MD := (yX5_warmth, cX5_warmth, 4, (some .int), { frames := 4, cells := 0, slots := 0, locals := 99 })
abbrev M_X0_add : MD := (yX0_add, cX0_add, 4, none, { frames := 0, cells := 0, slots := 0, locals := 0 })
abbrev M_X4_seen : MD := (yX4_seen, cX4_seen, 4, (some .int), { frames := 1, cells := 0, slots := 0, locals := 23 })
abbrev M_X5_seen : MD := (yX5_seen, cX5_seen, 4, (some .int), { frames := 2, cells := 0, slots := 0, locals := 46 })
abbrev M_X4_forget : MD := (yX4_forget, cX4_forget, 2, (some .int), { frames := 0, cells := 0, slots := 0, locals := 0 })
abbrev M_X5_forget : MD := (yX5_forget, cX5_forget, 2, (some .int), { frames := 0, cells := 0, slots := 0, locals := 0 })
abbrev M_J9_max_7cf53 : MD := (yJ9_max_7cf53, cJ9_max_7cf53, 2, (some .int), { frames := 0, cells := 0, slots := 0, locals := 0 })
abbrev M_X0_lastDayOf : MD := (yX0_lastDayOf, cX0_lastDayOf, 4, (some .int), { frames := 1, cells := 0, slots := 0, locals := 21 })
abbrev M_X0_agree : MD := (yX0_agree, cX0_agree, 5, (some .boolean), { frames := 0, cells := 0, slots := 0, locals := 0 })
abbrev M_X4_wouldBeSeen : MD := (yX4_wouldBeSeen, cX4_wouldBeSeen, 6, (some .boolean), { frames := 3, cells := 0, slots := 0, locals := 74 })
abbrev M_X4_kinds : MD := (yX4_kinds, cX4_kinds, 4, (some .int), { frames := 4, cells := 0, slots := 0, locals := 99 })
abbrev M_X5_comes : MD := (yX5_comes, cX5_comes, 6, (some .boolean), { frames := 4, cells := 0, slots := 0, locals := 99 })
abbrev M_X5_kinds : MD := (yX5_kinds, cX5_kinds, 4, (some .int), { frames := 5, cells := 0, slots := 0, locals := 124 })
abbrev M_X4_habits : MD := (yX4_habits, cX4_habits, 4, (some .int), { frames := 4, cells := 0, slots := 0, locals := 99 })
abbrev M_X5_habits : MD := (yX5_habits, cX5_habits, 4, (some .int), { frames := 5, cells := 0, slots := 0, locals := 124 })
abbrev M_X4_daysToFirstRight : MD := (yX4_daysToFirstRight, cX4_daysToFirstRight, 4, (some .int), { frames := 3, cells := 0, slots := 0, locals := 74 })
abbrev M_X4_power : MD := (yX4_power, cX4_power, 4, (some .int), { frames := 0, cells := 0, slots := 0, locals := 0 })
abbrev M_X4_commonDivisor : MD := (yX4_commonDivisor, cX4_commonDivisor, 6, (some .int), { frames := 0, cells := 0, slots := 0, locals := 0 })
abbrev M_X4_foxes : MD := (yX4_foxes, cX4_foxes, 9, (some .int), { frames := 4, cells := 0, slots := 0, locals := 97 })
abbrev M_X5_foxes : MD := (yX5_foxes, cX5_foxes, 16, (some .int), { frames := 4, cells := 0, slots := 0, locals := 99 })
abbrev M_X4_sum : MD := (yX4_sum, cX4_sum, 3, (some .int), { frames := 0, cells := 0, slots := 0, locals := 0 })
abbrev M_X4_count : MD := (yX4_count, cX4_count, 2, (some .int), { frames := 1, cells := 0, slots := 0, locals := 22 })
abbrev M_X5_count : MD := (yX5_count, cX5_count, 6, (some .int), { frames := 0, cells := 0, slots := 0, locals := 0 })
abbrev M_L_law : MD := (yL_law, cL_law, 4, ret, room_1)
theorem v_X1_init : CI0 M_X1_init 0 := ⟨⟨lw_g_of (by decide +kernel) (by decide +kernel), lw_g_of (by decide +kernel) (by decide +kernel), ⟨by decide +kernel, by decide +kernel, by decide +kernel⟩, by decide +kernel, by decide +kernel⟩, lw_g_of (by decide +kernel) (by decide +kernel), rfl⟩
theorem v_J7_fill_53178 : CS0 M_J7_fill_53178 2 := ⟨⟨lw_g_of (by decide +kernel) (by decide +kernel), lw_g_of (by decide +kernel) (by decide +kernel), ⟨by decide +kernel, by decide +kernel, by decide +kernel⟩, by decide +kernel, by decide +kernel⟩, lw_g_of (by decide +kernel) (by decide +kernel)⟩
theorem v_X2_init : CI0 M_X2_init 0 := ⟨⟨lw_g_of (by decide +kernel) (by decide +kernel), lw_g_of (by decide +kernel) (by decide +kernel), ⟨by decide +kernel, by decide +kernel, by decide +kernel⟩, by decide +kernel, by decide +kernel⟩, lw_g_of (by decide +kernel) (by decide +kernel), rfl⟩
theorem v_X3_init : CI0 M_X3_init 0 := ⟨⟨lw_g_of (by decide +kernel) (by decide +kernel), lw_g_of (by decide +kernel) (by decide +kernel), ⟨by decide +kernel, by decide +kernel, by decide +kernel⟩, by decide +kernel, by decide +kernel⟩, lw_g_of (by decide +kernel) (by decide +kernel), rfl⟩
theorem v_X0_init : CI0 M_X0_init 0 := ⟨⟨lw_g_of (by decide +kernel) (by decide +kernel), lw_g_of (by decide +kernel) (by decide +kernel), ⟨by decide +kernel, by decide +kernel, by decide +kernel⟩, by decide +kernel, by decide +kernel⟩, lw_g_of (by decide +kernel) (by decide +kernel), rfl⟩
theorem v_X4_init : CI0 M_X4_init 0 := ⟨⟨lw_g_of (by decide +kernel) (by decide +kernel), lw_g_of (by decide +kernel) (by decide +kernel), ⟨by decide +kernel, by decide +kernel, by decide +kernel⟩, by decide +kernel, by decide +kernel⟩, lw_g_of (by decide +kernel) (by decide +kernel), rfl⟩
theorem v_X5_blank : CS0 M_X5_blank 1 := ⟨⟨lw_g_of (by decide +kernel) (by decide +kernel), lw_g_of (by decide +kernel) (by decide +kernel), ⟨by decide +kernel, by decide +kernel, by decide +kernel⟩, by decide +kernel, by decide +kernel⟩, lw_g_of (by decide +kernel) (by decide +kernel)⟩
theorem v_X5_begins : CV0 M_X5_begins 0 := ⟨⟨lw_g_of (by decide +kernel) (by decide +kernel), lw_g_of (by decide +kernel) (by decide +kernel), ⟨by decide +kernel, by decide +kernel, by decide +kernel⟩, by decide +kernel, by decide +kernel⟩, lw_g_of (by decide +kernel) (by decide +kernel), lw_g_of (by decide +kernel) (by decide +kernel)⟩
theorem v_X5_init : CI0 M_X5_init 0 := ⟨⟨lw_g_of (by decide +kernel) (by decide +kernel), lw_g_of (by decide +kernel) (by decide +kernel), ⟨by decide +kernel, by decide +kernel, by decide +kernel⟩, by decide +kernel, by decide +kernel⟩, lw_g_of (by decide +kernel) (by decide +kernel), rfl⟩
theorem v_X1_append : CV0 M_X1_append 1 := ⟨⟨lw_g_of (by decide +kernel) (by decide +kernel), lw_g_of (by decide +kernel) (by decide +kernel), ⟨by decide +kernel, by decide +kernel, by decide +kernel⟩, by decide +kernel, by decide +kernel⟩, lw_g_of (by decide +kernel) (by decide +kernel), lw_g_of (by decide +kernel) (by decide +kernel)⟩
theorem v_X4_write : CV0 M_X4_write 1 := ⟨⟨lw_g_of (by decide +kernel) (by decide +kernel), lw_g_of (by decide +kernel) (by decide +kernel), ⟨by decide +kernel, by decide +kernel, by decide +kernel⟩, by decide +kernel, by decide +kernel⟩, lw_g_of (by decide +kernel) (by decide +kernel), lw_g_of (by decide +kernel) (by decide +kernel)⟩
theorem v_X5_in : CS0 M_X5_in 3 := ⟨⟨lw_g_of (by decide +kernel) (by decide +kernel), lw_g_of (by decide +kernel) (by decide +kernel), ⟨by decide +kernel, by decide +kernel, by decide +kernel⟩, by decide +kernel, by decide +kernel⟩, lw_g_of (by decide +kernel) (by decide +kernel)⟩
theorem v_X5_write : CV0 M_X5_write 1 := ⟨⟨lw_g_of (by decide +kernel) (by decide +kernel), lw_g_of (by decide +kernel) (by decide +kernel), ⟨by decide +kernel, by decide +kernel, by decide +kernel⟩, by decide +kernel, by decide +kernel⟩, lw_g_of (by decide +kernel) (by decide +kernel), lw_g_of (by decide +kernel) (by decide +kernel)⟩
theorem v_X4_erase : CV0 M_X4_erase 0 := ⟨⟨lw_g_of (by decide +kernel) (by decide +kernel), lw_g_of (by decide +kernel) (by decide +kernel), ⟨by decide +kernel, by decide +kernel, by decide +kernel⟩, by decide +kernel, by decide +kernel⟩, lw_g_of (by decide +kernel) (by decide +kernel), lw_g_of (by decide +kernel) (by decide +kernel)⟩
theorem v_X5_erase : CV0 M_X5_erase 0 := ⟨⟨lw_g_of (by decide +kernel) (by decide +kernel), lw_g_of (by decide +kernel) (by decide +kernel), ⟨by decide +kernel, by decide +kernel, by decide +kernel⟩, by decide +kernel, by decide +kernel⟩, lw_g_of (by decide +kernel) (by decide +kernel), lw_g_of (by decide +kernel) (by decide +kernel)⟩
theorem v_X2_copyFrom : CV0 M_X2_copyFrom 1 := ⟨⟨lw_g_of (by decide +kernel) (by decide +kernel), lw_g_of (by decide +kernel) (by decide +kernel), ⟨by decide +kernel, by decide +kernel, by decide +kernel⟩, by decide +kernel, by decide +kernel⟩, lw_g_of (by decide +kernel) (by decide +kernel), lw_g_of (by decide +kernel) (by decide +kernel)⟩
theorem v_X1_isSmall : CS0 M_X1_isSmall 1 := ⟨⟨lw_g_of (by decide +kernel) (by decide +kernel), lw_g_of (by decide +kernel) (by decide +kernel), ⟨by decide +kernel, by decide +kernel, by decide +kernel⟩, by decide +kernel, by decide +kernel⟩, lw_g_of (by decide +kernel) (by decide +kernel)⟩
theorem v_X1_isDigit : CS0 M_X1_isDigit 1 := ⟨⟨lw_g_of (by decide +kernel) (by decide +kernel), lw_g_of (by decide +kernel) (by decide +kernel), ⟨by decide +kernel, by decide +kernel, by decide +kernel⟩, by decide +kernel, by decide +kernel⟩, lw_g_of (by decide +kernel) (by decide +kernel)⟩
theorem v_X1_nextToken : CV0 M_X1_nextToken 0 := ⟨⟨lw_g_of (by decide +kernel) (by decide +kernel), lw_g_of (by decide +kernel) (by decide +kernel), ⟨by decide +kernel, by decide +kernel, by decide +kernel⟩, by decide +kernel, by decide +kernel⟩, lw_g_of (by decide +kernel) (by decide +kernel), lw_g_of (by decide +kernel) (by decide +kernel)⟩
theorem v_J0_coder_7d493 : CV0 M_J0_coder_7d493 0 := ⟨⟨lw_g_of (by decide +kernel) (by decide +kernel), lw_g_of (by decide +kernel) (by decide +kernel), ⟨by decide +kernel, by decide +kernel, by decide +kernel⟩, by decide +kernel, by decide +kernel⟩, lw_g_of (by decide +kernel) (by decide +kernel), lw_g_of (by decide +kernel) (by decide +kernel)⟩
theorem v_J0_length_8abf5 : CV0 M_J0_length_8abf5 0 := ⟨⟨lw_g_of (by decide +kernel) (by decide +kernel), lw_g_of (by decide +kernel) (by decide +kernel), ⟨by decide +kernel, by decide +kernel, by decide +kernel⟩, by decide +kernel, by decide +kernel⟩, lw_g_of (by decide +kernel) (by decide +kernel), lw_g_of (by decide +kernel) (by decide +kernel)⟩
theorem v_J0_isLatin1_aae02 : CV0 M_J0_isLatin1_aae02 0 := ⟨⟨lw_g_of (by decide +kernel) (by decide +kernel), lw_g_of (by decide +kernel) (by decide +kernel), ⟨by decide +kernel, by decide +kernel, by decide +kernel⟩, by decide +kernel, by decide +kernel⟩, lw_g_of (by decide +kernel) (by decide +kernel), lw_g_of (by decide +kernel) (by decide +kernel)⟩
theorem v_J3_checkIndex_8e157 : CS0 M_J3_checkIndex_8e157 3 := ⟨⟨lw_g_of (by decide +kernel) (by decide +kernel), lw_g_of (by decide +kernel) (by decide +kernel), ⟨by decide +kernel, by decide +kernel, by decide +kernel⟩, by decide +kernel, by decide +kernel⟩, lw_g_of (by decide +kernel) (by decide +kernel)⟩
theorem v_J0_checkIndex_df160 : CS0 M_J0_checkIndex_df160 2 := ⟨⟨lw_g_of (by decide +kernel) (by decide +kernel), lw_g_of (by decide +kernel) (by decide +kernel), ⟨by decide +kernel, by decide +kernel, by decide +kernel⟩, by decide +kernel, by decide +kernel⟩, lw_g_of (by decide +kernel) (by decide +kernel)⟩
theorem v_J1_charAt_3b067 : CS0 M_J1_charAt_3b067 2 := ⟨⟨lw_g_of (by decide +kernel) (by decide +kernel), lw_g_of (by decide +kernel) (by decide +kernel), ⟨by decide +kernel, by decide +kernel, by decide +kernel⟩, by decide +kernel, by decide +kernel⟩, lw_g_of (by decide +kernel) (by decide +kernel)⟩
theorem v_J0_charAt_5068e : CV0 M_J0_charAt_5068e 1 := ⟨⟨lw_g_of (by decide +kernel) (by decide +kernel), lw_g_of (by decide +kernel) (by decide +kernel), ⟨by decide +kernel, by decide +kernel, by decide +kernel⟩, by decide +kernel, by decide +kernel⟩, lw_g_of (by decide +kernel) (by decide +kernel), lw_g_of (by decide +kernel) (by decide +kernel)⟩
theorem v_X1_reads : CV0 M_X1_reads 1 := ⟨⟨lw_g_of (by decide +kernel) (by decide +kernel), lw_g_of (by decide +kernel) (by decide +kernel), ⟨by decide +kernel, by decide +kernel, by decide +kernel⟩, by decide +kernel, by decide +kernel⟩, lw_g_of (by decide +kernel) (by decide +kernel), lw_g_of (by decide +kernel) (by decide +kernel)⟩
theorem v_X2_clearNews : CV0 M_X2_clearNews 0 := ⟨⟨lw_g_of (by decide +kernel) (by decide +kernel), lw_g_of (by decide +kernel) (by decide +kernel), ⟨by decide +kernel, by decide +kernel, by decide +kernel⟩, by decide +kernel, by decide +kernel⟩, lw_g_of (by decide +kernel) (by decide +kernel), lw_g_of (by decide +kernel) (by decide +kernel)⟩
theorem v_X2_clear : CV0 M_X2_clear 0 := ⟨⟨lw_g_of (by decide +kernel) (by decide +kernel), lw_g_of (by decide +kernel) (by decide +kernel), ⟨by decide +kernel, by decide +kernel, by decide +kernel⟩, by decide +kernel, by decide +kernel⟩, lw_g_of (by decide +kernel) (by decide +kernel), lw_g_of (by decide +kernel) (by decide +kernel)⟩
theorem v_X1_nextNumber : CV0 M_X1_nextNumber 1 := ⟨⟨lw_g_of (by decide +kernel) (by decide +kernel), lw_g_of (by decide +kernel) (by decide +kernel), ⟨by decide +kernel, by decide +kernel, by decide +kernel⟩, by decide +kernel, by decide +kernel⟩, lw_g_of (by decide +kernel) (by decide +kernel), lw_g_of (by decide +kernel) (by decide +kernel)⟩
theorem v_X2_addPlace : CV0 M_X2_addPlace 3 := ⟨⟨lw_g_of (by decide +kernel) (by decide +kernel), lw_g_of (by decide +kernel) (by decide +kernel), ⟨by decide +kernel, by decide +kernel, by decide +kernel⟩, by decide +kernel, by decide +kernel⟩, lw_g_of (by decide +kernel) (by decide +kernel), lw_g_of (by decide +kernel) (by decide +kernel)⟩
theorem v_X1_readPlace : CV0 M_X1_readPlace 1 := ⟨⟨lw_g_of (by decide +kernel) (by decide +kernel), lw_g_of (by decide +kernel) (by decide +kernel), ⟨by decide +kernel, by decide +kernel, by decide +kernel⟩, by decide +kernel, by decide +kernel⟩, lw_g_of (by decide +kernel) (by decide +kernel), lw_g_of (by decide +kernel) (by decide +kernel)⟩
theorem v_X1_readNews : CV0 M_X1_readNews 1 := ⟨⟨lw_g_of (by decide +kernel) (by decide +kernel), lw_g_of (by decide +kernel) (by decide +kernel), ⟨by decide +kernel, by decide +kernel, by decide +kernel⟩, by decide +kernel, by decide +kernel⟩, lw_g_of (by decide +kernel) (by decide +kernel), lw_g_of (by decide +kernel) (by decide +kernel)⟩
theorem v_X1_kindRead : CV0 M_X1_kindRead 0 := ⟨⟨lw_g_of (by decide +kernel) (by decide +kernel), lw_g_of (by decide +kernel) (by decide +kernel), ⟨by decide +kernel, by decide +kernel, by decide +kernel⟩, by decide +kernel, by decide +kernel⟩, lw_g_of (by decide +kernel) (by decide +kernel), lw_g_of (by decide +kernel) (by decide +kernel)⟩
theorem v_X2_addHen : CV0 M_X2_addHen 2 := ⟨⟨lw_g_of (by decide +kernel) (by decide +kernel), lw_g_of (by decide +kernel) (by decide +kernel), ⟨by decide +kernel, by decide +kernel, by decide +kernel⟩, by decide +kernel, by decide +kernel⟩, lw_g_of (by decide +kernel) (by decide +kernel), lw_g_of (by decide +kernel) (by decide +kernel)⟩
theorem v_X1_readHen : CV0 M_X1_readHen 2 := ⟨⟨lw_g_of (by decide +kernel) (by decide +kernel), lw_g_of (by decide +kernel) (by decide +kernel), ⟨by decide +kernel, by decide +kernel, by decide +kernel⟩, by decide +kernel, by decide +kernel⟩, lw_g_of (by decide +kernel) (by decide +kernel), lw_g_of (by decide +kernel) (by decide +kernel)⟩
theorem v_X1_readClause : CV0 M_X1_readClause 1 := ⟨⟨lw_g_of (by decide +kernel) (by decide +kernel), lw_g_of (by decide +kernel) (by decide +kernel), ⟨by decide +kernel, by decide +kernel, by decide +kernel⟩, by decide +kernel, by decide +kernel⟩, lw_g_of (by decide +kernel) (by decide +kernel), lw_g_of (by decide +kernel) (by decide +kernel)⟩
theorem v_X1_readInto : CV0 M_X1_readInto 1 := ⟨⟨lw_g_of (by decide +kernel) (by decide +kernel), lw_g_of (by decide +kernel) (by decide +kernel), ⟨by decide +kernel, by decide +kernel, by decide +kernel⟩, by decide +kernel, by decide +kernel⟩, lw_g_of (by decide +kernel) (by decide +kernel), lw_g_of (by decide +kernel) (by decide +kernel)⟩
theorem v_X4_fault : CV0 M_X4_fault 0 := ⟨⟨lw_g_of (by decide +kernel) (by decide +kernel), lw_g_of (by decide +kernel) (by decide +kernel), ⟨by decide +kernel, by decide +kernel, by decide +kernel⟩, by decide +kernel, by decide +kernel⟩, lw_g_of (by decide +kernel) (by decide +kernel), lw_g_of (by decide +kernel) (by decide +kernel)⟩
theorem v_X5_copies : CS0 M_X5_copies 5 := ⟨⟨lw_g_of (by decide +kernel) (by decide +kernel), lw_g_of (by decide +kernel) (by decide +kernel), ⟨by decide +kernel, by decide +kernel, by decide +kernel⟩, by decide +kernel, by decide +kernel⟩, lw_g_of (by decide +kernel) (by decide +kernel)⟩
theorem v_X5_here : CV0 M_X5_here 0 := ⟨⟨lw_g_of (by decide +kernel) (by decide +kernel), lw_g_of (by decide +kernel) (by decide +kernel), ⟨by decide +kernel, by decide +kernel, by decide +kernel⟩, by decide +kernel, by decide +kernel⟩, lw_g_of (by decide +kernel) (by decide +kernel), lw_g_of (by decide +kernel) (by decide +kernel)⟩
theorem v_X5_step : CV0 M_X5_step 0 := ⟨⟨lw_g_of (by decide +kernel) (by decide +kernel), lw_g_of (by decide +kernel) (by decide +kernel), ⟨by decide +kernel, by decide +kernel, by decide +kernel⟩, by decide +kernel, by decide +kernel⟩, lw_g_of (by decide +kernel) (by decide +kernel), lw_g_of (by decide +kernel) (by decide +kernel)⟩
theorem v_X5_anew : CV0 M_X5_anew 0 := ⟨⟨lw_g_of (by decide +kernel) (by decide +kernel), lw_g_of (by decide +kernel) (by decide +kernel), ⟨by decide +kernel, by decide +kernel, by decide +kernel⟩, by decide +kernel, by decide +kernel⟩, lw_g_of (by decide +kernel) (by decide +kernel), lw_g_of (by decide +kernel) (by decide +kernel)⟩
theorem v_X5_number : CV0 M_X5_number 1 := ⟨⟨lw_g_of (by decide +kernel) (by decide +kernel), lw_g_of (by decide +kernel) (by decide +kernel), ⟨by decide +kernel, by decide +kernel, by decide +kernel⟩, by decide +kernel, by decide +kernel⟩, lw_g_of (by decide +kernel) (by decide +kernel), lw_g_of (by decide +kernel) (by decide +kernel)⟩
theorem v_X5_readsPlace : CV0 M_X5_readsPlace 0 := ⟨⟨lw_g_of (by decide +kernel) (by decide +kernel), lw_g_of (by decide +kernel) (by decide +kernel), ⟨by decide +kernel, by decide +kernel, by decide +kernel⟩, by decide +kernel, by decide +kernel⟩, lw_g_of (by decide +kernel) (by decide +kernel), lw_g_of (by decide +kernel) (by decide +kernel)⟩
theorem v_X5_readsNews : CV0 M_X5_readsNews 0 := ⟨⟨lw_g_of (by decide +kernel) (by decide +kernel), lw_g_of (by decide +kernel) (by decide +kernel), ⟨by decide +kernel, by decide +kernel, by decide +kernel⟩, by decide +kernel, by decide +kernel⟩, lw_g_of (by decide +kernel) (by decide +kernel), lw_g_of (by decide +kernel) (by decide +kernel)⟩
theorem v_X5_calm : CV0 M_X5_calm 0 := ⟨⟨lw_g_of (by decide +kernel) (by decide +kernel), lw_g_of (by decide +kernel) (by decide +kernel), ⟨by decide +kernel, by decide +kernel, by decide +kernel⟩, by decide +kernel, by decide +kernel⟩, lw_g_of (by decide +kernel) (by decide +kernel), lw_g_of (by decide +kernel) (by decide +kernel)⟩
theorem v_X5_readsHen : CV0 M_X5_readsHen 1 := ⟨⟨lw_g_of (by decide +kernel) (by decide +kernel), lw_g_of (by decide +kernel) (by decide +kernel), ⟨by decide +kernel, by decide +kernel, by decide +kernel⟩, by decide +kernel, by decide +kernel⟩, lw_g_of (by decide +kernel) (by decide +kernel), lw_g_of (by decide +kernel) (by decide +kernel)⟩
theorem v_X5_readsClause : CV0 M_X5_readsClause 0 := ⟨⟨lw_g_of (by decide +kernel) (by decide +kernel), lw_g_of (by decide +kernel) (by decide +kernel), ⟨by decide +kernel, by decide +kernel, by decide +kernel⟩, by decide +kernel, by decide +kernel⟩, lw_g_of (by decide +kernel) (by decide +kernel), lw_g_of (by decide +kernel) (by decide +kernel)⟩
theorem v_X5_reads : CV0 M_X5_reads 0 := ⟨⟨lw_g_of (by decide +kernel) (by decide +kernel), lw_g_of (by decide +kernel) (by decide +kernel), ⟨by decide +kernel, by decide +kernel, by decide +kernel⟩, by decide +kernel, by decide +kernel⟩, lw_g_of (by decide +kernel) (by decide +kernel), lw_g_of (by decide +kernel) (by decide +kernel)⟩
theorem v_X5_fault : CV0 M_X5_fault 0 := ⟨⟨lw_g_of (by decide +kernel) (by decide +kernel), lw_g_of (by decide +kernel) (by decide +kernel), ⟨by decide +kernel, by decide +kernel, by decide +kernel⟩, by decide +kernel, by decide +kernel⟩, lw_g_of (by decide +kernel) (by decide +kernel), lw_g_of (by decide +kernel) (by decide +kernel)⟩
theorem v_X3_beginAs : CV0 M_X3_beginAs 1 := ⟨⟨lw_g_of (by decide +kernel) (by decide +kernel), lw_g_of (by decide +kernel) (by decide +kernel), ⟨by decide +kernel, by decide +kernel, by decide +kernel⟩, by decide +kernel, by decide +kernel⟩, lw_g_of (by decide +kernel) (by decide +kernel), lw_g_of (by decide +kernel) (by decide +kernel)⟩
theorem v_X4_yard : CV0 M_X4_yard 0 := ⟨⟨lw_g_of (by decide +kernel) (by decide +kernel), lw_g_of (by decide +kernel) (by decide +kernel), ⟨by decide +kernel, by decide +kernel, by decide +kernel⟩, by decide +kernel, by decide +kernel⟩, lw_g_of (by decide +kernel) (by decide +kernel), lw_g_of (by decide +kernel) (by decide +kernel)⟩
theorem v_X5_yard : CV0 M_X5_yard 0 := ⟨⟨lw_g_of (by decide +kernel) (by decide +kernel), lw_g_of (by decide +kernel) (by decide +kernel), ⟨by decide +kernel, by decide +kernel, by decide +kernel⟩, by decide +kernel, by decide +kernel⟩, lw_g_of (by decide +kernel) (by decide +kernel), lw_g_of (by decide +kernel) (by decide +kernel)⟩
theorem v_X4_isPlace : CV0 M_X4_isPlace 1 := ⟨⟨lw_g_of (by decide +kernel) (by decide +kernel), lw_g_of (by decide +kernel) (by decide +kernel), ⟨by decide +kernel, by decide +kernel, by decide +kernel⟩, by decide +kernel, by decide +kernel⟩, lw_g_of (by decide +kernel) (by decide +kernel), lw_g_of (by decide +kernel) (by decide +kernel)⟩
theorem v_X4_place : CV0 M_X4_place 2 := ⟨⟨lw_g_of (by decide +kernel) (by decide +kernel), lw_g_of (by decide +kernel) (by decide +kernel), ⟨by decide +kernel, by decide +kernel, by decide +kernel⟩, by decide +kernel, by decide +kernel⟩, lw_g_of (by decide +kernel) (by decide +kernel), lw_g_of (by decide +kernel) (by decide +kernel)⟩
theorem v_X5_isPlace : CV0 M_X5_isPlace 1 := ⟨⟨lw_g_of (by decide +kernel) (by decide +kernel), lw_g_of (by decide +kernel) (by decide +kernel), ⟨by decide +kernel, by decide +kernel, by decide +kernel⟩, by decide +kernel, by decide +kernel⟩, lw_g_of (by decide +kernel) (by decide +kernel), lw_g_of (by decide +kernel) (by decide +kernel)⟩
theorem v_X5_place : CV0 M_X5_place 2 := ⟨⟨lw_g_of (by decide +kernel) (by decide +kernel), lw_g_of (by decide +kernel) (by decide +kernel), ⟨by decide +kernel, by decide +kernel, by decide +kernel⟩, by decide +kernel, by decide +kernel⟩, lw_g_of (by decide +kernel) (by decide +kernel), lw_g_of (by decide +kernel) (by decide +kernel)⟩
theorem v_X4_isHen : CV0 M_X4_isHen 1 := ⟨⟨lw_g_of (by decide +kernel) (by decide +kernel), lw_g_of (by decide +kernel) (by decide +kernel), ⟨by decide +kernel, by decide +kernel, by decide +kernel⟩, by decide +kernel, by decide +kernel⟩, lw_g_of (by decide +kernel) (by decide +kernel), lw_g_of (by decide +kernel) (by decide +kernel)⟩
theorem v_X4_hen : CV0 M_X4_hen 2 := ⟨⟨lw_g_of (by decide +kernel) (by decide +kernel), lw_g_of (by decide +kernel) (by decide +kernel), ⟨by decide +kernel, by decide +kernel, by decide +kernel⟩, by decide +kernel, by decide +kernel⟩, lw_g_of (by decide +kernel) (by decide +kernel), lw_g_of (by decide +kernel) (by decide +kernel)⟩
theorem v_X5_isHen : CV0 M_X5_isHen 1 := ⟨⟨lw_g_of (by decide +kernel) (by decide +kernel), lw_g_of (by decide +kernel) (by decide +kernel), ⟨by decide +kernel, by decide +kernel, by decide +kernel⟩, by decide +kernel, by decide +kernel⟩, lw_g_of (by decide +kernel) (by decide +kernel), lw_g_of (by decide +kernel) (by decide +kernel)⟩
theorem v_X5_hen : CV0 M_X5_hen 2 := ⟨⟨lw_g_of (by decide +kernel) (by decide +kernel), lw_g_of (by decide +kernel) (by decide +kernel), ⟨by decide +kernel, by decide +kernel, by decide +kernel⟩, by decide +kernel, by decide +kernel⟩, lw_g_of (by decide +kernel) (by decide +kernel), lw_g_of (by decide +kernel) (by decide +kernel)⟩
theorem v_X4_news : CV0 M_X4_news 1 := ⟨⟨lw_g_of (by decide +kernel) (by decide +kernel), lw_g_of (by decide +kernel) (by decide +kernel), ⟨by decide +kernel, by decide +kernel, by decide +kernel⟩, by decide +kernel, by decide +kernel⟩, lw_g_of (by decide +kernel) (by decide +kernel), lw_g_of (by decide +kernel) (by decide +kernel)⟩
theorem v_X5_news : CV0 M_X5_news 1 := ⟨⟨lw_g_of (by decide +kernel) (by decide +kernel), lw_g_of (by decide +kernel) (by decide +kernel), ⟨by decide +kernel, by decide +kernel, by decide +kernel⟩, by decide +kernel, by decide +kernel⟩, lw_g_of (by decide +kernel) (by decide +kernel), lw_g_of (by decide +kernel) (by decide +kernel)⟩
theorem v_X4_isUnder : CS0 M_X4_isUnder 2 := ⟨⟨lw_g_of (by decide +kernel) (by decide +kernel), lw_g_of (by decide +kernel) (by decide +kernel), ⟨by decide +kernel, by decide +kernel, by decide +kernel⟩, by decide +kernel, by decide +kernel⟩, lw_g_of (by decide +kernel) (by decide +kernel)⟩
theorem v_X3_likes : CV0 M_X3_likes 3 := ⟨⟨lw_g_of (by decide +kernel) (by decide +kernel), lw_g_of (by decide +kernel) (by decide +kernel), ⟨by decide +kernel, by decide +kernel, by decide +kernel⟩, by decide +kernel, by decide +kernel⟩, lw_g_of (by decide +kernel) (by decide +kernel), lw_g_of (by decide +kernel) (by decide +kernel)⟩
theorem v_X4_as : CV0 M_X4_as 2 := ⟨⟨lw_g_of (by decide +kernel) (by decide +kernel), lw_g_of (by decide +kernel) (by decide +kernel), ⟨by decide +kernel, by decide +kernel, by decide +kernel⟩, by decide +kernel, by decide +kernel⟩, lw_g_of (by decide +kernel) (by decide +kernel), lw_g_of (by decide +kernel) (by decide +kernel)⟩
theorem v_X5_asTold : CV0 M_X5_asTold 0 := ⟨⟨lw_g_of (by decide +kernel) (by decide +kernel), lw_g_of (by decide +kernel) (by decide +kernel), ⟨by decide +kernel, by decide +kernel, by decide +kernel⟩, by decide +kernel, by decide +kernel⟩, lw_g_of (by decide +kernel) (by decide +kernel), lw_g_of (by decide +kernel) (by decide +kernel)⟩
theorem v_X5_likes : CV0 M_X5_likes 3 := ⟨⟨lw_g_of (by decide +kernel) (by decide +kernel), lw_g_of (by decide +kernel) (by decide +kernel), ⟨by decide +kernel, by decide +kernel, by decide +kernel⟩, by decide +kernel, by decide +kernel⟩, lw_g_of (by decide +kernel) (by decide +kernel), lw_g_of (by decide +kernel) (by decide +kernel)⟩
theorem v_X5_as : CV0 M_X5_as 2 := ⟨⟨lw_g_of (by decide +kernel) (by decide +kernel), lw_g_of (by decide +kernel) (by decide +kernel), ⟨by decide +kernel, by decide +kernel, by decide +kernel⟩, by decide +kernel, by decide +kernel⟩, lw_g_of (by decide +kernel) (by decide +kernel), lw_g_of (by decide +kernel) (by decide +kernel)⟩
theorem v_X4_dropOldest : CV0 M_X4_dropOldest 0 := ⟨⟨lw_g_of (by decide +kernel) (by decide +kernel), lw_g_of (by decide +kernel) (by decide +kernel), ⟨by decide +kernel, by decide +kernel, by decide +kernel⟩, by decide +kernel, by decide +kernel⟩, lw_g_of (by decide +kernel) (by decide +kernel), lw_g_of (by decide +kernel) (by decide +kernel)⟩
theorem v_X3_copyFrom : CV0 M_X3_copyFrom 1 := ⟨⟨lw_g_of (by decide +kernel) (by decide +kernel), lw_g_of (by decide +kernel) (by decide +kernel), ⟨by decide +kernel, by decide +kernel, by decide +kernel⟩, by decide +kernel, by decide +kernel⟩, lw_g_of (by decide +kernel) (by decide +kernel), lw_g_of (by decide +kernel) (by decide +kernel)⟩
theorem v_X4_remember : CV0 M_X4_remember 0 := ⟨⟨lw_g_of (by decide +kernel) (by decide +kernel), lw_g_of (by decide +kernel) (by decide +kernel), ⟨by decide +kernel, by decide +kernel, by decide +kernel⟩, by decide +kernel, by decide +kernel⟩, lw_g_of (by decide +kernel) (by decide +kernel), lw_g_of (by decide +kernel) (by decide +kernel)⟩
theorem v_X3_laysToday : CV0 M_X3_laysToday 1 := ⟨⟨lw_g_of (by decide +kernel) (by decide +kernel), lw_g_of (by decide +kernel) (by decide +kernel), ⟨by decide +kernel, by decide +kernel, by decide +kernel⟩, by decide +kernel, by decide +kernel⟩, lw_g_of (by decide +kernel) (by decide +kernel), lw_g_of (by decide +kernel) (by decide +kernel)⟩
theorem v_X3_favourite : CV0 M_X3_favourite 2 := ⟨⟨lw_g_of (by decide +kernel) (by decide +kernel), lw_g_of (by decide +kernel) (by decide +kernel), ⟨by decide +kernel, by decide +kernel, by decide +kernel⟩, by decide +kernel, by decide +kernel⟩, lw_g_of (by decide +kernel) (by decide +kernel), lw_g_of (by decide +kernel) (by decide +kernel)⟩
theorem v_J9_floorMod_7cf53 : CS0 M_J9_floorMod_7cf53 2 := ⟨⟨lw_g_of (by decide +kernel) (by decide +kernel), lw_g_of (by decide +kernel) (by decide +kernel), ⟨by decide +kernel, by decide +kernel, by decide +kernel⟩, by decide +kernel, by decide +kernel⟩, lw_g_of (by decide +kernel) (by decide +kernel)⟩
theorem v_X2_newsOf : CV0 M_X2_newsOf 1 := ⟨⟨lw_g_of (by decide +kernel) (by decide +kernel), lw_g_of (by decide +kernel) (by decide +kernel), ⟨by decide +kernel, by decide +kernel, by decide +kernel⟩, by decide +kernel, by decide +kernel⟩, lw_g_of (by decide +kernel) (by decide +kernel), lw_g_of (by decide +kernel) (by decide +kernel)⟩
theorem v_X3_layEgg : CV0 M_X3_layEgg 3 := ⟨⟨lw_g_of (by decide +kernel) (by decide +kernel), lw_g_of (by decide +kernel) (by decide +kernel), ⟨by decide +kernel, by decide +kernel, by decide +kernel⟩, by decide +kernel, by decide +kernel⟩, lw_g_of (by decide +kernel) (by decide +kernel), lw_g_of (by decide +kernel) (by decide +kernel)⟩
theorem v_X3_passDay : CV0 M_X3_passDay 1 := ⟨⟨lw_g_of (by decide +kernel) (by decide +kernel), lw_g_of (by decide +kernel) (by decide +kernel), ⟨by decide +kernel, by decide +kernel, by decide +kernel⟩, by decide +kernel, by decide +kernel⟩, lw_g_of (by decide +kernel) (by decide +kernel), lw_g_of (by decide +kernel) (by decide +kernel)⟩
theorem v_X3_eggBits : CV0 M_X3_eggBits 0 := ⟨⟨lw_g_of (by decide +kernel) (by decide +kernel), lw_g_of (by decide +kernel) (by decide +kernel), ⟨by decide +kernel, by decide +kernel, by decide +kernel⟩, by decide +kernel, by decide +kernel⟩, lw_g_of (by decide +kernel) (by decide +kernel), lw_g_of (by decide +kernel) (by decide +kernel)⟩
theorem v_X4_day : CV0 M_X4_day 0 := ⟨⟨lw_g_of (by decide +kernel) (by decide +kernel), lw_g_of (by decide +kernel) (by decide +kernel), ⟨by decide +kernel, by decide +kernel, by decide +kernel⟩, by decide +kernel, by decide +kernel⟩, lw_g_of (by decide +kernel) (by decide +kernel), lw_g_of (by decide +kernel) (by decide +kernel)⟩
theorem v_X5_remember : CV0 M_X5_remember 0 := ⟨⟨lw_g_of (by decide +kernel) (by decide +kernel), lw_g_of (by decide +kernel) (by decide +kernel), ⟨by decide +kernel, by decide +kernel, by decide +kernel⟩, by decide +kernel, by decide +kernel⟩, lw_g_of (by decide +kernel) (by decide +kernel), lw_g_of (by decide +kernel) (by decide +kernel)⟩
theorem v_X5_bestOf : CV0 M_X5_bestOf 2 := ⟨⟨lw_g_of (by decide +kernel) (by decide +kernel), lw_g_of (by decide +kernel) (by decide +kernel), ⟨by decide +kernel, by decide +kernel, by decide +kernel⟩, by decide +kernel, by decide +kernel⟩, lw_g_of (by decide +kernel) (by decide +kernel), lw_g_of (by decide +kernel) (by decide +kernel)⟩
theorem v_X5_goes : CV0 M_X5_goes 1 := ⟨⟨lw_g_of (by decide +kernel) (by decide +kernel), lw_g_of (by decide +kernel) (by decide +kernel), ⟨by decide +kernel, by decide +kernel, by decide +kernel⟩, by decide +kernel, by decide +kernel⟩, lw_g_of (by decide +kernel) (by decide +kernel), lw_g_of (by decide +kernel) (by decide +kernel)⟩
theorem v_X5_day : CV0 M_X5_day 0 := ⟨⟨lw_g_of (by decide +kernel) (by decide +kernel), lw_g_of (by decide +kernel) (by decide +kernel), ⟨by decide +kernel, by decide +kernel, by decide +kernel⟩, by decide +kernel, by decide +kernel⟩, lw_g_of (by decide +kernel) (by decide +kernel), lw_g_of (by decide +kernel) (by decide +kernel)⟩
theorem v_X4_thunder : CV0 M_X4_thunder 0 := ⟨⟨lw_g_of (by decide +kernel) (by decide +kernel), lw_g_of (by decide +kernel) (by decide +kernel), ⟨by decide +kernel, by decide +kernel, by decide +kernel⟩, by decide +kernel, by decide +kernel⟩, lw_g_of (by decide +kernel) (by decide +kernel), lw_g_of (by decide +kernel) (by decide +kernel)⟩
theorem v_X5_thunder : CV0 M_X5_thunder 0 := ⟨⟨lw_g_of (by decide +kernel) (by decide +kernel), lw_g_of (by decide +kernel) (by decide +kernel), ⟨by decide +kernel, by decide +kernel, by decide +kernel⟩, by decide +kernel, by decide +kernel⟩, lw_g_of (by decide +kernel) (by decide +kernel), lw_g_of (by decide +kernel) (by decide +kernel)⟩
theorem v_X4_straw : CV0 M_X4_straw 2 := ⟨⟨lw_g_of (by decide +kernel) (by decide +kernel), lw_g_of (by decide +kernel) (by decide +kernel), ⟨by decide +kernel, by decide +kernel, by decide +kernel⟩, by decide +kernel, by decide +kernel⟩, lw_g_of (by decide +kernel) (by decide +kernel), lw_g_of (by decide +kernel) (by decide +kernel)⟩
theorem v_X5_straw : CV0 M_X5_straw 2 := ⟨⟨lw_g_of (by decide +kernel) (by decide +kernel), lw_g_of (by decide +kernel) (by decide +kernel), ⟨by decide +kernel, by decide +kernel, by decide +kernel⟩, by decide +kernel, by decide +kernel⟩, lw_g_of (by decide +kernel) (by decide +kernel), lw_g_of (by decide +kernel) (by decide +kernel)⟩
theorem v_X4_move : CV0 M_X4_move 2 := ⟨⟨lw_g_of (by decide +kernel) (by decide +kernel), lw_g_of (by decide +kernel) (by decide +kernel), ⟨by decide +kernel, by decide +kernel, by decide +kernel⟩, by decide +kernel, by decide +kernel⟩, lw_g_of (by decide +kernel) (by decide +kernel), lw_g_of (by decide +kernel) (by decide +kernel)⟩
theorem v_X5_moves : CS0 M_X5_moves 3 := ⟨⟨lw_g_of (by decide +kernel) (by decide +kernel), lw_g_of (by decide +kernel) (by decide +kernel), ⟨by decide +kernel, by decide +kernel, by decide +kernel⟩, by decide +kernel, by decide +kernel⟩, lw_g_of (by decide +kernel) (by decide +kernel)⟩
theorem v_X5_move : CV0 M_X5_move 2 := ⟨⟨lw_g_of (by decide +kernel) (by decide +kernel), lw_g_of (by decide +kernel) (by decide +kernel), ⟨by decide +kernel, by decide +kernel, by decide +kernel⟩, by decide +kernel, by decide +kernel⟩, lw_g_of (by decide +kernel) (by decide +kernel), lw_g_of (by decide +kernel) (by decide +kernel)⟩
theorem v_X4_eat : CV0 M_X4_eat 1 := ⟨⟨lw_g_of (by decide +kernel) (by decide +kernel), lw_g_of (by decide +kernel) (by decide +kernel), ⟨by decide +kernel, by decide +kernel, by decide +kernel⟩, by decide +kernel, by decide +kernel⟩, lw_g_of (by decide +kernel) (by decide +kernel), lw_g_of (by decide +kernel) (by decide +kernel)⟩
theorem v_X5_eat : CV0 M_X5_eat 1 := ⟨⟨lw_g_of (by decide +kernel) (by decide +kernel), lw_g_of (by decide +kernel) (by decide +kernel), ⟨by decide +kernel, by decide +kernel, by decide +kernel⟩, by decide +kernel, by decide +kernel⟩, lw_g_of (by decide +kernel) (by decide +kernel), lw_g_of (by decide +kernel) (by decide +kernel)⟩
theorem v_X4_heed : CV0 M_X4_heed 1 := ⟨⟨lw_g_of (by decide +kernel) (by decide +kernel), lw_g_of (by decide +kernel) (by decide +kernel), ⟨by decide +kernel, by decide +kernel, by decide +kernel⟩, by decide +kernel, by decide +kernel⟩, lw_g_of (by decide +kernel) (by decide +kernel), lw_g_of (by decide +kernel) (by decide +kernel)⟩
theorem v_X5_heed : CV0 M_X5_heed 1 := ⟨⟨lw_g_of (by decide +kernel) (by decide +kernel), lw_g_of (by decide +kernel) (by decide +kernel), ⟨by decide +kernel, by decide +kernel, by decide +kernel⟩, by decide +kernel, by decide +kernel⟩, lw_g_of (by decide +kernel) (by decide +kernel), lw_g_of (by decide +kernel) (by decide +kernel)⟩
theorem v_X4_undo : CV0 M_X4_undo 0 := ⟨⟨lw_g_of (by decide +kernel) (by decide +kernel), lw_g_of (by decide +kernel) (by decide +kernel), ⟨by decide +kernel, by decide +kernel, by decide +kernel⟩, by decide +kernel, by decide +kernel⟩, lw_g_of (by decide +kernel) (by decide +kernel), lw_g_of (by decide +kernel) (by decide +kernel)⟩
theorem v_X5_undo : CV0 M_X5_undo 0 := ⟨⟨lw_g_of (by decide +kernel) (by decide +kernel), lw_g_of (by decide +kernel) (by decide +kernel), ⟨by decide +kernel, by decide +kernel, by decide +kernel⟩, by decide +kernel, by decide +kernel⟩, lw_g_of (by decide +kernel) (by decide +kernel), lw_g_of (by decide +kernel) (by decide +kernel)⟩
theorem v_X4_keep : CV0 M_X4_keep 1 := ⟨⟨lw_g_of (by decide +kernel) (by decide +kernel), lw_g_of (by decide +kernel) (by decide +kernel), ⟨by decide +kernel, by decide +kernel, by decide +kernel⟩, by decide +kernel, by decide +kernel⟩, lw_g_of (by decide +kernel) (by decide +kernel), lw_g_of (by decide +kernel) (by decide +kernel)⟩
theorem v_X5_isTwo : CS0 M_X5_isTwo 1 := ⟨⟨lw_g_of (by decide +kernel) (by decide +kernel), lw_g_of (by decide +kernel) (by decide +kernel), ⟨by decide +kernel, by decide +kernel, by decide +kernel⟩, by decide +kernel, by decide +kernel⟩, lw_g_of (by decide +kernel) (by decide +kernel)⟩
theorem v_X5_keep : CV0 M_X5_keep 1 := ⟨⟨lw_g_of (by decide +kernel) (by decide +kernel), lw_g_of (by decide +kernel) (by decide +kernel), ⟨by decide +kernel, by decide +kernel, by decide +kernel⟩, by decide +kernel, by decide +kernel⟩, lw_g_of (by decide +kernel) (by decide +kernel), lw_g_of (by decide +kernel) (by decide +kernel)⟩
theorem v_X4_back : CV0 M_X4_back 1 := ⟨⟨lw_g_of (by decide +kernel) (by decide +kernel), lw_g_of (by decide +kernel) (by decide +kernel), ⟨by decide +kernel, by decide +kernel, by decide +kernel⟩, by decide +kernel, by decide +kernel⟩, lw_g_of (by decide +kernel) (by decide +kernel), lw_g_of (by decide +kernel) (by decide +kernel)⟩
theorem v_X5_back : CV0 M_X5_back 1 := ⟨⟨lw_g_of (by decide +kernel) (by decide +kernel), lw_g_of (by decide +kernel) (by decide +kernel), ⟨by decide +kernel, by decide +kernel, by decide +kernel⟩, by decide +kernel, by decide +kernel⟩, lw_g_of (by decide +kernel) (by decide +kernel), lw_g_of (by decide +kernel) (by decide +kernel)⟩
theorem v_X4_foretell : CV0 M_X4_foretell 1 := ⟨⟨lw_g_of (by decide +kernel) (by decide +kernel), lw_g_of (by decide +kernel) (by decide +kernel), ⟨by decide +kernel, by decide +kernel, by decide +kernel⟩, by decide +kernel, by decide +kernel⟩, lw_g_of (by decide +kernel) (by decide +kernel), lw_g_of (by decide +kernel) (by decide +kernel)⟩
theorem v_X3_placeOfEgg : CV0 M_X3_placeOfEgg 1 := ⟨⟨lw_g_of (by decide +kernel) (by decide +kernel), lw_g_of (by decide +kernel) (by decide +kernel), ⟨by decide +kernel, by decide +kernel, by decide +kernel⟩, by decide +kernel, by decide +kernel⟩, lw_g_of (by decide +kernel) (by decide +kernel), lw_g_of (by decide +kernel) (by decide +kernel)⟩
theorem v_X4_lays : CV0 M_X4_lays 2 := ⟨⟨lw_g_of (by decide +kernel) (by decide +kernel), lw_g_of (by decide +kernel) (by decide +kernel), ⟨by decide +kernel, by decide +kernel, by decide +kernel⟩, by decide +kernel, by decide +kernel⟩, lw_g_of (by decide +kernel) (by decide +kernel), lw_g_of (by decide +kernel) (by decide +kernel)⟩
theorem v_X5_layAside : CV0 M_X5_layAside 0 := ⟨⟨lw_g_of (by decide +kernel) (by decide +kernel), lw_g_of (by decide +kernel) (by decide +kernel), ⟨by decide +kernel, by decide +kernel, by decide +kernel⟩, by decide +kernel, by decide +kernel⟩, lw_g_of (by decide +kernel) (by decide +kernel), lw_g_of (by decide +kernel) (by decide +kernel)⟩
theorem v_X5_go : CV0 M_X5_go 1 := ⟨⟨lw_g_of (by decide +kernel) (by decide +kernel), lw_g_of (by decide +kernel) (by decide +kernel), ⟨by decide +kernel, by decide +kernel, by decide +kernel⟩, by decide +kernel, by decide +kernel⟩, lw_g_of (by decide +kernel) (by decide +kernel), lw_g_of (by decide +kernel) (by decide +kernel)⟩
theorem v_X5_lays : CV0 M_X5_lays 2 := ⟨⟨lw_g_of (by decide +kernel) (by decide +kernel), lw_g_of (by decide +kernel) (by decide +kernel), ⟨by decide +kernel, by decide +kernel, by decide +kernel⟩, by decide +kernel, by decide +kernel⟩, lw_g_of (by decide +kernel) (by decide +kernel), lw_g_of (by decide +kernel) (by decide +kernel)⟩
theorem v_X4_rightsForetold : CV0 M_X4_rightsForetold 1 := ⟨⟨lw_g_of (by decide +kernel) (by decide +kernel), lw_g_of (by decide +kernel) (by decide +kernel), ⟨by decide +kernel, by decide +kernel, by decide +kernel⟩, by decide +kernel, by decide +kernel⟩, lw_g_of (by decide +kernel) (by decide +kernel), lw_g_of (by decide +kernel) (by decide +kernel)⟩
theorem v_X4_rights : CV0 M_X4_rights 2 := ⟨⟨lw_g_of (by decide +kernel) (by decide +kernel), lw_g_of (by decide +kernel) (by decide +kernel), ⟨by decide +kernel, by decide +kernel, by decide +kernel⟩, by decide +kernel, by decide +kernel⟩, lw_g_of (by decide +kernel) (by decide +kernel), lw_g_of (by decide +kernel) (by decide +kernel)⟩
theorem v_X5_rights : CV0 M_X5_rights 2 := ⟨⟨lw_g_of (by decide +kernel) (by decide +kernel), lw_g_of (by decide +kernel) (by decide +kernel), ⟨by decide +kernel, by decide +kernel, by decide +kernel⟩, by decide +kernel, by decide +kernel⟩, lw_g_of (by decide +kernel) (by decide +kernel), lw_g_of (by decide +kernel) (by decide +kernel)⟩
theorem v_X4_ask : CV0 M_X4_ask 2 := ⟨⟨lw_g_of (by decide +kernel) (by decide +kernel), lw_g_of (by decide +kernel) (by decide +kernel), ⟨by decide +kernel, by decide +kernel, by decide +kernel⟩, by decide +kernel, by decide +kernel⟩, lw_g_of (by decide +kernel) (by decide +kernel), lw_g_of (by decide +kernel) (by decide +kernel)⟩
theorem v_X5_ask : CV0 M_X5_ask 2 := ⟨⟨lw_g_of (by decide +kernel) (by decide +kernel), lw_g_of (by decide +kernel) (by decide +kernel), ⟨by decide +kernel, by decide +kernel, by decide +kernel⟩, by decide +kernel, by decide +kernel⟩, lw_g_of (by decide +kernel) (by decide +kernel), lw_g_of (by decide +kernel) (by decide +kernel)⟩
theorem v_X4_hitIndex : CS0 M_X4_hitIndex 2 := ⟨⟨lw_g_of (by decide +kernel) (by decide +kernel), lw_g_of (by decide +kernel) (by decide +kernel), ⟨by decide +kernel, by decide +kernel, by decide +kernel⟩, by decide +kernel, by decide +kernel⟩, lw_g_of (by decide +kernel) (by decide +kernel)⟩
theorem v_X4_tallyEggs : CV0 M_X4_tallyEggs 1 := ⟨⟨lw_g_of (by decide +kernel) (by decide +kernel), lw_g_of (by decide +kernel) (by decide +kernel), ⟨by decide +kernel, by decide +kernel, by decide +kernel⟩, by decide +kernel, by decide +kernel⟩, lw_g_of (by decide +kernel) (by decide +kernel), lw_g_of (by decide +kernel) (by decide +kernel)⟩
theorem v_X4_tallyHits : CV0 M_X4_tallyHits 1 := ⟨⟨lw_g_of (by decide +kernel) (by decide +kernel), lw_g_of (by decide +kernel) (by decide +kernel), ⟨by decide +kernel, by decide +kernel, by decide +kernel⟩, by decide +kernel, by decide +kernel⟩, lw_g_of (by decide +kernel) (by decide +kernel), lw_g_of (by decide +kernel) (by decide +kernel)⟩
theorem v_X4_gainOfMove : CV0 M_X4_gainOfMove 2 := ⟨⟨lw_g_of (by decide +kernel) (by decide +kernel), lw_g_of (by decide +kernel) (by decide +kernel), ⟨by decide +kernel, by decide +kernel, by decide +kernel⟩, by decide +kernel, by decide +kernel⟩, lw_g_of (by decide +kernel) (by decide +kernel), lw_g_of (by decide +kernel) (by decide +kernel)⟩
theorem v_X4_trough : CV0 M_X4_trough 1 := ⟨⟨lw_g_of (by decide +kernel) (by decide +kernel), lw_g_of (by decide +kernel) (by decide +kernel), ⟨by decide +kernel, by decide +kernel, by decide +kernel⟩, by decide +kernel, by decide +kernel⟩, lw_g_of (by decide +kernel) (by decide +kernel), lw_g_of (by decide +kernel) (by decide +kernel)⟩
theorem v_X5_rightsOfAll : CV0 M_X5_rightsOfAll 1 := ⟨⟨lw_g_of (by decide +kernel) (by decide +kernel), lw_g_of (by decide +kernel) (by decide +kernel), ⟨by decide +kernel, by decide +kernel, by decide +kernel⟩, by decide +kernel, by decide +kernel⟩, lw_g_of (by decide +kernel) (by decide +kernel), lw_g_of (by decide +kernel) (by decide +kernel)⟩
theorem v_X5_trough : CV0 M_X5_trough 1 := ⟨⟨lw_g_of (by decide +kernel) (by decide +kernel), lw_g_of (by decide +kernel) (by decide +kernel), ⟨by decide +kernel, by decide +kernel, by decide +kernel⟩, by decide +kernel, by decide +kernel⟩, lw_g_of (by decide +kernel) (by decide +kernel), lw_g_of (by decide +kernel) (by decide +kernel)⟩
theorem v_X4_warmth : CV0 M_X4_warmth 2 := ⟨⟨lw_g_of (by decide +kernel) (by decide +kernel), lw_g_of (by decide +kernel) (by decide +kernel), ⟨by decide +kernel, by decide +kernel, by decide +kernel⟩, by decide +kernel, by decide +kernel⟩, lw_g_of (by decide +kernel) (by decide +kernel), lw_g_of (by decide +kernel) (by decide +kernel)⟩
theorem v_X5_warmth : CV0 M_X5_warmth 2 := ⟨⟨lw_g_of (by decide +kernel) (by decide +kernel), lw_g_of (by decide +kernel) (by decide +kernel), ⟨by decide +kernel, by decide +kernel, by decide +kernel⟩, by decide +kernel, by decide +kernel⟩, lw_g_of (by decide +kernel) (by decide +kernel), lw_g_of (by decide +kernel) (by decide +kernel)⟩
theorem v_X0_add : CV0 M_X0_add 3 := ⟨⟨lw_g_of (by decide +kernel) (by decide +kernel), lw_g_of (by decide +kernel) (by decide +kernel), ⟨by decide +kernel, by decide +kernel, by decide +kernel⟩, by decide +kernel, by decide +kernel⟩, lw_g_of (by decide +kernel) (by decide +kernel), lw_g_of (by decide +kernel) (by decide +kernel)⟩
theorem v_X4_seen : CV0 M_X4_seen 3 := ⟨⟨lw_g_of (by decide +kernel) (by decide +kernel), lw_g_of (by decide +kernel) (by decide +kernel), ⟨by decide +kernel, by decide +kernel, by decide +kernel⟩, by decide +kernel, by decide +kernel⟩, lw_g_of (by decide +kernel) (by decide +kernel), lw_g_of (by decide +kernel) (by decide +kernel)⟩
theorem v_X5_seen : CV0 M_X5_seen 3 := ⟨⟨lw_g_of (by decide +kernel) (by decide +kernel), lw_g_of (by decide +kernel) (by decide +kernel), ⟨by decide +kernel, by decide +kernel, by decide +kernel⟩, by decide +kernel, by decide +kernel⟩, lw_g_of (by decide +kernel) (by decide +kernel), lw_g_of (by decide +kernel) (by decide +kernel)⟩
theorem v_X4_forget : CV0 M_X4_forget 0 := ⟨⟨lw_g_of (by decide +kernel) (by decide +kernel), lw_g_of (by decide +kernel) (by decide +kernel), ⟨by decide +kernel, by decide +kernel, by decide +kernel⟩, by decide +kernel, by decide +kernel⟩, lw_g_of (by decide +kernel) (by decide +kernel), lw_g_of (by decide +kernel) (by decide +kernel)⟩
theorem v_X5_forget : CV0 M_X5_forget 0 := ⟨⟨lw_g_of (by decide +kernel) (by decide +kernel), lw_g_of (by decide +kernel) (by decide +kernel), ⟨by decide +kernel, by decide +kernel, by decide +kernel⟩, by decide +kernel, by decide +kernel⟩, lw_g_of (by decide +kernel) (by decide +kernel), lw_g_of (by decide +kernel) (by decide +kernel)⟩
theorem v_J9_max_7cf53 : CS0 M_J9_max_7cf53 2 := ⟨⟨lw_g_of (by decide +kernel) (by decide +kernel), lw_g_of (by decide +kernel) (by decide +kernel), ⟨by decide +kernel, by decide +kernel, by decide +kernel⟩, by decide +kernel, by decide +kernel⟩, lw_g_of (by decide +kernel) (by decide +kernel)⟩
theorem v_X0_lastDayOf : CV0 M_X0_lastDayOf 1 := ⟨⟨lw_g_of (by decide +kernel) (by decide +kernel), lw_g_of (by decide +kernel) (by decide +kernel), ⟨by decide +kernel, by decide +kernel, by decide +kernel⟩, by decide +kernel, by decide +kernel⟩, lw_g_of (by decide +kernel) (by decide +kernel), lw_g_of (by decide +kernel) (by decide +kernel)⟩
theorem v_X0_agree : CV0 M_X0_agree 3 := ⟨⟨lw_g_of (by decide +kernel) (by decide +kernel), lw_g_of (by decide +kernel) (by decide +kernel), ⟨by decide +kernel, by decide +kernel, by decide +kernel⟩, by decide +kernel, by decide +kernel⟩, lw_g_of (by decide +kernel) (by decide +kernel), lw_g_of (by decide +kernel) (by decide +kernel)⟩
theorem v_X4_wouldBeSeen : CV0 M_X4_wouldBeSeen 3 := ⟨⟨lw_g_of (by decide +kernel) (by decide +kernel), lw_g_of (by decide +kernel) (by decide +kernel), ⟨by decide +kernel, by decide +kernel, by decide +kernel⟩, by decide +kernel, by decide +kernel⟩, lw_g_of (by decide +kernel) (by decide +kernel), lw_g_of (by decide +kernel) (by decide +kernel)⟩
theorem v_X4_kinds : CV0 M_X4_kinds 1 := ⟨⟨lw_g_of (by decide +kernel) (by decide +kernel), lw_g_of (by decide +kernel) (by decide +kernel), ⟨by decide +kernel, by decide +kernel, by decide +kernel⟩, by decide +kernel, by decide +kernel⟩, lw_g_of (by decide +kernel) (by decide +kernel), lw_g_of (by decide +kernel) (by decide +kernel)⟩
theorem v_X5_comes : CV0 M_X5_comes 1 := ⟨⟨lw_g_of (by decide +kernel) (by decide +kernel), lw_g_of (by decide +kernel) (by decide +kernel), ⟨by decide +kernel, by decide +kernel, by decide +kernel⟩, by decide +kernel, by decide +kernel⟩, lw_g_of (by decide +kernel) (by decide +kernel), lw_g_of (by decide +kernel) (by decide +kernel)⟩
theorem v_X5_kinds : CV0 M_X5_kinds 1 := ⟨⟨lw_g_of (by decide +kernel) (by decide +kernel), lw_g_of (by decide +kernel) (by decide +kernel), ⟨by decide +kernel, by decide +kernel, by decide +kernel⟩, by decide +kernel, by decide +kernel⟩, lw_g_of (by decide +kernel) (by decide +kernel), lw_g_of (by decide +kernel) (by decide +kernel)⟩
theorem v_X4_habits : CV0 M_X4_habits 1 := ⟨⟨lw_g_of (by decide +kernel) (by decide +kernel), lw_g_of (by decide +kernel) (by decide +kernel), ⟨by decide +kernel, by decide +kernel, by decide +kernel⟩, by decide +kernel, by decide +kernel⟩, lw_g_of (by decide +kernel) (by decide +kernel), lw_g_of (by decide +kernel) (by decide +kernel)⟩
theorem v_X5_habits : CV0 M_X5_habits 1 := ⟨⟨lw_g_of (by decide +kernel) (by decide +kernel), lw_g_of (by decide +kernel) (by decide +kernel), ⟨by decide +kernel, by decide +kernel, by decide +kernel⟩, by decide +kernel, by decide +kernel⟩, lw_g_of (by decide +kernel) (by decide +kernel), lw_g_of (by decide +kernel) (by decide +kernel)⟩
theorem v_X4_daysToFirstRight : CV0 M_X4_daysToFirstRight 2 := ⟨⟨lw_g_of (by decide +kernel) (by decide +kernel), lw_g_of (by decide +kernel) (by decide +kernel), ⟨by decide +kernel, by decide +kernel, by decide +kernel⟩, by decide +kernel, by decide +kernel⟩, lw_g_of (by decide +kernel) (by decide +kernel), lw_g_of (by decide +kernel) (by decide +kernel)⟩
theorem v_X4_power : CS0 M_X4_power 2 := ⟨⟨lw_g_of (by decide +kernel) (by decide +kernel), lw_g_of (by decide +kernel) (by decide +kernel), ⟨by decide +kernel, by decide +kernel, by decide +kernel⟩, by decide +kernel, by decide +kernel⟩, lw_g_of (by decide +kernel) (by decide +kernel)⟩
theorem v_X4_commonDivisor : CS0 M_X4_commonDivisor 2 := ⟨⟨lw_g_of (by decide +kernel) (by decide +kernel), lw_g_of (by decide +kernel) (by decide +kernel), ⟨by decide +kernel, by decide +kernel, by decide +kernel⟩, by decide +kernel, by decide +kernel⟩, lw_g_of (by decide +kernel) (by decide +kernel)⟩
theorem v_X4_foxes : CV0 M_X4_foxes 4 := ⟨⟨lw_g_of (by decide +kernel) (by decide +kernel), lw_g_of (by decide +kernel) (by decide +kernel), ⟨by decide +kernel, by decide +kernel, by decide +kernel⟩, by decide +kernel, by decide +kernel⟩, lw_g_of (by decide +kernel) (by decide +kernel), lw_g_of (by decide +kernel) (by decide +kernel)⟩
theorem v_X5_foxes : CV0 M_X5_foxes 4 := ⟨⟨lw_g_of (by decide +kernel) (by decide +kernel), lw_g_of (by decide +kernel) (by decide +kernel), ⟨by decide +kernel, by decide +kernel, by decide +kernel⟩, by decide +kernel, by decide +kernel⟩, lw_g_of (by decide +kernel) (by decide +kernel), lw_g_of (by decide +kernel) (by decide +kernel)⟩
theorem v_X4_sum : CS0 M_X4_sum 1 := ⟨⟨lw_g_of (by decide +kernel) (by decide +kernel), lw_g_of (by decide +kernel) (by decide +kernel), ⟨by decide +kernel, by decide +kernel, by decide +kernel⟩, by decide +kernel, by decide +kernel⟩, lw_g_of (by decide +kernel) (by decide +kernel)⟩
theorem v_X4_count : CV0 M_X4_count 1 := ⟨⟨lw_g_of (by decide +kernel) (by decide +kernel), lw_g_of (by decide +kernel) (by decide +kernel), ⟨by decide +kernel, by decide +kernel, by decide +kernel⟩, by decide +kernel, by decide +kernel⟩, lw_g_of (by decide +kernel) (by decide +kernel), lw_g_of (by decide +kernel) (by decide +kernel)⟩
theorem v_X5_count : CV0 M_X5_count 1 := ⟨⟨lw_g_of (by decide +kernel) (by decide +kernel), lw_g_of (by decide +kernel) (by decide +kernel), ⟨by decide +kernel, by decide +kernel, by decide +kernel⟩, by decide +kernel, by decide +kernel⟩, lw_g_of (by decide +kernel) (by decide +kernel), lw_g_of (by decide +kernel) (by decide +kernel)⟩
theorem l_X1_3 : Cond.methodLink RX1 3 Lib.objectInit ∈ lw_g := lw_g_of (by decide +kernel) (by decide +kernel)
theorem f_X1_9 : FL RX1 9 1 0 := ⟨_, rfl, by decide, lw_g_of (by decide +kernel) (by decide +kernel)⟩
theorem l_X2_3 : Cond.methodLink RX2 3 Lib.objectInit ∈ lw_g := lw_g_of (by decide +kernel) (by decide +kernel)
theorem f_X2_9 : FL RX2 9 2 2 := ⟨_, rfl, by decide, lw_g_of (by decide +kernel) (by decide +kernel)⟩
theorem f_X2_15 : FL RX2 15 2 3 := ⟨_, rfl, by decide, lw_g_of (by decide +kernel) (by decide +kernel)⟩
theorem f_X2_18 : FL RX2 18 2 4 := ⟨_, rfl, by decide, lw_g_of (by decide +kernel) (by decide +kernel)⟩
theorem f_X2_21 : FL RX2 21 2 5 := ⟨_, rfl, by decide, lw_g_of (by decide +kernel) (by decide +kernel)⟩
theorem f_X2_24 : FL RX2 24 2 6 := ⟨_, rfl, by decide, lw_g_of (by decide +kernel) (by decide +kernel)⟩
theorem f_X2_27 : FL RX2 27 2 7 := ⟨_, rfl, by decide, lw_g_of (by decide +kernel) (by decide +kernel)⟩
theorem l_X2_30 : ML RX2 30 M_J7_fill_53178 := lw_g_of (by decide +kernel) (by decide +kernel)
theorem l_X3_3 : Cond.methodLink RX3 3 Lib.objectInit ∈ lw_g := lw_g_of (by decide +kernel) (by decide +kernel)
theorem f_X3_9 : FL RX3 9 3 0 := ⟨_, rfl, by decide, lw_g_of (by decide +kernel) (by decide +kernel)⟩
theorem f_X3_15 : FL RX3 15 3 1 := ⟨_, rfl, by decide, lw_g_of (by decide +kernel) (by decide +kernel)⟩
theorem f_X3_18 : FL RX3 18 3 2 := ⟨_, rfl, by decide, lw_g_of (by decide +kernel) (by decide +kernel)⟩
theorem f_X3_21 : FL RX3 21 3 3 := ⟨_, rfl, by decide, lw_g_of (by decide +kernel) (by decide +kernel)⟩
theorem f_X3_24 : FL RX3 24 3 4 := ⟨_, rfl, by decide, lw_g_of (by decide +kernel) (by decide +kernel)⟩
theorem f_X3_27 : FL RX3 27 3 5 := ⟨_, rfl, by decide, lw_g_of (by decide +kernel) (by decide +kernel)⟩
theorem f_X3_30 : FL RX3 30 3 6 := ⟨_, rfl, by decide, lw_g_of (by decide +kernel) (by decide +kernel)⟩
theorem f_X3_33 : FL RX3 33 3 7 := ⟨_, rfl, by decide, lw_g_of (by decide +kernel) (by decide +kernel)⟩
theorem f_X3_36 : FL RX3 36 3 8 := ⟨_, rfl, by decide, lw_g_of (by decide +kernel) (by decide +kernel)⟩
theorem l_X3_39 : ML RX3 39 M_J7_fill_53178 := lw_g_of (by decide +kernel) (by decide +kernel)
theorem l_X0_3 : Cond.methodLink RX0 3 Lib.objectInit ∈ lw_g := lw_g_of (by decide +kernel) (by decide +kernel)
theorem f_X0_9 : FL RX0 9 0 0 := ⟨_, rfl, by decide, lw_g_of (by decide +kernel) (by decide +kernel)⟩
theorem f_X0_15 : FL RX0 15 0 1 := ⟨_, rfl, by decide, lw_g_of (by decide +kernel) (by decide +kernel)⟩
theorem f_X0_18 : FL RX0 18 0 2 := ⟨_, rfl, by decide, lw_g_of (by decide +kernel) (by decide +kernel)⟩
theorem l_X4_1 : Cond.methodLink RX4 1 Lib.objectInit ∈ lw_g := lw_g_of (by decide +kernel) (by decide +kernel)
theorem n_X4_7 : Cond.classLink RX4 7 RX1 ∈ lw_g := lw_g_of (by decide +kernel) (by decide +kernel)
theorem f_X4_10 : FL RX4 10 4 0 := ⟨_, rfl, by decide, lw_g_of (by decide +kernel) (by decide +kernel)⟩
theorem n_X4_16 : Cond.classLink RX4 16 RX2 ∈ lw_g := lw_g_of (by decide +kernel) (by decide +kernel)
theorem l_X4_18 : ML RX4 18 M_X2_init := lw_g_of (by decide +kernel) (by decide +kernel)
theorem f_X4_19 : FL RX4 19 4 1 := ⟨_, rfl, by decide, lw_g_of (by decide +kernel) (by decide +kernel)⟩
theorem f_X4_23 : FL RX4 23 4 2 := ⟨_, rfl, by decide, lw_g_of (by decide +kernel) (by decide +kernel)⟩
theorem n_X4_26 : Cond.classLink RX4 26 RX3 ∈ lw_g := lw_g_of (by decide +kernel) (by decide +kernel)
theorem l_X4_28 : ML RX4 28 M_X3_init := lw_g_of (by decide +kernel) (by decide +kernel)
theorem f_X4_29 : FL RX4 29 4 3 := ⟨_, rfl, by decide, lw_g_of (by decide +kernel) (by decide +kernel)⟩
theorem f_X4_33 : FL RX4 33 4 4 := ⟨_, rfl, by decide, lw_g_of (by decide +kernel) (by decide +kernel)⟩
theorem f_X4_36 : FL RX4 36 4 5 := ⟨_, rfl, by decide, lw_g_of (by decide +kernel) (by decide +kernel)⟩
theorem f_X4_40 : FL RX4 40 4 7 := ⟨_, rfl, by decide, lw_g_of (by decide +kernel) (by decide +kernel)⟩
theorem f_X4_43 : FL RX4 43 4 8 := ⟨_, rfl, by decide, lw_g_of (by decide +kernel) (by decide +kernel)⟩
theorem n_X4_47 : Cond.classLink RX4 47 RX0 ∈ lw_g := lw_g_of (by decide +kernel) (by decide +kernel)
theorem f_X4_50 : FL RX4 50 4 9 := ⟨_, rfl, by decide, lw_g_of (by decide +kernel) (by decide +kernel)⟩
theorem f_X4_54 : FL RX4 54 4 10 := ⟨_, rfl, by decide, lw_g_of (by decide +kernel) (by decide +kernel)⟩
theorem f_X5_16 : FL RX5 16 5 2 := ⟨_, rfl, by decide, lw_g_of (by decide +kernel) (by decide +kernel)⟩
theorem f_X5_7 : FL RX5 7 5 0 := ⟨_, rfl, by decide, lw_g_of (by decide +kernel) (by decide +kernel)⟩
theorem f_X5_54 : FL RX5 54 5 4 := ⟨_, rfl, by decide, lw_g_of (by decide +kernel) (by decide +kernel)⟩
theorem f_X5_25 : FL RX5 25 5 6 := ⟨_, rfl, by decide, lw_g_of (by decide +kernel) (by decide +kernel)⟩
theorem f_X5_58 : FL RX5 58 5 10 := ⟨_, rfl, by decide, lw_g_of (by decide +kernel) (by decide +kernel)⟩
theorem l_X5_1 : Cond.methodLink RX5 1 Lib.objectInit ∈ lw_g := lw_g_of (by decide +kernel) (by decide +kernel)
theorem f_X5_13 : FL RX5 13 5 1 := ⟨_, rfl, by decide, lw_g_of (by decide +kernel) (by decide +kernel)⟩
theorem f_X5_19 : FL RX5 19 5 3 := ⟨_, rfl, by decide, lw_g_of (by decide +kernel) (by decide +kernel)⟩
theorem f_X5_22 : FL RX5 22 5 5 := ⟨_, rfl, by decide, lw_g_of (by decide +kernel) (by decide +kernel)⟩
theorem f_X5_29 : FL RX5 29 5 7 := ⟨_, rfl, by decide, lw_g_of (by decide +kernel) (by decide +kernel)⟩
theorem f_X5_32 : FL RX5 32 5 9 := ⟨_, rfl, by decide, lw_g_of (by decide +kernel) (by decide +kernel)⟩
theorem f_X5_35 : FL RX5 35 5 17 := ⟨_, rfl, by decide, lw_g_of (by decide +kernel) (by decide +kernel)⟩
theorem f_X5_38 : FL RX5 38 5 18 := ⟨_, rfl, by decide, lw_g_of (by decide +kernel) (by decide +kernel)⟩
theorem f_X5_41 : FL RX5 41 5 19 := ⟨_, rfl, by decide, lw_g_of (by decide +kernel) (by decide +kernel)⟩
theorem f_X5_44 : FL RX5 44 5 20 := ⟨_, rfl, by decide, lw_g_of (by decide +kernel) (by decide +kernel)⟩
theorem l_X5_47 : ML RX5 47 M_X5_blank := lw_g_of (by decide +kernel) (by decide +kernel)
theorem l_X5_51 : ML RX5 51 M_X5_begins := lw_g_of (by decide +kernel) (by decide +kernel)
theorem f_X1_15 : FL RX1 15 1 1 := ⟨_, rfl, by decide, lw_g_of (by decide +kernel) (by decide +kernel)⟩
theorem f_X4_58 : FL RX4 58 1 1 := ⟨_, rfl, by decide, lw_g_of (by decide +kernel) (by decide +kernel)⟩
theorem l_X4_62 : ML RX4 62 M_X1_append := lw_g_of (by decide +kernel) (by decide +kernel)
theorem k_X5_61 : Cond.constantLong RX5 61 (255) ∈ lw_g := lw_g_of (by decide +kernel) (by decide +kernel)
theorem l_X5_63 : ML RX5 63 M_X5_in := lw_g_of (by decide +kernel) (by decide +kernel)
theorem f_X5_67 : FL RX5 67 5 8 := ⟨_, rfl, by decide, lw_g_of (by decide +kernel) (by decide +kernel)⟩
theorem f_X2_36 : FL RX2 36 2 0 := ⟨_, rfl, by decide, lw_g_of (by decide +kernel) (by decide +kernel)⟩
theorem f_X2_40 : FL RX2 40 2 1 := ⟨_, rfl, by decide, lw_g_of (by decide +kernel) (by decide +kernel)⟩
theorem l_X2_52 : Cond.methodLink RX2 52 arraycopyName ∈ lw_g := lw_g_of (by decide +kernel) (by decide +kernel)
theorem f_X1_22 : FL RX1 22 1 4 := ⟨_, rfl, by decide, lw_g_of (by decide +kernel) (by decide +kernel)⟩
theorem f_X1_29 : FL RX1 29 1 3 := ⟨_, rfl, by decide, lw_g_of (by decide +kernel) (by decide +kernel)⟩
theorem l_X1_110 : ML RX1 110 M_X1_isSmall := lw_g_of (by decide +kernel) (by decide +kernel)
theorem l_X1_106 : ML RX1 106 M_X1_isDigit := lw_g_of (by decide +kernel) (by decide +kernel)
theorem f_J0_38 : Cond.fieldLink RJ0 38 "java/lang/String" "COMPACT_STRINGS" "Z" ∈ lw_g := lw_g_of (by decide +kernel) (by decide +kernel)
theorem f_J0_15 : Cond.fieldLink RJ0 15 "java/lang/String" "coder" "B" ∈ lw_g := lw_g_of (by decide +kernel) (by decide +kernel)
theorem f_J0_9 : Cond.fieldLink RJ0 9 "java/lang/String" "value" "[B" ∈ lw_g := lw_g_of (by decide +kernel) (by decide +kernel)
theorem l_J0_335 : ML RJ0 335 M_J0_coder_7d493 := lw_g_of (by decide +kernel) (by decide +kernel)
theorem f_J0_1053 : Cond.fieldLink RJ0 1053 "jdk/internal/util/Preconditions" "SIOOBE_FORMATTER" "Ljava/util/function/BiFunction;" ∈ lw_g := lw_g_of (by decide +kernel) (by decide +kernel)
theorem l_J0_1059 : ML RJ0 1059 M_J3_checkIndex_8e157 := lw_g_of (by decide +kernel) (by decide +kernel)
theorem l_J1_9 : ML RJ1 9 M_J0_checkIndex_df160 := lw_g_of (by decide +kernel) (by decide +kernel)
theorem l_J0_492 : ML RJ0 492 M_J0_isLatin1_aae02 := lw_g_of (by decide +kernel) (by decide +kernel)
theorem l_J0_495 : ML RJ0 495 M_J1_charAt_3b067 := lw_g_of (by decide +kernel) (by decide +kernel)
theorem l_X1_98 : ML RX1 98 M_J0_length_8abf5 := lw_g_of (by decide +kernel) (by decide +kernel)
theorem l_X1_102 : ML RX1 102 M_J0_charAt_5068e := lw_g_of (by decide +kernel) (by decide +kernel)
theorem l_X2_43 : ML RX2 43 M_X2_clearNews := lw_g_of (by decide +kernel) (by decide +kernel)
theorem l_X1_32 : ML RX1 32 M_X1_nextToken := lw_g_of (by decide +kernel) (by decide +kernel)
theorem l_X1_75 : ML RX1 75 M_X1_nextNumber := lw_g_of (by decide +kernel) (by decide +kernel)
theorem l_X1_79 : ML RX1 79 M_X2_addPlace := lw_g_of (by decide +kernel) (by decide +kernel)
theorem f_X1_83 : FL RX1 83 2 7 := ⟨_, rfl, by decide, lw_g_of (by decide +kernel) (by decide +kernel)⟩
theorem l_X1_37 : ML RX1 37 M_X1_reads := lw_g_of (by decide +kernel) (by decide +kernel)
theorem l_X1_86 : ML RX1 86 M_X2_addHen := lw_g_of (by decide +kernel) (by decide +kernel)
theorem l_X1_41 : ML RX1 41 M_X2_clear := lw_g_of (by decide +kernel) (by decide +kernel)
theorem l_X1_48 : ML RX1 48 M_X2_clearNews := lw_g_of (by decide +kernel) (by decide +kernel)
theorem f_X1_53 : FL RX1 53 2 0 := ⟨_, rfl, by decide, lw_g_of (by decide +kernel) (by decide +kernel)⟩
theorem l_X1_56 : ML RX1 56 M_X1_readPlace := lw_g_of (by decide +kernel) (by decide +kernel)
theorem l_X1_61 : ML RX1 61 M_X1_readNews := lw_g_of (by decide +kernel) (by decide +kernel)
theorem l_X1_64 : ML RX1 64 M_X1_kindRead := lw_g_of (by decide +kernel) (by decide +kernel)
theorem f_X1_68 : FL RX1 68 2 1 := ⟨_, rfl, by decide, lw_g_of (by decide +kernel) (by decide +kernel)⟩
theorem l_X1_71 : ML RX1 71 M_X1_readHen := lw_g_of (by decide +kernel) (by decide +kernel)
theorem f_X1_19 : FL RX1 19 1 2 := ⟨_, rfl, by decide, lw_g_of (by decide +kernel) (by decide +kernel)⟩
theorem l_X1_25 : ML RX1 25 M_X1_readClause := lw_g_of (by decide +kernel) (by decide +kernel)
theorem l_X4_66 : ML RX4 66 M_X2_copyFrom := lw_g_of (by decide +kernel) (by decide +kernel)
theorem l_X4_70 : ML RX4 70 M_X1_readInto := lw_g_of (by decide +kernel) (by decide +kernel)
theorem f_X5_70 : FL RX5 70 5 11 := ⟨_, rfl, by decide, lw_g_of (by decide +kernel) (by decide +kernel)⟩
theorem l_X5_73 : ML RX5 73 M_X5_here := lw_g_of (by decide +kernel) (by decide +kernel)
theorem f_X5_77 : FL RX5 77 5 12 := ⟨_, rfl, by decide, lw_g_of (by decide +kernel) (by decide +kernel)⟩
theorem f_X5_80 : FL RX5 80 5 14 := ⟨_, rfl, by decide, lw_g_of (by decide +kernel) (by decide +kernel)⟩
theorem f_X5_84 : FL RX5 84 5 15 := ⟨_, rfl, by decide, lw_g_of (by decide +kernel) (by decide +kernel)⟩
theorem k_X5_87 : Cond.constantLong RX5 87 (97) ∈ lw_g := lw_g_of (by decide +kernel) (by decide +kernel)
theorem k_X5_89 : Cond.constantLong RX5 89 (122) ∈ lw_g := lw_g_of (by decide +kernel) (by decide +kernel)
theorem k_X5_91 : Cond.constantLong RX5 91 (48) ∈ lw_g := lw_g_of (by decide +kernel) (by decide +kernel)
theorem k_X5_93 : Cond.constantLong RX5 93 (57) ∈ lw_g := lw_g_of (by decide +kernel) (by decide +kernel)
theorem f_X5_95 : FL RX5 95 5 13 := ⟨_, rfl, by decide, lw_g_of (by decide +kernel) (by decide +kernel)⟩
theorem k_X5_98 : Cond.constantLong RX5 98 (256) ∈ lw_g := lw_g_of (by decide +kernel) (by decide +kernel)
theorem k_X5_100 : Cond.constantLong RX5 100 (-1) ∈ lw_g := lw_g_of (by decide +kernel) (by decide +kernel)
theorem l_X5_102 : ML RX5 102 M_X5_step := lw_g_of (by decide +kernel) (by decide +kernel)
theorem l_X5_105 : ML RX5 105 M_X5_number := lw_g_of (by decide +kernel) (by decide +kernel)
theorem k_X5_109 : Cond.constantLong RX5 109 (2036429412) ∈ lw_g := lw_g_of (by decide +kernel) (by decide +kernel)
theorem l_X5_111 : ML RX5 111 M_X5_anew := lw_g_of (by decide +kernel) (by decide +kernel)
theorem k_X5_115 : Cond.constantLong RX5 115 (482854658917) ∈ lw_g := lw_g_of (by decide +kernel) (by decide +kernel)
theorem l_X5_117 : ML RX5 117 M_X5_readsPlace := lw_g_of (by decide +kernel) (by decide +kernel)
theorem k_X5_120 : Cond.constantLong RX5 120 (1852143475) ∈ lw_g := lw_g_of (by decide +kernel) (by decide +kernel)
theorem l_X5_122 : ML RX5 122 M_X5_readsNews := lw_g_of (by decide +kernel) (by decide +kernel)
theorem k_X5_125 : Cond.constantLong RX5 125 (1667329133) ∈ lw_g := lw_g_of (by decide +kernel) (by decide +kernel)
theorem l_X5_127 : ML RX5 127 M_X5_calm := lw_g_of (by decide +kernel) (by decide +kernel)
theorem k_X5_130 : Cond.constantLong RX5 130 (465491813746) ∈ lw_g := lw_g_of (by decide +kernel) (by decide +kernel)
theorem k_X5_132 : Cond.constantLong RX5 132 (108243635364985) ∈ lw_g := lw_g_of (by decide +kernel) (by decide +kernel)
theorem k_X5_134 : Cond.constantLong RX5 134 (123649632527732) ∈ lw_g := lw_g_of (by decide +kernel) (by decide +kernel)
theorem k_X5_136 : Cond.constantLong RX5 136 (426953502305) ∈ lw_g := lw_g_of (by decide +kernel) (by decide +kernel)
theorem l_X5_138 : ML RX5 138 M_X5_readsHen := lw_g_of (by decide +kernel) (by decide +kernel)
theorem l_X5_141 : ML RX5 141 M_X5_copies := lw_g_of (by decide +kernel) (by decide +kernel)
theorem f_X5_145 : FL RX5 145 5 16 := ⟨_, rfl, by decide, lw_g_of (by decide +kernel) (by decide +kernel)⟩
theorem l_X5_148 : ML RX5 148 M_X5_readsClause := lw_g_of (by decide +kernel) (by decide +kernel)
theorem l_X5_151 : ML RX5 151 M_X5_reads := lw_g_of (by decide +kernel) (by decide +kernel)
theorem f_X3_45 : FL RX3 45 2 2 := ⟨_, rfl, by decide, lw_g_of (by decide +kernel) (by decide +kernel)⟩
theorem l_X3_48 : Cond.methodLink RX3 48 arraycopyName ∈ lw_g := lw_g_of (by decide +kernel) (by decide +kernel)
theorem f_X3_54 : FL RX3 54 2 3 := ⟨_, rfl, by decide, lw_g_of (by decide +kernel) (by decide +kernel)⟩
theorem f_X3_55 : FL RX3 55 2 5 := ⟨_, rfl, by decide, lw_g_of (by decide +kernel) (by decide +kernel)⟩
theorem f_X3_56 : FL RX3 56 2 6 := ⟨_, rfl, by decide, lw_g_of (by decide +kernel) (by decide +kernel)⟩
theorem f_X3_57 : FL RX3 57 3 9 := ⟨_, rfl, by decide, lw_g_of (by decide +kernel) (by decide +kernel)⟩
theorem f_X3_61 : FL RX3 61 3 10 := ⟨_, rfl, by decide, lw_g_of (by decide +kernel) (by decide +kernel)⟩
theorem f_X3_65 : FL RX3 65 3 11 := ⟨_, rfl, by decide, lw_g_of (by decide +kernel) (by decide +kernel)⟩
theorem f_X3_68 : FL RX3 68 3 12 := ⟨_, rfl, by decide, lw_g_of (by decide +kernel) (by decide +kernel)⟩
theorem f_X3_71 : FL RX3 71 3 13 := ⟨_, rfl, by decide, lw_g_of (by decide +kernel) (by decide +kernel)⟩
theorem l_X4_74 : ML RX4 74 M_X3_beginAs := lw_g_of (by decide +kernel) (by decide +kernel)
theorem f_X4_77 : FL RX4 77 0 3 := ⟨_, rfl, by decide, lw_g_of (by decide +kernel) (by decide +kernel)⟩
theorem f_X4_80 : FL RX4 80 4 6 := ⟨_, rfl, by decide, lw_g_of (by decide +kernel) (by decide +kernel)⟩
theorem f_X4_83 : FL RX4 83 1 2 := ⟨_, rfl, by decide, lw_g_of (by decide +kernel) (by decide +kernel)⟩
theorem f_X4_127 : FL RX4 127 2 0 := ⟨_, rfl, by decide, lw_g_of (by decide +kernel) (by decide +kernel)⟩
theorem l_X4_86 : ML RX4 86 M_X4_isPlace := lw_g_of (by decide +kernel) (by decide +kernel)
theorem f_X4_90 : FL RX4 90 3 0 := ⟨_, rfl, by decide, lw_g_of (by decide +kernel) (by decide +kernel)⟩
theorem f_X4_93 : FL RX4 93 3 1 := ⟨_, rfl, by decide, lw_g_of (by decide +kernel) (by decide +kernel)⟩
theorem f_X4_96 : FL RX4 96 2 4 := ⟨_, rfl, by decide, lw_g_of (by decide +kernel) (by decide +kernel)⟩
theorem f_X4_99 : FL RX4 99 3 2 := ⟨_, rfl, by decide, lw_g_of (by decide +kernel) (by decide +kernel)⟩
theorem l_X5_163 : ML RX5 163 M_X5_isPlace := lw_g_of (by decide +kernel) (by decide +kernel)
theorem f_X4_177 : FL RX4 177 2 1 := ⟨_, rfl, by decide, lw_g_of (by decide +kernel) (by decide +kernel)⟩
theorem l_X4_102 : ML RX4 102 M_X4_isHen := lw_g_of (by decide +kernel) (by decide +kernel)
theorem f_X4_105 : FL RX4 105 3 4 := ⟨_, rfl, by decide, lw_g_of (by decide +kernel) (by decide +kernel)⟩
theorem f_X4_108 : FL RX4 108 3 5 := ⟨_, rfl, by decide, lw_g_of (by decide +kernel) (by decide +kernel)⟩
theorem f_X4_111 : FL RX4 111 3 6 := ⟨_, rfl, by decide, lw_g_of (by decide +kernel) (by decide +kernel)⟩
theorem f_X4_114 : FL RX4 114 3 7 := ⟨_, rfl, by decide, lw_g_of (by decide +kernel) (by decide +kernel)⟩
theorem f_X4_117 : FL RX4 117 3 8 := ⟨_, rfl, by decide, lw_g_of (by decide +kernel) (by decide +kernel)⟩
theorem l_X5_166 : ML RX5 166 M_X5_isHen := lw_g_of (by decide +kernel) (by decide +kernel)
theorem f_X4_120 : FL RX4 120 2 7 := ⟨_, rfl, by decide, lw_g_of (by decide +kernel) (by decide +kernel)⟩
theorem k_X5_169 : Cond.constantLong RX5 169 (13) ∈ lw_g := lw_g_of (by decide +kernel) (by decide +kernel)
theorem f_X3_100 : FL RX3 100 2 4 := ⟨_, rfl, by decide, lw_g_of (by decide +kernel) (by decide +kernel)⟩
theorem f_X3_93 : FL RX3 93 2 0 := ⟨_, rfl, by decide, lw_g_of (by decide +kernel) (by decide +kernel)⟩
theorem l_X4_123 : ML RX4 123 M_X4_isUnder := lw_g_of (by decide +kernel) (by decide +kernel)
theorem l_X4_130 : ML RX4 130 M_X3_likes := lw_g_of (by decide +kernel) (by decide +kernel)
theorem k_X5_171 : Cond.constantLong RX5 171 (4) ∈ lw_g := lw_g_of (by decide +kernel) (by decide +kernel)
theorem l_X5_173 : ML RX5 173 M_X5_asTold := lw_g_of (by decide +kernel) (by decide +kernel)
theorem l_X5_155 : ML RX5 155 M_X5_likes := lw_g_of (by decide +kernel) (by decide +kernel)
theorem l_X4_213 : ML RX4 213 M_X4_dropOldest := lw_g_of (by decide +kernel) (by decide +kernel)
theorem l_X4_163 : ML RX4 163 M_X3_copyFrom := lw_g_of (by decide +kernel) (by decide +kernel)
theorem l_X3_96 : ML RX3 96 M_X3_likes := lw_g_of (by decide +kernel) (by decide +kernel)
theorem l_X2_46 : ML RX2 46 M_J9_floorMod_7cf53 := lw_g_of (by decide +kernel) (by decide +kernel)
theorem f_X3_74 : FL RX3 74 2 1 := ⟨_, rfl, by decide, lw_g_of (by decide +kernel) (by decide +kernel)⟩
theorem l_X3_77 : ML RX3 77 M_X3_laysToday := lw_g_of (by decide +kernel) (by decide +kernel)
theorem l_X3_81 : ML RX3 81 M_X3_favourite := lw_g_of (by decide +kernel) (by decide +kernel)
theorem l_X3_85 : ML RX3 85 M_X2_newsOf := lw_g_of (by decide +kernel) (by decide +kernel)
theorem l_X3_89 : ML RX3 89 M_X3_layEgg := lw_g_of (by decide +kernel) (by decide +kernel)
theorem f_X4_134 : FL RX4 134 3 9 := ⟨_, rfl, by decide, lw_g_of (by decide +kernel) (by decide +kernel)⟩
theorem l_X4_137 : ML RX4 137 M_X4_remember := lw_g_of (by decide +kernel) (by decide +kernel)
theorem l_X4_140 : ML RX4 140 M_X3_passDay := lw_g_of (by decide +kernel) (by decide +kernel)
theorem l_X4_143 : ML RX4 143 M_X3_eggBits := lw_g_of (by decide +kernel) (by decide +kernel)
theorem k_X5_154 : Cond.constant RX5 154 (-1000000) ∈ lw_g := lw_g_of (by decide +kernel) (by decide +kernel)
theorem l_X5_159 : ML RX5 159 M_X5_bestOf := lw_g_of (by decide +kernel) (by decide +kernel)
theorem l_X5_176 : ML RX5 176 M_X5_remember := lw_g_of (by decide +kernel) (by decide +kernel)
theorem l_X5_179 : ML RX5 179 M_X5_goes := lw_g_of (by decide +kernel) (by decide +kernel)
theorem f_X4_147 : FL RX4 147 3 10 := ⟨_, rfl, by decide, lw_g_of (by decide +kernel) (by decide +kernel)⟩
theorem k_X5_183 : Cond.constantLong RX5 183 (9) ∈ lw_g := lw_g_of (by decide +kernel) (by decide +kernel)
theorem l_X5_185 : ML RX5 185 M_X5_moves := lw_g_of (by decide +kernel) (by decide +kernel)
theorem f_X4_151 : FL RX4 151 3 11 := ⟨_, rfl, by decide, lw_g_of (by decide +kernel) (by decide +kernel)⟩
theorem f_X4_154 : FL RX4 154 3 12 := ⟨_, rfl, by decide, lw_g_of (by decide +kernel) (by decide +kernel)⟩
theorem f_X4_157 : FL RX4 157 3 13 := ⟨_, rfl, by decide, lw_g_of (by decide +kernel) (by decide +kernel)⟩
theorem f_X4_160 : FL RX4 160 3 3 := ⟨_, rfl, by decide, lw_g_of (by decide +kernel) (by decide +kernel)⟩
theorem l_X5_189 : ML RX5 189 M_X5_isTwo := lw_g_of (by decide +kernel) (by decide +kernel)
theorem l_X4_166 : ML RX4 166 M_X4_foretell := lw_g_of (by decide +kernel) (by decide +kernel)
theorem l_X4_170 : ML RX4 170 M_X3_placeOfEgg := lw_g_of (by decide +kernel) (by decide +kernel)
theorem k_X5_192 : Cond.constantLong RX5 192 (30) ∈ lw_g := lw_g_of (by decide +kernel) (by decide +kernel)
theorem l_X5_194 : ML RX5 194 M_X5_layAside := lw_g_of (by decide +kernel) (by decide +kernel)
theorem l_X5_197 : ML RX5 197 M_X5_go := lw_g_of (by decide +kernel) (by decide +kernel)
theorem l_X4_174 : ML RX4 174 M_X4_rightsForetold := lw_g_of (by decide +kernel) (by decide +kernel)
theorem l_X4_228 : ML RX4 228 M_X4_hitIndex := lw_g_of (by decide +kernel) (by decide +kernel)
theorem l_X4_216 : ML RX4 216 M_J7_fill_53178 := lw_g_of (by decide +kernel) (by decide +kernel)
theorem l_X4_222 : ML RX4 222 M_X2_newsOf := lw_g_of (by decide +kernel) (by decide +kernel)
theorem l_X4_225 : ML RX4 225 M_X4_tallyEggs := lw_g_of (by decide +kernel) (by decide +kernel)
theorem l_X4_180 : ML RX4 180 M_X4_tallyHits := lw_g_of (by decide +kernel) (by decide +kernel)
theorem l_X4_183 : ML RX4 183 M_X4_gainOfMove := lw_g_of (by decide +kernel) (by decide +kernel)
theorem k_X5_201 : Cond.constantLong RX5 201 (20) ∈ lw_g := lw_g_of (by decide +kernel) (by decide +kernel)
theorem l_X5_203 : ML RX5 203 M_X5_rightsOfAll := lw_g_of (by decide +kernel) (by decide +kernel)
theorem f_X0_21 : FL RX0 21 0 3 := ⟨_, rfl, by decide, lw_g_of (by decide +kernel) (by decide +kernel)⟩
theorem l_X4_187 : ML RX4 187 M_X0_add := lw_g_of (by decide +kernel) (by decide +kernel)
theorem k_X5_206 : Cond.constantLong RX5 206 (14) ∈ lw_g := lw_g_of (by decide +kernel) (by decide +kernel)
theorem l_X0_25 : ML RX0 25 M_J9_max_7cf53 := lw_g_of (by decide +kernel) (by decide +kernel)
theorem l_X4_231 : ML RX4 231 M_X0_lastDayOf := lw_g_of (by decide +kernel) (by decide +kernel)
theorem l_X4_234 : ML RX4 234 M_X0_agree := lw_g_of (by decide +kernel) (by decide +kernel)
theorem l_X4_191 : ML RX4 191 M_X4_wouldBeSeen := lw_g_of (by decide +kernel) (by decide +kernel)
theorem l_X5_208 : ML RX5 208 M_X5_comes := lw_g_of (by decide +kernel) (by decide +kernel)
theorem l_X4_195 : ML RX4 195 M_X4_daysToFirstRight := lw_g_of (by decide +kernel) (by decide +kernel)
theorem l_X4_198 : ML RX4 198 M_X4_power := lw_g_of (by decide +kernel) (by decide +kernel)
theorem l_X4_201 : ML RX4 201 M_X4_commonDivisor := lw_g_of (by decide +kernel) (by decide +kernel)
theorem l_X4_204 : ML RX4 204 M_J9_max_7cf53 := lw_g_of (by decide +kernel) (by decide +kernel)
theorem k_X5_211 : Cond.constantLong RX5 211 (6) ∈ lw_g := lw_g_of (by decide +kernel) (by decide +kernel)
theorem k_X5_213 : Cond.constantLong RX5 213 (10) ∈ lw_g := lw_g_of (by decide +kernel) (by decide +kernel)
theorem l_X4_209 : ML RX4 209 M_X4_sum := lw_g_of (by decide +kernel) (by decide +kernel)
theorem n_L_7 : Cond.classLink RL 7 RX4 ∈ lw_g := lw_g_of (by decide +kernel) (by decide +kernel)
theorem l_L_9 : ML RL 9 M_X4_init := lw_g_of (by decide +kernel) (by decide +kernel)
theorem n_L_10 : Cond.classLink RL 10 RX5 ∈ lw_g := lw_g_of (by decide +kernel) (by decide +kernel)
theorem l_L_12 : ML RL 12 M_X5_init := lw_g_of (by decide +kernel) (by decide +kernel)
theorem l_L_13 : ML RL 13 M_X4_write := lw_g_of (by decide +kernel) (by decide +kernel)
theorem l_L_17 : ML RL 17 M_X5_write := lw_g_of (by decide +kernel) (by decide +kernel)
theorem l_L_18 : ML RL 18 M_X4_erase := lw_g_of (by decide +kernel) (by decide +kernel)
theorem l_L_22 : ML RL 22 M_X5_erase := lw_g_of (by decide +kernel) (by decide +kernel)
theorem l_L_23 : ML RL 23 M_X4_fault := lw_g_of (by decide +kernel) (by decide +kernel)
theorem l_L_26 : ML RL 26 M_X5_fault := lw_g_of (by decide +kernel) (by decide +kernel)
theorem l_L_27 : ML RL 27 M_X4_yard := lw_g_of (by decide +kernel) (by decide +kernel)
theorem l_L_30 : ML RL 30 M_X5_yard := lw_g_of (by decide +kernel) (by decide +kernel)
theorem l_L_31 : ML RL 31 M_X4_place := lw_g_of (by decide +kernel) (by decide +kernel)
theorem l_L_35 : ML RL 35 M_X5_place := lw_g_of (by decide +kernel) (by decide +kernel)
theorem l_L_36 : ML RL 36 M_X4_hen := lw_g_of (by decide +kernel) (by decide +kernel)
theorem l_L_39 : ML RL 39 M_X5_hen := lw_g_of (by decide +kernel) (by decide +kernel)
theorem l_L_40 : ML RL 40 M_X4_news := lw_g_of (by decide +kernel) (by decide +kernel)
theorem l_L_43 : ML RL 43 M_X5_news := lw_g_of (by decide +kernel) (by decide +kernel)
theorem l_L_44 : ML RL 44 M_X4_as := lw_g_of (by decide +kernel) (by decide +kernel)
theorem l_L_47 : ML RL 47 M_X5_as := lw_g_of (by decide +kernel) (by decide +kernel)
theorem l_L_48 : ML RL 48 M_X4_day := lw_g_of (by decide +kernel) (by decide +kernel)
theorem l_L_51 : ML RL 51 M_X5_day := lw_g_of (by decide +kernel) (by decide +kernel)
theorem l_L_52 : ML RL 52 M_X4_thunder := lw_g_of (by decide +kernel) (by decide +kernel)
theorem l_L_55 : ML RL 55 M_X5_thunder := lw_g_of (by decide +kernel) (by decide +kernel)
theorem l_L_56 : ML RL 56 M_X4_straw := lw_g_of (by decide +kernel) (by decide +kernel)
theorem l_L_59 : ML RL 59 M_X5_straw := lw_g_of (by decide +kernel) (by decide +kernel)
theorem l_L_60 : ML RL 60 M_X4_move := lw_g_of (by decide +kernel) (by decide +kernel)
theorem l_L_63 : ML RL 63 M_X5_move := lw_g_of (by decide +kernel) (by decide +kernel)
theorem l_L_64 : ML RL 64 M_X4_eat := lw_g_of (by decide +kernel) (by decide +kernel)
theorem l_L_67 : ML RL 67 M_X5_eat := lw_g_of (by decide +kernel) (by decide +kernel)
theorem l_L_68 : ML RL 68 M_X4_heed := lw_g_of (by decide +kernel) (by decide +kernel)
theorem l_L_71 : ML RL 71 M_X5_heed := lw_g_of (by decide +kernel) (by decide +kernel)
theorem l_L_72 : ML RL 72 M_X4_undo := lw_g_of (by decide +kernel) (by decide +kernel)
theorem l_L_75 : ML RL 75 M_X5_undo := lw_g_of (by decide +kernel) (by decide +kernel)
theorem l_L_76 : ML RL 76 M_X4_keep := lw_g_of (by decide +kernel) (by decide +kernel)
theorem l_L_79 : ML RL 79 M_X5_keep := lw_g_of (by decide +kernel) (by decide +kernel)
theorem l_L_80 : ML RL 80 M_X4_back := lw_g_of (by decide +kernel) (by decide +kernel)
theorem l_L_83 : ML RL 83 M_X5_back := lw_g_of (by decide +kernel) (by decide +kernel)
theorem l_L_84 : ML RL 84 M_X4_lays := lw_g_of (by decide +kernel) (by decide +kernel)
theorem l_L_87 : ML RL 87 M_X5_lays := lw_g_of (by decide +kernel) (by decide +kernel)
theorem l_L_88 : ML RL 88 M_X4_rights := lw_g_of (by decide +kernel) (by decide +kernel)
theorem l_L_91 : ML RL 91 M_X5_rights := lw_g_of (by decide +kernel) (by decide +kernel)
theorem l_L_92 : ML RL 92 M_X4_ask := lw_g_of (by decide +kernel) (by decide +kernel)
theorem l_L_95 : ML RL 95 M_X5_ask := lw_g_of (by decide +kernel) (by decide +kernel)
theorem l_L_96 : ML RL 96 M_X4_trough := lw_g_of (by decide +kernel) (by decide +kernel)
theorem l_L_99 : ML RL 99 M_X5_trough := lw_g_of (by decide +kernel) (by decide +kernel)
theorem l_L_100 : ML RL 100 M_X4_warmth := lw_g_of (by decide +kernel) (by decide +kernel)
theorem l_L_103 : ML RL 103 M_X5_warmth := lw_g_of (by decide +kernel) (by decide +kernel)
theorem l_L_104 : ML RL 104 M_X4_seen := lw_g_of (by decide +kernel) (by decide +kernel)
theorem l_L_108 : ML RL 108 M_X5_seen := lw_g_of (by decide +kernel) (by decide +kernel)
theorem l_L_109 : ML RL 109 M_X4_forget := lw_g_of (by decide +kernel) (by decide +kernel)
theorem l_L_112 : ML RL 112 M_X5_forget := lw_g_of (by decide +kernel) (by decide +kernel)
theorem l_L_113 : ML RL 113 M_X4_kinds := lw_g_of (by decide +kernel) (by decide +kernel)
theorem l_L_116 : ML RL 116 M_X5_kinds := lw_g_of (by decide +kernel) (by decide +kernel)
theorem l_L_117 : ML RL 117 M_X4_habits := lw_g_of (by decide +kernel) (by decide +kernel)
theorem l_L_120 : ML RL 120 M_X5_habits := lw_g_of (by decide +kernel) (by decide +kernel)
theorem l_L_121 : ML RL 121 M_X4_foxes := lw_g_of (by decide +kernel) (by decide +kernel)
theorem l_L_125 : ML RL 125 M_X5_foxes := lw_g_of (by decide +kernel) (by decide +kernel)
theorem l_L_126 : ML RL 126 M_X4_count := lw_g_of (by decide +kernel) (by decide +kernel)
theorem l_L_129 : ML RL 129 M_X5_count := lw_g_of (by decide +kernel) (by decide +kernel)
theorem i_X0 : Cond.instantiable RX0 4 ∈ lw_g ∧ Cond.initialized RX0 ∈ lw_g := ⟨lw_g_of (by decide +kernel) (by decide +kernel), lw_g_of (by decide +kernel) (by decide +kernel)⟩
theorem i_X1 : Cond.instantiable RX1 5 ∈ lw_g ∧ Cond.initialized RX1 ∈ lw_g := ⟨lw_g_of (by decide +kernel) (by decide +kernel), lw_g_of (by decide +kernel) (by decide +kernel)⟩
theorem i_X2 : Cond.instantiable RX2 8 ∈ lw_g ∧ Cond.initialized RX2 ∈ lw_g := ⟨lw_g_of (by decide +kernel) (by decide +kernel), lw_g_of (by decide +kernel) (by decide +kernel)⟩
theorem i_X3 : Cond.instantiable RX3 14 ∈ lw_g ∧ Cond.initialized RX3 ∈ lw_g := ⟨lw_g_of (by decide +kernel) (by decide +kernel), lw_g_of (by decide +kernel) (by decide +kernel)⟩
theorem i_X4 : Cond.instantiable RX4 11 ∈ lw_g ∧ Cond.initialized RX4 ∈ lw_g := ⟨lw_g_of (by decide +kernel) (by decide +kernel), lw_g_of (by decide +kernel) (by decide +kernel)⟩
theorem i_X5 : Cond.instantiable RX5 21 ∈ lw_g ∧ Cond.initialized RX5 ∈ lw_g := ⟨lw_g_of (by decide +kernel) (by decide +kernel), lw_g_of (by decide +kernel) (by decide +kernel)⟩
