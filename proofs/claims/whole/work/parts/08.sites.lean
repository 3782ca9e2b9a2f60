/-! the methods, and the words at their calls and fields -/
abbrev m7_empty : MI := (yX7_empty, cX7_empty, 1, none, 0, 0)
abbrev m7_isFull : MI := (yX7_isFull, cX7_isFull, 1, some .boolean, 0, 0)
abbrev m7_put : MI := (yX7_put, cX7_put, 6, none, 0, 0)
abbrev m7_add : MI := (yX7_add, cX7_add, 7, none, 1, 25)
abbrev m4_set : MI := (yX4_set, cX4_set, 5, none, 0, 0)
abbrev m9_begin : MI := (yX9_begin, cX9_begin, 2, none, 2, 51)
abbrev m7_size : MI := (yX7_size, cX7_size, 1, some .int, 0, 0)
abbrev m10_village : MI := (yX10_village, cX10_village, 2, some .int, 3, 72)
abbrev m10_within : MI := (yX10_within, cX10_within, 3, some .boolean, 0, 0)
abbrev m10_isStorm : MI := (yX10_isStorm, cX10_isStorm, 1, some .boolean, 1, 22)
abbrev m10_isCell : MI := (yX10_isCell, cX10_isCell, 1, some .boolean, 1, 22)
abbrev m10_refuseBad : MI := (yX10_refuseBad, cX10_refuseBad, 1, some .int, 0, 0)
abbrev m7_at : MI := (yX7_at, cX7_at, 5, some .int, 0, 0)
abbrev m9_tellStorm : MI := (yX9_tellStorm, cX9_tellStorm, 4, none, 1, 25)
abbrev m10_storm : MI := (yX10_storm, cX10_storm, 5, some .int, 2, 48)
abbrev m10_isKind : MI := (yX10_isKind, cX10_isKind, 1, some .boolean, 1, 22)
abbrev m10_isHeight : MI := (yX10_isHeight, cX10_isHeight, 1, some .boolean, 1, 22)
abbrev m10_refuseFull : MI := (yX10_refuseFull, cX10_refuseFull, 1, some .int, 0, 0)
abbrev m9_addThing : MI := (yX9_addThing, cX9_addThing, 5, some .int, 2, 51)
abbrev m10_thing : MI := (yX10_thing, cX10_thing, 4, some .int, 3, 75)
abbrev m9_addPart : MI := (yX9_addPart, cX9_addPart, 3, some .int, 2, 51)
abbrev m10_body : MI := (yX10_body, cX10_body, 2, some .int, 3, 73)
abbrev m8_isFull : MI := (yX8_isFull, cX8_isFull, 1, some .boolean, 0, 0)
abbrev m6_put : MI := (yX6_put, cX6_put, 3, none, 0, 0)
abbrev m8_add : MI := (yX8_add, cX8_add, 2, none, 1, 22)
abbrev m8_length : MI := (yX8_length, cX8_length, 1, some .int, 0, 0)
abbrev m10_type : MI := (yX10_type, cX10_type, 2, some .int, 2, 43)
abbrev m8_empty : MI := (yX8_empty, cX8_empty, 1, none, 0, 0)
abbrev m10_clear : MI := (yX10_clear, cX10_clear, 2, some .int, 1, 21)
abbrev m6_at : MI := (yX6_at, cX6_at, 2, some .int, 0, 0)
abbrev m8_runEnd : MI := (yX8_runEnd, cX8_runEnd, 5, some .int, 1, 22)
abbrev m8_wordOf : MI := (yX8_wordOf, cX8_wordOf, 1, some (.object "java/lang/String"), 0, 0)
abbrev mJ0_length : MI := (yJ0_length_8abf5, cJ0_length_8abf5, 1, some .int, 3, 64)
abbrev mJ0_charAt : MI := (yJ0_charAt_5068e, cJ0_charAt_5068e, 2, some .char, 3, 64)
abbrev m8_spells : MI := (yX8_spells, cX8_spells, 3, some .boolean, 4, 85)
abbrev m8_wordToken : MI := (yX8_wordToken, cX8_wordToken, 2, some .int, 5, 107)
abbrev m8_numberToken : MI := (yX8_numberToken, cX8_numberToken, 2, some .int, 1, 21)
abbrev m8_nextToken : MI := (yX8_nextToken, cX8_nextToken, 2, none, 6, 128)
abbrev m8_mayStand : MI := (yX8_mayStand, cX8_mayStand, 3, some .boolean, 1, 21)
abbrev m8_numbersOf : MI := (yX8_numbersOf, cX8_numbersOf, 1, some .int, 0, 0)
abbrev m8_leastOf : MI := (yX8_leastOf, cX8_leastOf, 3, some .int, 0, 0)
abbrev m8_mostOf : MI := (yX8_mostOf, cX8_mostOf, 3, some .int, 1, 21)
abbrev m8_readNumbers : MI := (yX8_readNumbers, cX8_readNumbers, 6, some .boolean, 7, 149)
abbrev m8_readStop : MI := (yX8_readStop, cX8_readStop, 1, some .boolean, 7, 149)
abbrev m9_turn : MI := (yX9_turn, cX9_turn, 2, none, 0, 0)
abbrev m3_draw : MI := (yX3_draw, cX3_draw, 7, some .int, 0, 0)
abbrev m4_isUp : MI := (yX4_isUp, cX4_isUp, 2, some .boolean, 0, 0)
abbrev m9_struckIf : MI := (yX9_struckIf, cX9_struckIf, 11, some .int, 1, 26)
abbrev m4_isThere : MI := (yX4_isThere, cX4_isThere, 2, some .boolean, 0, 0)
abbrev mJ6_bitCount : MI := (yJ6_bitCount_0f7a4, cJ6_bitCount_0f7a4, 1, some .int, 0, 0)
abbrev m4_partsThere : MI := (yX4_partsThere, cX4_partsThere, 1, some .int, 1, 21)
abbrev m3_need : MI := (yX3_need, cX3_need, 6, some .int, 0, 0)
abbrev m9_bringParts : MI := (yX9_bringParts, cX9_bringParts, 4, none, 2, 42)
abbrev m9_pass : MI := (yX9_pass, cX9_pass, 4, none, 3, 65)
abbrev m9_passTold : MI := (yX9_passTold, cX9_passTold, 6, none, 4, 88)
abbrev m8_tell : MI := (yX8_tell, cX8_tell, 3, none, 5, 113)
abbrev m8_tellTo : MI := (yX8_tellTo, cX8_tellTo, 4, some .int, 8, 174)
abbrev m7_takeFrom : MI := (yX7_takeFrom, cX7_takeFrom, 4, none, 1, 25)
abbrev m4_takeFrom : MI := (yX4_takeFrom, cX4_takeFrom, 2, none, 1, 24)
abbrev m9_takeFrom : MI := (yX9_takeFrom, cX9_takeFrom, 2, none, 2, 48)
abbrev m10_read : MI := (yX10_read, cX10_read, 2, some .int, 9, 197)
abbrev m7_dropLast : MI := (yX7_dropLast, cX7_dropLast, 1, none, 1, 21)
abbrev m7_dropFirst : MI := (yX7_dropFirst, cX7_dropFirst, 3, none, 2, 42)
abbrev m9_remember : MI := (yX9_remember, cX9_remember, 1, none, 3, 64)
abbrev m10_summers : MI := (yX10_summers, cX10_summers, 2, some .int, 5, 113)
abbrev m10_isThing : MI := (yX10_isThing, cX10_isThing, 2, some .boolean, 1, 22)
abbrev m10_takes : MI := (yX10_takes, cX10_takes, 2, some .int, 4, 85)
abbrev m10_refuseNo : MI := (yX10_refuseNo, cX10_refuseNo, 1, some .int, 0, 0)
abbrev m9_goBack : MI := (yX9_goBack, cX9_goBack, 2, none, 2, 42)
abbrev m10_undo : MI := (yX10_undo, cX10_undo, 1, some .int, 3, 63)
abbrev m10_of : MI := (yX10_of, cX10_of, 3, some .int, 2, 43)
abbrev m10_isPart : MI := (yX10_isPart, cX10_isPart, 2, some .boolean, 1, 22)
abbrev m9_needOf : MI := (yX9_needOf, cX9_needOf, 4, some .int, 1, 25)
abbrev m10_about : MI := (yX10_about, cX10_about, 3, some .int, 2, 48)
abbrev m10_weather : MI := (yX10_weather, cX10_weather, 3, some .int, 2, 43)
abbrev m9_drawOf : MI := (yX9_drawOf, cX9_drawOf, 4, some .int, 1, 26)
abbrev m10_draws : MI := (yX10_draws, cX10_draws, 3, some .int, 2, 49)
abbrev m9_struckNow : MI := (yX9_struckNow, cX9_struckNow, 2, some .int, 2, 56)
abbrev m10_struck : MI := (yX10_struck, cX10_struck, 2, some .int, 3, 77)
abbrev m10_then : MI := (yX10_then, cX10_then, 2, some .int, 5, 113)
abbrev m10_summersUntil : MI := (yX10_summersUntil, cX10_summersUntil, 3, some .int, 5, 113)
abbrev m10_when : MI := (yX10_when, cX10_when, 2, some .int, 6, 135)
abbrev m10_whence : MI := (yX10_whence, cX10_whence, 3, some .int, 3, 77)
abbrev m9_mayBeHim : MI := (yX9_mayBeHim, cX9_mayBeHim, 2, some .boolean, 2, 49)
abbrev m9_stronger : MI := (yX9_stronger, cX9_stronger, 5, some .int, 2, 49)
abbrev m10_lead : MI := (yX10_lead, cX10_lead, 2, some .int, 3, 73)
abbrev m10_isSparedBy : MI := (yX10_isSparedBy, cX10_isSparedBy, 3, some .boolean, 1, 21)
abbrev m10_spare : MI := (yX10_spare, cX10_spare, 5, some .int, 3, 73)
abbrev m10_refuseBadTen : MI := (yX10_refuseBadTen, cX10_refuseBadTen, 1, some .int, 0, 0)
abbrev m6_fill : MI := (yX6_fill, cX6_fill, 3, none, 0, 0)
abbrev m5_needBehind : MI := (yX5_needBehind, cX5_needBehind, 3, some .int, 2, 48)
abbrev m5_spend : MI := (yX5_spend, cX5_spend, 7, none, 3, 70)
abbrev m5_mostReached : MI := (yX5_mostReached, cX5_mostReached, 4, some .int, 1, 21)
abbrev m5_reach : MI := (yX5_reach, cX5_reach, 7, none, 3, 70)
abbrev m5_firstFitting : MI := (yX5_firstFitting, cX5_firstFitting, 8, some .int, 3, 70)
abbrev m5_choose : MI := (yX5_choose, cX5_choose, 7, none, 4, 97)
abbrev m5_search : MI := (yX5_search, cX5_search, 4, none, 5, 123)
abbrev m5_most : MI := (yX5_most, cX5_most, 1, some .int, 0, 0)
abbrev m5_length : MI := (yX5_length, cX5_length, 1, some .int, 0, 0)
abbrev m5_at : MI := (yX5_at, cX5_at, 2, some .int, 1, 21)
abbrev m10_order : MI := (yX10_order, cX10_order, 3, some .int, 6, 146)
abbrev m10_seen : MI := (yX10_seen, cX10_seen, 3, some .int, 2, 51)
abbrev m9_fitsSeen : MI := (yX9_fitsSeen, cX9_fitsSeen, 4, some .boolean, 2, 56)
abbrev m10_tall : MI := (yX10_tall, cX10_tall, 7, some .int, 3, 79)
abbrev m10_note : MI := (yX10_note, cX10_note, 7, some .int, 2, 51)
abbrev m10_mark : MI := (yX10_mark, cX10_mark, 6, some .int, 2, 51)
abbrev m10_forgetAll : MI := (yX10_forgetAll, cX10_forgetAll, 2, some .int, 1, 21)
abbrev m10_forget : MI := (yX10_forget, cX10_forget, 2, some .int, 2, 42)
abbrev m2_drawAll : MI := (yX2_drawAll, cX2_drawAll, 5, none, 1, 26)
abbrev m2_answering : MI := (yX2_answering, cX2_answering, 4, some .int, 1, 21)
abbrev m2_thingKinds : MI := (yX2_thingKinds, cX2_thingKinds, 5, some .int, 2, 50)
abbrev m10_is : MI := (yX10_is, cX10_is, 2, some .int, 3, 74)
abbrev m2_mostAlike : MI := (yX2_mostAlike, cX2_mostAlike, 4, some .int, 2, 44)
abbrev m2_bestLook : MI := (yX2_bestLook, cX2_bestLook, 8, some .int, 3, 67)
abbrev m10_look : MI := (yX10_look, cX10_look, 3, some .int, 4, 94)
abbrev m2_needAll : MI := (yX2_needAll, cX2_needAll, 4, none, 1, 25)
abbrev m2_partKinds : MI := (yX2_partKinds, cX2_partKinds, 5, some .int, 2, 48)
abbrev m10_kinds : MI := (yX10_kinds, cX10_kinds, 2, some .int, 3, 72)
abbrev m2_bestAsk : MI := (yX2_bestAsk, cX2_bestAsk, 7, some .int, 3, 67)
abbrev m10_ask : MI := (yX10_ask, cX10_ask, 2, some .int, 4, 93)
abbrev m0_gain : MI := (yX0_gain, cX0_gain, 5, some .int, 1, 21)
abbrev m0_settle : MI := (yX0_settle, cX0_settle, 5, none, 2, 45)
abbrev m0_rests : MI := (yX0_rests, cX0_rests, 4, some .boolean, 2, 45)
abbrev m0_resting : MI := (yX0_resting, cX0_resting, 3, some .int, 3, 68)
abbrev m0_restingAt : MI := (yX0_restingAt, cX0_restingAt, 4, some .int, 3, 68)
abbrev m10_sweep : MI := (yX10_sweep, cX10_sweep, 4, some .int, 6, 135)
abbrev m1_commonOf : MI := (yX1_commonOf, cX1_commonOf, 11, some .long, 0, 0)
abbrev m1_set : MI := (yX1_set, cX1_set, 7, none, 1, 30)
abbrev m10_falls : MI := (yX10_falls, cX10_falls, 9, some .int, 3, 73)
abbrev m10_septembers : MI := (yX10_septembers, cX10_septembers, 6, some .int, 4, 88)
abbrev m1_above : MI := (yX1_above, cX1_above, 1, some .long, 0, 0)
abbrev m1_below : MI := (yX1_below, cX1_below, 1, some .long, 0, 0)
abbrev m10_part : MI := (yX10_part, cX10_part, 2, some .long, 1, 22)
abbrev m10_imageAt : MI := (yX10_imageAt, cX10_imageAt, 2, some (.object "SteepleStruck$Village"), 0, 0)
abbrev m10_image : MI := (yX10_image, cX10_image, 2, some .int, 3, 69)
abbrev m10_from : MI := (yX10_from, cX10_from, 2, some .int, 3, 69)
abbrev m10_status : MI := (yX10_status, cX10_status, 2, some .int, 1, 21)
abbrev m10_countOf : MI := (yX10_countOf, cX10_countOf, 2, some .int, 2, 42)
abbrev m10_count : MI := (yX10_count, cX10_count, 2, some .int, 3, 63)
abbrev m7_digestOn : MI := (yX7_digestOn, cX7_digestOn, 7, some .long, 1, 24)
abbrev m9_digestOn : MI := (yX9_digestOn, cX9_digestOn, 6, some .long, 2, 50)
abbrev m10_digest : MI := (yX10_digest, cX10_digest, 4, some .long, 3, 75)
abbrev m11_begin : MI := (yX11_begin, cX11_begin, 2, none, 0, 0)
abbrev m11_many : MI := (yX11_many, cX11_many, 1, some .int, 0, 0)
abbrev m11_village : MI := (yX11_village, cX11_village, 2, some .int, 1, 21)
abbrev m11_in : MI := (yX11_in, cX11_in, 6, some .boolean, 0, 0)
abbrev m11_isCell : MI := (yX11_isCell, cX11_isCell, 1, some .boolean, 1, 25)
abbrev m11_bad : MI := (yX11_bad, cX11_bad, 2, some .int, 0, 0)
abbrev m11_storm : MI := (yX11_storm, cX11_storm, 5, some .int, 2, 46)
abbrev m11_isKind : MI := (yX11_isKind, cX11_isKind, 1, some .boolean, 1, 25)
abbrev m11_full : MI := (yX11_full, cX11_full, 1, some .int, 0, 0)
abbrev m11_layThing : MI := (yX11_layThing, cX11_layThing, 5, none, 0, 0)
abbrev m11_thing : MI := (yX11_thing, cX11_thing, 4, some .int, 2, 46)
abbrev m11_body : MI := (yX11_body, cX11_body, 2, some .int, 2, 46)
abbrev m11_save : MI := (yX11_save, cX11_save, 2, none, 0, 0)
abbrev m11_has : MI := (yX11_has, cX11_has, 2, some .boolean, 0, 0)
abbrev m11_drawsAs : MI := (yX11_drawsAs, cX11_drawsAs, 5, some .int, 0, 0)
abbrev m11_drawsFrom : MI := (yX11_drawsFrom, cX11_drawsFrom, 4, some .int, 1, 24)
abbrev m11_struckOf : MI := (yX11_struckOf, cX11_struckOf, 7, some .int, 2, 47)
abbrev m11_firstOf : MI := (yX11_firstOf, cX11_firstOf, 2, some .int, 1, 21)
abbrev m11_bits : MI := (yX11_bits, cX11_bits, 3, some .int, 0, 0)
abbrev m11_needsAs : MI := (yX11_needsAs, cX11_needsAs, 5, some .int, 0, 0)
abbrev m11_goParts : MI := (yX11_goParts, cX11_goParts, 2, none, 2, 42)
abbrev m11_goSummer : MI := (yX11_goSummer, cX11_goSummer, 4, none, 3, 73)
abbrev m11_goTold : MI := (yX11_goTold, cX11_goTold, 2, none, 4, 96)
abbrev m11_goSummers : MI := (yX11_goSummers, cX11_goSummers, 3, none, 5, 117)
abbrev m11_summers : MI := (yX11_summers, cX11_summers, 2, some .int, 6, 139)
abbrev m11_isThing : MI := (yX11_isThing, cX11_isThing, 2, some .boolean, 1, 25)
abbrev m11_takes : MI := (yX11_takes, cX11_takes, 2, some .int, 2, 46)
abbrev m11_no : MI := (yX11_no, cX11_no, 1, some .int, 0, 0)
abbrev m11_undo : MI := (yX11_undo, cX11_undo, 2, some .int, 1, 21)
abbrev m11_of : MI := (yX11_of, cX11_of, 3, some .int, 2, 46)
abbrev m11_isPart : MI := (yX11_isPart, cX11_isPart, 2, some .boolean, 1, 25)
abbrev m11_about : MI := (yX11_about, cX11_about, 3, some .int, 2, 46)
abbrev m11_weather : MI := (yX11_weather, cX11_weather, 3, some .int, 1, 25)
abbrev m11_draws : MI := (yX11_draws, cX11_draws, 3, some .int, 2, 47)
abbrev m11_struck : MI := (yX11_struck, cX11_struck, 2, some .int, 3, 73)
abbrev m11_layHand : MI := (yX11_layHand, cX11_layHand, 2, none, 0, 0)
abbrev m11_then : MI := (yX11_then, cX11_then, 3, some .int, 5, 117)
abbrev m11_whenOf : MI := (yX11_whenOf, cX11_whenOf, 3, some .int, 5, 117)
abbrev m11_when : MI := (yX11_when, cX11_when, 2, some .int, 6, 139)
abbrev m11_cellsBy : MI := (yX11_cellsBy, cX11_cellsBy, 4, some .int, 3, 73)
abbrev m11_whence : MI := (yX11_whence, cX11_whence, 1, some .int, 4, 96)
abbrev m11_lead : MI := (yX11_lead, cX11_lead, 5, some .int, 3, 73)
abbrev m11_spare : MI := (yX11_spare, cX11_spare, 4, some .int, 4, 96)
abbrev m11_layMissing : MI := (yX11_layMissing, cX11_layMissing, 3, some .int, 1, 21)
abbrev m11_layOrder : MI := (yX11_layOrder, cX11_layOrder, 9, none, 1, 21)
abbrev m11_comeBy : MI := (yX11_comeBy, cX11_comeBy, 6, some .int, 1, 24)
abbrev m11_order : MI := (yX11_order, cX11_order, 9, some .int, 2, 49)
abbrev m11_seen : MI := (yX11_seen, cX11_seen, 3, some .int, 2, 46)
abbrev m11_isSeenBy : MI := (yX11_isSeenBy, cX11_isSeenBy, 5, some .boolean, 3, 73)
abbrev m11_tall : MI := (yX11_tall, cX11_tall, 7, some .int, 4, 97)
abbrev m11_note : MI := (yX11_note, cX11_note, 7, some .int, 2, 46)
abbrev m11_mark : MI := (yX11_mark, cX11_mark, 6, some .int, 2, 46)
abbrev m11_forget : MI := (yX11_forget, cX11_forget, 3, some .int, 1, 25)
abbrev m11_kindsOfThing : MI := (yX11_kindsOfThing, cX11_kindsOfThing, 7, some .int, 1, 24)
abbrev m11_is : MI := (yX11_is, cX11_is, 2, some .int, 2, 50)
abbrev m11_mostAlike : MI := (yX11_mostAlike, cX11_mostAlike, 6, some .int, 1, 21)
abbrev m11_look : MI := (yX11_look, cX11_look, 8, some .int, 2, 50)
abbrev m11_kindsOfPart : MI := (yX11_kindsOfPart, cX11_kindsOfPart, 7, some .int, 1, 24)
abbrev m11_kinds : MI := (yX11_kinds, cX11_kinds, 2, some .int, 2, 50)
abbrev m11_ask : MI := (yX11_ask, cX11_ask, 8, some .int, 2, 50)
abbrev m11_off : MI := (yX11_off, cX11_off, 2, some .int, 0, 0)
abbrev m11_getsBy : MI := (yX11_getsBy, cX11_getsBy, 5, some .int, 1, 21)
abbrev m11_isBest : MI := (yX11_isBest, cX11_isBest, 5, some .boolean, 2, 45)
abbrev m11_sweep : MI := (yX11_sweep, cX11_sweep, 6, some .int, 6, 139)
abbrev m11_fraction : MI := (yX11_fraction, cX11_fraction, 11, none, 0, 0)
abbrev m11_falls : MI := (yX11_falls, cX11_falls, 11, some .int, 3, 73)
abbrev m11_septembers : MI := (yX11_septembers, cX11_septembers, 6, some .int, 4, 96)
abbrev m11_type : MI := (yX11_type, cX11_type, 2, some .int, 1, 25)
abbrev m11_clear : MI := (yX11_clear, cX11_clear, 2, some .int, 0, 0)
abbrev m11_isSmall : MI := (yX11_isSmall, cX11_isSmall, 1, some .boolean, 1, 25)
abbrev m11_isFigure : MI := (yX11_isFigure, cX11_isFigure, 1, some .boolean, 1, 25)
abbrev m11_lookAt : MI := (yX11_lookAt, cX11_lookAt, 5, none, 2, 46)
abbrev m11_spellsSeven : MI := (yX11_spellsSeven, cX11_spellsSeven, 9, some .boolean, 0, 0)
abbrev m11_goBehind : MI := (yX11_goBehind, cX11_goBehind, 1, none, 3, 70)
abbrev m11_spells : MI := (yX11_spells, cX11_spells, 10, some .boolean, 0, 0)
abbrev m11_gives : MI := (yX11_gives, cX11_gives, 4, some .boolean, 4, 91)
abbrev m11_givesStorm : MI := (yX11_givesStorm, cX11_givesStorm, 1, some .boolean, 5, 114)
abbrev m11_givesThing : MI := (yX11_givesThing, cX11_givesThing, 1, some .boolean, 5, 114)
abbrev m11_givesPart : MI := (yX11_givesPart, cX11_givesPart, 1, some .boolean, 5, 114)
abbrev m11_givesTake : MI := (yX11_givesTake, cX11_givesTake, 1, some .boolean, 5, 114)
abbrev m11_givesSummers : MI := (yX11_givesSummers, cX11_givesSummers, 1, some .boolean, 6, 139)
abbrev m11_givesItem : MI := (yX11_givesItem, cX11_givesItem, 1, some .boolean, 7, 160)
abbrev m11_read : MI := (yX11_read, cX11_read, 3, some .int, 8, 181)
abbrev m11_part : MI := (yX11_part, cX11_part, 2, some .long, 1, 21)
abbrev m11_image : MI := (yX11_image, cX11_image, 3, some .int, 1, 25)
abbrev m11_from : MI := (yX11_from, cX11_from, 3, some .int, 1, 25)
abbrev m11_status : MI := (yX11_status, cX11_status, 2, some .int, 1, 25)
abbrev m11_counted : MI := (yX11_counted, cX11_counted, 2, some .int, 1, 22)
abbrev m11_count : MI := (yX11_count, cX11_count, 2, some .int, 2, 43)
abbrev m11_sums : MI := (yX11_sums, cX11_sums, 8, some .long, 0, 0)
abbrev m11_digest : MI := (yX11_digest, cX11_digest, 4, some .long, 2, 43)
abbrev mJ0_coder : MI := (yJ0_coder_7d493, cJ0_coder_7d493, 1, some .byte, 0, 0)
abbrev mJ0_isLatin1 : MI := (yJ0_isLatin1_aae02, cJ0_isLatin1_aae02, 1, some .boolean, 0, 0)
abbrev mJ1_charAt : MI := (yJ1_charAt_3b067, cJ1_charAt_3b067, 2, some .char, 2, 43)
abbrev mJ0_checkIndex : MI := (yJ0_checkIndex_df160, cJ0_checkIndex_df160, 2, none, 1, 22)
abbrev mJ3_checkIndex : MI := (yJ3_checkIndex_8e157, cJ3_checkIndex_8e157, 3, some .int, 0, 0)
abbrev mL_law : MI := (yL_law, cL_law, 4, some .boolean, 10, 218)
theorem mok7_empty : MOK m7_empty := ⟨mt1 (j := 92) rfl rfl, by decide +kernel, mt1 (j := 3) rfl rfl, ⟨by decide +kernel, by decide +kernel⟩, by decide +kernel⟩
theorem mok7_isFull : MOK m7_isFull := ⟨mt1 (j := 100) rfl rfl, by decide +kernel, mt1 (j := 3) rfl rfl, ⟨by decide +kernel, by decide +kernel⟩, by decide +kernel⟩
theorem mok7_put : MOK m7_put := ⟨mt1 (j := 104) rfl rfl, by decide +kernel, mt1 (j := 3) rfl rfl, ⟨by decide +kernel, by decide +kernel⟩, by decide +kernel⟩
theorem mok7_add : MOK m7_add := ⟨mt1 (j := 96) rfl rfl, by decide +kernel, mt1 (j := 3) rfl rfl, ⟨by decide +kernel, by decide +kernel⟩, by decide +kernel⟩
theorem mok4_set : MOK m4_set := ⟨mt1 (j := 108) rfl rfl, by decide +kernel, mt1 (j := 5) rfl rfl, ⟨by decide +kernel, by decide +kernel⟩, by decide +kernel⟩
theorem mok9_begin : MOK m9_begin := ⟨mt1 (j := 88) rfl rfl, by decide +kernel, mt1 (j := 2) rfl rfl, ⟨by decide +kernel, by decide +kernel⟩, by decide +kernel⟩
theorem mok7_size : MOK m7_size := ⟨mt2 (j := 70) rfl rfl, by decide +kernel, mt1 (j := 3) rfl rfl, ⟨by decide +kernel, by decide +kernel⟩, by decide +kernel⟩
theorem mok10_village : MOK m10_village := ⟨mt2 (j := 66) rfl rfl, by decide +kernel, mt1 (j := 1) rfl rfl, ⟨by decide +kernel, by decide +kernel⟩, by decide +kernel⟩
theorem mok10_within : MOK m10_within := ⟨mt2 (j := 81) rfl rfl, by decide +kernel, mt1 (j := 1) rfl rfl, ⟨by decide +kernel, by decide +kernel⟩, by decide +kernel⟩
theorem mok10_isStorm : MOK m10_isStorm := ⟨mt2 (j := 78) rfl rfl, by decide +kernel, mt1 (j := 1) rfl rfl, ⟨by decide +kernel, by decide +kernel⟩, by decide +kernel⟩
theorem mok10_isCell : MOK m10_isCell := ⟨mt2 (j := 84) rfl rfl, by decide +kernel, mt1 (j := 1) rfl rfl, ⟨by decide +kernel, by decide +kernel⟩, by decide +kernel⟩
theorem mok10_refuseBad : MOK m10_refuseBad := ⟨mt2 (j := 88) rfl rfl, by decide +kernel, mt1 (j := 1) rfl rfl, ⟨by decide +kernel, by decide +kernel⟩, by decide +kernel⟩
theorem mok7_at : MOK m7_at := ⟨mt2 (j := 92) rfl rfl, by decide +kernel, mt1 (j := 3) rfl rfl, ⟨by decide +kernel, by decide +kernel⟩, by decide +kernel⟩
theorem mok9_tellStorm : MOK m9_tellStorm := ⟨mt2 (j := 96) rfl rfl, by decide +kernel, mt1 (j := 2) rfl rfl, ⟨by decide +kernel, by decide +kernel⟩, by decide +kernel⟩
theorem mok10_storm : MOK m10_storm := ⟨mt2 (j := 75) rfl rfl, by decide +kernel, mt1 (j := 1) rfl rfl, ⟨by decide +kernel, by decide +kernel⟩, by decide +kernel⟩
theorem mok10_isKind : MOK m10_isKind := ⟨mt2 (j := 104) rfl rfl, by decide +kernel, mt1 (j := 1) rfl rfl, ⟨by decide +kernel, by decide +kernel⟩, by decide +kernel⟩
theorem mok10_isHeight : MOK m10_isHeight := ⟨mt2 (j := 107) rfl rfl, by decide +kernel, mt1 (j := 1) rfl rfl, ⟨by decide +kernel, by decide +kernel⟩, by decide +kernel⟩
theorem mok10_refuseFull : MOK m10_refuseFull := ⟨mt2 (j := 112) rfl rfl, by decide +kernel, mt1 (j := 1) rfl rfl, ⟨by decide +kernel, by decide +kernel⟩, by decide +kernel⟩
theorem mok9_addThing : MOK m9_addThing := ⟨mt2 (j := 116) rfl rfl, by decide +kernel, mt1 (j := 2) rfl rfl, ⟨by decide +kernel, by decide +kernel⟩, by decide +kernel⟩
theorem mok10_thing : MOK m10_thing := ⟨mt2 (j := 101) rfl rfl, by decide +kernel, mt1 (j := 1) rfl rfl, ⟨by decide +kernel, by decide +kernel⟩, by decide +kernel⟩
theorem mok9_addPart : MOK m9_addPart := ⟨mt2 (j := 125) rfl rfl, by decide +kernel, mt1 (j := 2) rfl rfl, ⟨by decide +kernel, by decide +kernel⟩, by decide +kernel⟩
theorem mok10_body : MOK m10_body := ⟨mt2 (j := 121) rfl rfl, by decide +kernel, mt1 (j := 1) rfl rfl, ⟨by decide +kernel, by decide +kernel⟩, by decide +kernel⟩
theorem mok8_isFull : MOK m8_isFull := ⟨mt2 (j := 133) rfl rfl, by decide +kernel, mt1 (j := 7) rfl rfl, ⟨by decide +kernel, by decide +kernel⟩, by decide +kernel⟩
theorem mok6_put : MOK m6_put := ⟨mt2 (j := 141) rfl rfl, by decide +kernel, mt1 (j := 6) rfl rfl, ⟨by decide +kernel, by decide +kernel⟩, by decide +kernel⟩
theorem mok8_add : MOK m8_add := ⟨mt2 (j := 137) rfl rfl, by decide +kernel, mt1 (j := 7) rfl rfl, ⟨by decide +kernel, by decide +kernel⟩, by decide +kernel⟩
theorem mok8_length : MOK m8_length := ⟨mt2 (j := 145) rfl rfl, by decide +kernel, mt1 (j := 7) rfl rfl, ⟨by decide +kernel, by decide +kernel⟩, by decide +kernel⟩
theorem mok10_type : MOK m10_type := ⟨mt2 (j := 129) rfl rfl, by decide +kernel, mt1 (j := 1) rfl rfl, ⟨by decide +kernel, by decide +kernel⟩, by decide +kernel⟩
theorem mok8_empty : MOK m8_empty := ⟨mt2 (j := 153) rfl rfl, by decide +kernel, mt1 (j := 7) rfl rfl, ⟨by decide +kernel, by decide +kernel⟩, by decide +kernel⟩
theorem mok10_clear : MOK m10_clear := ⟨mt2 (j := 149) rfl rfl, by decide +kernel, mt1 (j := 1) rfl rfl, ⟨by decide +kernel, by decide +kernel⟩, by decide +kernel⟩
theorem mok6_at : MOK m6_at := ⟨mt2 (j := 173) rfl rfl, by decide +kernel, mt1 (j := 6) rfl rfl, ⟨by decide +kernel, by decide +kernel⟩, by decide +kernel⟩
theorem mok8_runEnd : MOK m8_runEnd := ⟨mt2 (j := 169) rfl rfl, by decide +kernel, mt1 (j := 7) rfl rfl, ⟨by decide +kernel, by decide +kernel⟩, by decide +kernel⟩
theorem mok8_wordOf : MOK m8_wordOf := ⟨mt2 (j := 181) rfl rfl, by decide +kernel, mt1 (j := 7) rfl rfl, ⟨by decide +kernel, by decide +kernel⟩, by decide +kernel⟩
theorem mokJ0_length : MOK mJ0_length := ⟨mt2 (j := 195) rfl rfl, by decide +kernel, mt1 (j := 13) rfl rfl, ⟨by decide +kernel, by decide +kernel⟩, by decide +kernel⟩
theorem mokJ0_charAt : MOK mJ0_charAt := ⟨mt2 (j := 205) rfl rfl, by decide +kernel, mt1 (j := 13) rfl rfl, ⟨by decide +kernel, by decide +kernel⟩, by decide +kernel⟩
theorem mok8_spells : MOK m8_spells := ⟨mt2 (j := 191) rfl rfl, by decide +kernel, mt1 (j := 7) rfl rfl, ⟨by decide +kernel, by decide +kernel⟩, by decide +kernel⟩
theorem mok8_wordToken : MOK m8_wordToken := ⟨mt2 (j := 178) rfl rfl, by decide +kernel, mt1 (j := 7) rfl rfl, ⟨by decide +kernel, by decide +kernel⟩, by decide +kernel⟩
theorem mok8_numberToken : MOK m8_numberToken := ⟨mt3 (j := 3) rfl rfl, by decide +kernel, mt1 (j := 7) rfl rfl, ⟨by decide +kernel, by decide +kernel⟩, by decide +kernel⟩
theorem mok8_nextToken : MOK m8_nextToken := ⟨mt2 (j := 165) rfl rfl, by decide +kernel, mt1 (j := 7) rfl rfl, ⟨by decide +kernel, by decide +kernel⟩, by decide +kernel⟩
theorem mok8_mayStand : MOK m8_mayStand := ⟨mt3 (j := 6) rfl rfl, by decide +kernel, mt1 (j := 7) rfl rfl, ⟨by decide +kernel, by decide +kernel⟩, by decide +kernel⟩
theorem mok8_numbersOf : MOK m8_numbersOf := ⟨mt3 (j := 14) rfl rfl, by decide +kernel, mt1 (j := 7) rfl rfl, ⟨by decide +kernel, by decide +kernel⟩, by decide +kernel⟩
theorem mok8_leastOf : MOK m8_leastOf := ⟨mt3 (j := 17) rfl rfl, by decide +kernel, mt1 (j := 7) rfl rfl, ⟨by decide +kernel, by decide +kernel⟩, by decide +kernel⟩
theorem mok8_mostOf : MOK m8_mostOf := ⟨mt3 (j := 20) rfl rfl, by decide +kernel, mt1 (j := 7) rfl rfl, ⟨by decide +kernel, by decide +kernel⟩, by decide +kernel⟩
theorem mok8_readNumbers : MOK m8_readNumbers := ⟨mt3 (j := 11) rfl rfl, by decide +kernel, mt1 (j := 7) rfl rfl, ⟨by decide +kernel, by decide +kernel⟩, by decide +kernel⟩
theorem mok8_readStop : MOK m8_readStop := ⟨mt3 (j := 25) rfl rfl, by decide +kernel, mt1 (j := 7) rfl rfl, ⟨by decide +kernel, by decide +kernel⟩, by decide +kernel⟩
theorem mok9_turn : MOK m9_turn := ⟨mt3 (j := 36) rfl rfl, by decide +kernel, mt1 (j := 2) rfl rfl, ⟨by decide +kernel, by decide +kernel⟩, by decide +kernel⟩
theorem mok3_draw : MOK m3_draw := ⟨mt3 (j := 55) rfl rfl, by decide +kernel, mt1 (j := 17) rfl rfl, ⟨by decide +kernel, by decide +kernel⟩, by decide +kernel⟩
theorem mok4_isUp : MOK m4_isUp := ⟨mt3 (j := 59) rfl rfl, by decide +kernel, mt1 (j := 5) rfl rfl, ⟨by decide +kernel, by decide +kernel⟩, by decide +kernel⟩
theorem mok9_struckIf : MOK m9_struckIf := ⟨mt3 (j := 49) rfl rfl, by decide +kernel, mt1 (j := 2) rfl rfl, ⟨by decide +kernel, by decide +kernel⟩, by decide +kernel⟩
theorem mok4_isThere : MOK m4_isThere := ⟨mt3 (j := 70) rfl rfl, by decide +kernel, mt1 (j := 5) rfl rfl, ⟨by decide +kernel, by decide +kernel⟩, by decide +kernel⟩
theorem mokJ6_bitCount : MOK mJ6_bitCount := ⟨mt3 (j := 77) rfl rfl, by decide +kernel, mt1 (j := 18) rfl rfl, ⟨by decide +kernel, by decide +kernel⟩, by decide +kernel⟩
theorem mok4_partsThere : MOK m4_partsThere := ⟨mt3 (j := 74) rfl rfl, by decide +kernel, mt1 (j := 5) rfl rfl, ⟨by decide +kernel, by decide +kernel⟩, by decide +kernel⟩
theorem mok3_need : MOK m3_need := ⟨mt3 (j := 83) rfl rfl, by decide +kernel, mt1 (j := 17) rfl rfl, ⟨by decide +kernel, by decide +kernel⟩, by decide +kernel⟩
theorem mok9_bringParts : MOK m9_bringParts := ⟨mt3 (j := 66) rfl rfl, by decide +kernel, mt1 (j := 2) rfl rfl, ⟨by decide +kernel, by decide +kernel⟩, by decide +kernel⟩
theorem mok9_pass : MOK m9_pass := ⟨mt3 (j := 45) rfl rfl, by decide +kernel, mt1 (j := 2) rfl rfl, ⟨by decide +kernel, by decide +kernel⟩, by decide +kernel⟩
theorem mok9_passTold : MOK m9_passTold := ⟨mt3 (j := 40) rfl rfl, by decide +kernel, mt1 (j := 2) rfl rfl, ⟨by decide +kernel, by decide +kernel⟩, by decide +kernel⟩
theorem mok8_tell : MOK m8_tell := ⟨mt3 (j := 29) rfl rfl, by decide +kernel, mt1 (j := 7) rfl rfl, ⟨by decide +kernel, by decide +kernel⟩, by decide +kernel⟩
theorem mok8_tellTo : MOK m8_tellTo := ⟨mt2 (j := 161) rfl rfl, by decide +kernel, mt1 (j := 7) rfl rfl, ⟨by decide +kernel, by decide +kernel⟩, by decide +kernel⟩
theorem mok7_takeFrom : MOK m7_takeFrom := ⟨mt3 (j := 91) rfl rfl, by decide +kernel, mt1 (j := 3) rfl rfl, ⟨by decide +kernel, by decide +kernel⟩, by decide +kernel⟩
theorem mok4_takeFrom : MOK m4_takeFrom := ⟨mt3 (j := 97) rfl rfl, by decide +kernel, mt1 (j := 5) rfl rfl, ⟨by decide +kernel, by decide +kernel⟩, by decide +kernel⟩
theorem mok9_takeFrom : MOK m9_takeFrom := ⟨mt3 (j := 87) rfl rfl, by decide +kernel, mt1 (j := 2) rfl rfl, ⟨by decide +kernel, by decide +kernel⟩, by decide +kernel⟩
theorem mok10_read : MOK m10_read := ⟨mt2 (j := 157) rfl rfl, by decide +kernel, mt1 (j := 1) rfl rfl, ⟨by decide +kernel, by decide +kernel⟩, by decide +kernel⟩
theorem mok7_dropLast : MOK m7_dropLast := ⟨mt3 (j := 116) rfl rfl, by decide +kernel, mt1 (j := 3) rfl rfl, ⟨by decide +kernel, by decide +kernel⟩, by decide +kernel⟩
theorem mok7_dropFirst : MOK m7_dropFirst := ⟨mt3 (j := 112) rfl rfl, by decide +kernel, mt1 (j := 3) rfl rfl, ⟨by decide +kernel, by decide +kernel⟩, by decide +kernel⟩
theorem mok9_remember : MOK m9_remember := ⟨mt3 (j := 107) rfl rfl, by decide +kernel, mt1 (j := 2) rfl rfl, ⟨by decide +kernel, by decide +kernel⟩, by decide +kernel⟩
theorem mok10_summers : MOK m10_summers := ⟨mt3 (j := 103) rfl rfl, by decide +kernel, mt1 (j := 1) rfl rfl, ⟨by decide +kernel, by decide +kernel⟩, by decide +kernel⟩
theorem mok10_isThing : MOK m10_isThing := ⟨mt3 (j := 126) rfl rfl, by decide +kernel, mt1 (j := 1) rfl rfl, ⟨by decide +kernel, by decide +kernel⟩, by decide +kernel⟩
theorem mok10_takes : MOK m10_takes := ⟨mt3 (j := 122) rfl rfl, by decide +kernel, mt1 (j := 1) rfl rfl, ⟨by decide +kernel, by decide +kernel⟩, by decide +kernel⟩
theorem mok10_refuseNo : MOK m10_refuseNo := ⟨mt3 (j := 136) rfl rfl, by decide +kernel, mt1 (j := 1) rfl rfl, ⟨by decide +kernel, by decide +kernel⟩, by decide +kernel⟩
theorem mok9_goBack : MOK m9_goBack := ⟨mt3 (j := 140) rfl rfl, by decide +kernel, mt1 (j := 2) rfl rfl, ⟨by decide +kernel, by decide +kernel⟩, by decide +kernel⟩
theorem mok10_undo : MOK m10_undo := ⟨mt3 (j := 132) rfl rfl, by decide +kernel, mt1 (j := 1) rfl rfl, ⟨by decide +kernel, by decide +kernel⟩, by decide +kernel⟩
theorem mok10_of : MOK m10_of := ⟨mt3 (j := 145) rfl rfl, by decide +kernel, mt1 (j := 1) rfl rfl, ⟨by decide +kernel, by decide +kernel⟩, by decide +kernel⟩
theorem mok10_isPart : MOK m10_isPart := ⟨mt3 (j := 153) rfl rfl, by decide +kernel, mt1 (j := 1) rfl rfl, ⟨by decide +kernel, by decide +kernel⟩, by decide +kernel⟩
theorem mok9_needOf : MOK m9_needOf := ⟨mt3 (j := 158) rfl rfl, by decide +kernel, mt1 (j := 2) rfl rfl, ⟨by decide +kernel, by decide +kernel⟩, by decide +kernel⟩
theorem mok10_about : MOK m10_about := ⟨mt3 (j := 149) rfl rfl, by decide +kernel, mt1 (j := 1) rfl rfl, ⟨by decide +kernel, by decide +kernel⟩, by decide +kernel⟩
theorem mok10_weather : MOK m10_weather := ⟨mt3 (j := 162) rfl rfl, by decide +kernel, mt1 (j := 1) rfl rfl, ⟨by decide +kernel, by decide +kernel⟩, by decide +kernel⟩
theorem mok9_drawOf : MOK m9_drawOf := ⟨mt3 (j := 170) rfl rfl, by decide +kernel, mt1 (j := 2) rfl rfl, ⟨by decide +kernel, by decide +kernel⟩, by decide +kernel⟩
theorem mok10_draws : MOK m10_draws := ⟨mt3 (j := 166) rfl rfl, by decide +kernel, mt1 (j := 1) rfl rfl, ⟨by decide +kernel, by decide +kernel⟩, by decide +kernel⟩
theorem mok9_struckNow : MOK m9_struckNow := ⟨mt3 (j := 178) rfl rfl, by decide +kernel, mt1 (j := 2) rfl rfl, ⟨by decide +kernel, by decide +kernel⟩, by decide +kernel⟩
theorem mok10_struck : MOK m10_struck := ⟨mt3 (j := 174) rfl rfl, by decide +kernel, mt1 (j := 1) rfl rfl, ⟨by decide +kernel, by decide +kernel⟩, by decide +kernel⟩
theorem mok10_then : MOK m10_then := ⟨mt3 (j := 182) rfl rfl, by decide +kernel, mt1 (j := 1) rfl rfl, ⟨by decide +kernel, by decide +kernel⟩, by decide +kernel⟩
theorem mok10_summersUntil : MOK m10_summersUntil := ⟨mt3 (j := 192) rfl rfl, by decide +kernel, mt1 (j := 1) rfl rfl, ⟨by decide +kernel, by decide +kernel⟩, by decide +kernel⟩
theorem mok10_when : MOK m10_when := ⟨mt3 (j := 188) rfl rfl, by decide +kernel, mt1 (j := 1) rfl rfl, ⟨by decide +kernel, by decide +kernel⟩, by decide +kernel⟩
theorem mok10_whence : MOK m10_whence := ⟨mt3 (j := 196) rfl rfl, by decide +kernel, mt1 (j := 1) rfl rfl, ⟨by decide +kernel, by decide +kernel⟩, by decide +kernel⟩
theorem mok9_mayBeHim : MOK m9_mayBeHim := ⟨mt3 (j := 204) rfl rfl, by decide +kernel, mt1 (j := 2) rfl rfl, ⟨by decide +kernel, by decide +kernel⟩, by decide +kernel⟩
theorem mok9_stronger : MOK m9_stronger := ⟨mt3 (j := 209) rfl rfl, by decide +kernel, mt1 (j := 2) rfl rfl, ⟨by decide +kernel, by decide +kernel⟩, by decide +kernel⟩
theorem mok10_lead : MOK m10_lead := ⟨mt3 (j := 200) rfl rfl, by decide +kernel, mt1 (j := 1) rfl rfl, ⟨by decide +kernel, by decide +kernel⟩, by decide +kernel⟩
theorem mok10_isSparedBy : MOK m10_isSparedBy := ⟨mt3 (j := 219) rfl rfl, by decide +kernel, mt1 (j := 1) rfl rfl, ⟨by decide +kernel, by decide +kernel⟩, by decide +kernel⟩
theorem mok10_spare : MOK m10_spare := ⟨mt3 (j := 213) rfl rfl, by decide +kernel, mt1 (j := 1) rfl rfl, ⟨by decide +kernel, by decide +kernel⟩, by decide +kernel⟩
theorem mok10_refuseBadTen : MOK m10_refuseBadTen := ⟨mt3 (j := 228) rfl rfl, by decide +kernel, mt1 (j := 1) rfl rfl, ⟨by decide +kernel, by decide +kernel⟩, by decide +kernel⟩
theorem mok6_fill : MOK m6_fill := ⟨mt4 (j := 2) rfl rfl, by decide +kernel, mt1 (j := 6) rfl rfl, ⟨by decide +kernel, by decide +kernel⟩, by decide +kernel⟩
theorem mok5_needBehind : MOK m5_needBehind := ⟨mt4 (j := 7) rfl rfl, by decide +kernel, mt1 (j := 9) rfl rfl, ⟨by decide +kernel, by decide +kernel⟩, by decide +kernel⟩
theorem mok5_spend : MOK m5_spend := ⟨mt3 (j := 238) rfl rfl, by decide +kernel, mt1 (j := 9) rfl rfl, ⟨by decide +kernel, by decide +kernel⟩, by decide +kernel⟩
theorem mok5_mostReached : MOK m5_mostReached := ⟨mt4 (j := 12) rfl rfl, by decide +kernel, mt1 (j := 9) rfl rfl, ⟨by decide +kernel, by decide +kernel⟩, by decide +kernel⟩
theorem mok5_reach : MOK m5_reach := ⟨mt4 (j := 17) rfl rfl, by decide +kernel, mt1 (j := 9) rfl rfl, ⟨by decide +kernel, by decide +kernel⟩, by decide +kernel⟩
theorem mok5_firstFitting : MOK m5_firstFitting := ⟨mt4 (j := 27) rfl rfl, by decide +kernel, mt1 (j := 9) rfl rfl, ⟨by decide +kernel, by decide +kernel⟩, by decide +kernel⟩
theorem mok5_choose : MOK m5_choose := ⟨mt4 (j := 23) rfl rfl, by decide +kernel, mt1 (j := 9) rfl rfl, ⟨by decide +kernel, by decide +kernel⟩, by decide +kernel⟩
theorem mok5_search : MOK m5_search := ⟨mt3 (j := 232) rfl rfl, by decide +kernel, mt1 (j := 9) rfl rfl, ⟨by decide +kernel, by decide +kernel⟩, by decide +kernel⟩
theorem mok5_most : MOK m5_most := ⟨mt4 (j := 31) rfl rfl, by decide +kernel, mt1 (j := 9) rfl rfl, ⟨by decide +kernel, by decide +kernel⟩, by decide +kernel⟩
theorem mok5_length : MOK m5_length := ⟨mt4 (j := 35) rfl rfl, by decide +kernel, mt1 (j := 9) rfl rfl, ⟨by decide +kernel, by decide +kernel⟩, by decide +kernel⟩
theorem mok5_at : MOK m5_at := ⟨mt4 (j := 39) rfl rfl, by decide +kernel, mt1 (j := 9) rfl rfl, ⟨by decide +kernel, by decide +kernel⟩, by decide +kernel⟩
theorem mok10_order : MOK m10_order := ⟨mt3 (j := 224) rfl rfl, by decide +kernel, mt1 (j := 1) rfl rfl, ⟨by decide +kernel, by decide +kernel⟩, by decide +kernel⟩
theorem mok10_seen : MOK m10_seen := ⟨mt4 (j := 43) rfl rfl, by decide +kernel, mt1 (j := 1) rfl rfl, ⟨by decide +kernel, by decide +kernel⟩, by decide +kernel⟩
theorem mok9_fitsSeen : MOK m9_fitsSeen := ⟨mt4 (j := 52) rfl rfl, by decide +kernel, mt1 (j := 2) rfl rfl, ⟨by decide +kernel, by decide +kernel⟩, by decide +kernel⟩
theorem mok10_tall : MOK m10_tall := ⟨mt4 (j := 48) rfl rfl, by decide +kernel, mt1 (j := 1) rfl rfl, ⟨by decide +kernel, by decide +kernel⟩, by decide +kernel⟩
theorem mok10_note : MOK m10_note := ⟨mt4 (j := 56) rfl rfl, by decide +kernel, mt1 (j := 1) rfl rfl, ⟨by decide +kernel, by decide +kernel⟩, by decide +kernel⟩
theorem mok10_mark : MOK m10_mark := ⟨mt4 (j := 60) rfl rfl, by decide +kernel, mt1 (j := 1) rfl rfl, ⟨by decide +kernel, by decide +kernel⟩, by decide +kernel⟩
theorem mok10_forgetAll : MOK m10_forgetAll := ⟨mt4 (j := 67) rfl rfl, by decide +kernel, mt1 (j := 1) rfl rfl, ⟨by decide +kernel, by decide +kernel⟩, by decide +kernel⟩
theorem mok10_forget : MOK m10_forget := ⟨mt4 (j := 64) rfl rfl, by decide +kernel, mt1 (j := 1) rfl rfl, ⟨by decide +kernel, by decide +kernel⟩, by decide +kernel⟩
theorem mok2_drawAll : MOK m2_drawAll := ⟨mt4 (j := 82) rfl rfl, by decide +kernel, mt1 (j := 10) rfl rfl, ⟨by decide +kernel, by decide +kernel⟩, by decide +kernel⟩
theorem mok2_answering : MOK m2_answering := ⟨mt4 (j := 88) rfl rfl, by decide +kernel, mt1 (j := 10) rfl rfl, ⟨by decide +kernel, by decide +kernel⟩, by decide +kernel⟩
theorem mok2_thingKinds : MOK m2_thingKinds := ⟨mt4 (j := 76) rfl rfl, by decide +kernel, mt1 (j := 10) rfl rfl, ⟨by decide +kernel, by decide +kernel⟩, by decide +kernel⟩
theorem mok10_is : MOK m10_is := ⟨mt4 (j := 72) rfl rfl, by decide +kernel, mt1 (j := 1) rfl rfl, ⟨by decide +kernel, by decide +kernel⟩, by decide +kernel⟩
theorem mok2_mostAlike : MOK m2_mostAlike := ⟨mt4 (j := 101) rfl rfl, by decide +kernel, mt1 (j := 10) rfl rfl, ⟨by decide +kernel, by decide +kernel⟩, by decide +kernel⟩
theorem mok2_bestLook : MOK m2_bestLook := ⟨mt4 (j := 97) rfl rfl, by decide +kernel, mt1 (j := 10) rfl rfl, ⟨by decide +kernel, by decide +kernel⟩, by decide +kernel⟩
theorem mok10_look : MOK m10_look := ⟨mt4 (j := 93) rfl rfl, by decide +kernel, mt1 (j := 1) rfl rfl, ⟨by decide +kernel, by decide +kernel⟩, by decide +kernel⟩
theorem mok2_needAll : MOK m2_needAll := ⟨mt4 (j := 115) rfl rfl, by decide +kernel, mt1 (j := 10) rfl rfl, ⟨by decide +kernel, by decide +kernel⟩, by decide +kernel⟩
theorem mok2_partKinds : MOK m2_partKinds := ⟨mt4 (j := 111) rfl rfl, by decide +kernel, mt1 (j := 10) rfl rfl, ⟨by decide +kernel, by decide +kernel⟩, by decide +kernel⟩
theorem mok10_kinds : MOK m10_kinds := ⟨mt4 (j := 107) rfl rfl, by decide +kernel, mt1 (j := 1) rfl rfl, ⟨by decide +kernel, by decide +kernel⟩, by decide +kernel⟩
theorem mok2_bestAsk : MOK m2_bestAsk := ⟨mt4 (j := 124) rfl rfl, by decide +kernel, mt1 (j := 10) rfl rfl, ⟨by decide +kernel, by decide +kernel⟩, by decide +kernel⟩
theorem mok10_ask : MOK m10_ask := ⟨mt4 (j := 120) rfl rfl, by decide +kernel, mt1 (j := 1) rfl rfl, ⟨by decide +kernel, by decide +kernel⟩, by decide +kernel⟩
theorem mok0_gain : MOK m0_gain := ⟨mt4 (j := 137) rfl rfl, by decide +kernel, mt1 (j := 11) rfl rfl, ⟨by decide +kernel, by decide +kernel⟩, by decide +kernel⟩
theorem mok0_settle : MOK m0_settle := ⟨mt4 (j := 133) rfl rfl, by decide +kernel, mt1 (j := 11) rfl rfl, ⟨by decide +kernel, by decide +kernel⟩, by decide +kernel⟩
theorem mok0_rests : MOK m0_rests := ⟨mt4 (j := 148) rfl rfl, by decide +kernel, mt1 (j := 11) rfl rfl, ⟨by decide +kernel, by decide +kernel⟩, by decide +kernel⟩
theorem mok0_resting : MOK m0_resting := ⟨mt4 (j := 144) rfl rfl, by decide +kernel, mt1 (j := 11) rfl rfl, ⟨by decide +kernel, by decide +kernel⟩, by decide +kernel⟩
theorem mok0_restingAt : MOK m0_restingAt := ⟨mt4 (j := 153) rfl rfl, by decide +kernel, mt1 (j := 11) rfl rfl, ⟨by decide +kernel, by decide +kernel⟩, by decide +kernel⟩
theorem mok10_sweep : MOK m10_sweep := ⟨mt4 (j := 128) rfl rfl, by decide +kernel, mt1 (j := 1) rfl rfl, ⟨by decide +kernel, by decide +kernel⟩, by decide +kernel⟩
theorem mok1_commonOf : MOK m1_commonOf := ⟨mt4 (j := 164) rfl rfl, by decide +kernel, mt1 (j := 8) rfl rfl, ⟨by decide +kernel, by decide +kernel⟩, by decide +kernel⟩
theorem mok1_set : MOK m1_set := ⟨mt4 (j := 161) rfl rfl, by decide +kernel, mt1 (j := 8) rfl rfl, ⟨by decide +kernel, by decide +kernel⟩, by decide +kernel⟩
theorem mok10_falls : MOK m10_falls := ⟨mt4 (j := 157) rfl rfl, by decide +kernel, mt1 (j := 1) rfl rfl, ⟨by decide +kernel, by decide +kernel⟩, by decide +kernel⟩
theorem mok10_septembers : MOK m10_septembers := ⟨mt4 (j := 169) rfl rfl, by decide +kernel, mt1 (j := 1) rfl rfl, ⟨by decide +kernel, by decide +kernel⟩, by decide +kernel⟩
theorem mok1_above : MOK m1_above := ⟨mt4 (j := 185) rfl rfl, by decide +kernel, mt1 (j := 8) rfl rfl, ⟨by decide +kernel, by decide +kernel⟩, by decide +kernel⟩
theorem mok1_below : MOK m1_below := ⟨mt4 (j := 189) rfl rfl, by decide +kernel, mt1 (j := 8) rfl rfl, ⟨by decide +kernel, by decide +kernel⟩, by decide +kernel⟩
theorem mok10_part : MOK m10_part := ⟨mt4 (j := 181) rfl rfl, by decide +kernel, mt1 (j := 1) rfl rfl, ⟨by decide +kernel, by decide +kernel⟩, by decide +kernel⟩
theorem mok10_imageAt : MOK m10_imageAt := ⟨mt4 (j := 197) rfl rfl, by decide +kernel, mt1 (j := 1) rfl rfl, ⟨by decide +kernel, by decide +kernel⟩, by decide +kernel⟩
theorem mok10_image : MOK m10_image := ⟨mt4 (j := 193) rfl rfl, by decide +kernel, mt1 (j := 1) rfl rfl, ⟨by decide +kernel, by decide +kernel⟩, by decide +kernel⟩
theorem mok10_from : MOK m10_from := ⟨mt4 (j := 201) rfl rfl, by decide +kernel, mt1 (j := 1) rfl rfl, ⟨by decide +kernel, by decide +kernel⟩, by decide +kernel⟩
theorem mok10_status : MOK m10_status := ⟨mt4 (j := 205) rfl rfl, by decide +kernel, mt1 (j := 1) rfl rfl, ⟨by decide +kernel, by decide +kernel⟩, by decide +kernel⟩
theorem mok10_countOf : MOK m10_countOf := ⟨mt4 (j := 213) rfl rfl, by decide +kernel, mt1 (j := 1) rfl rfl, ⟨by decide +kernel, by decide +kernel⟩, by decide +kernel⟩
theorem mok10_count : MOK m10_count := ⟨mt4 (j := 209) rfl rfl, by decide +kernel, mt1 (j := 1) rfl rfl, ⟨by decide +kernel, by decide +kernel⟩, by decide +kernel⟩
theorem mok7_digestOn : MOK m7_digestOn := ⟨mt4 (j := 227) rfl rfl, by decide +kernel, mt1 (j := 3) rfl rfl, ⟨by decide +kernel, by decide +kernel⟩, by decide +kernel⟩
theorem mok9_digestOn : MOK m9_digestOn := ⟨mt4 (j := 223) rfl rfl, by decide +kernel, mt1 (j := 2) rfl rfl, ⟨by decide +kernel, by decide +kernel⟩, by decide +kernel⟩
theorem mok10_digest : MOK m10_digest := ⟨mt4 (j := 217) rfl rfl, by decide +kernel, mt1 (j := 1) rfl rfl, ⟨by decide +kernel, by decide +kernel⟩, by decide +kernel⟩
theorem mok11_begin : MOK m11_begin := ⟨mt4 (j := 238) rfl rfl, by decide +kernel, mt1 (j := 12) rfl rfl, ⟨by decide +kernel, by decide +kernel⟩, by decide +kernel⟩
theorem mok11_many : MOK m11_many := ⟨mt5 (j := 65) rfl rfl, by decide +kernel, mt1 (j := 12) rfl rfl, ⟨by decide +kernel, by decide +kernel⟩, by decide +kernel⟩
theorem mok11_village : MOK m11_village := ⟨mt5 (j := 61) rfl rfl, by decide +kernel, mt1 (j := 12) rfl rfl, ⟨by decide +kernel, by decide +kernel⟩, by decide +kernel⟩
theorem mok11_in : MOK m11_in := ⟨mt5 (j := 73) rfl rfl, by decide +kernel, mt1 (j := 12) rfl rfl, ⟨by decide +kernel, by decide +kernel⟩, by decide +kernel⟩
theorem mok11_isCell : MOK m11_isCell := ⟨mt5 (j := 76) rfl rfl, by decide +kernel, mt1 (j := 12) rfl rfl, ⟨by decide +kernel, by decide +kernel⟩, by decide +kernel⟩
theorem mok11_bad : MOK m11_bad := ⟨mt5 (j := 82) rfl rfl, by decide +kernel, mt1 (j := 12) rfl rfl, ⟨by decide +kernel, by decide +kernel⟩, by decide +kernel⟩
theorem mok11_storm : MOK m11_storm := ⟨mt5 (j := 69) rfl rfl, by decide +kernel, mt1 (j := 12) rfl rfl, ⟨by decide +kernel, by decide +kernel⟩, by decide +kernel⟩
theorem mok11_isKind : MOK m11_isKind := ⟨mt5 (j := 89) rfl rfl, by decide +kernel, mt1 (j := 12) rfl rfl, ⟨by decide +kernel, by decide +kernel⟩, by decide +kernel⟩
theorem mok11_full : MOK m11_full := ⟨mt5 (j := 94) rfl rfl, by decide +kernel, mt1 (j := 12) rfl rfl, ⟨by decide +kernel, by decide +kernel⟩, by decide +kernel⟩
theorem mok11_layThing : MOK m11_layThing := ⟨mt5 (j := 97) rfl rfl, by decide +kernel, mt1 (j := 12) rfl rfl, ⟨by decide +kernel, by decide +kernel⟩, by decide +kernel⟩
theorem mok11_thing : MOK m11_thing := ⟨mt5 (j := 86) rfl rfl, by decide +kernel, mt1 (j := 12) rfl rfl, ⟨by decide +kernel, by decide +kernel⟩, by decide +kernel⟩
theorem mok11_body : MOK m11_body := ⟨mt5 (j := 101) rfl rfl, by decide +kernel, mt1 (j := 12) rfl rfl, ⟨by decide +kernel, by decide +kernel⟩, by decide +kernel⟩
theorem mok11_save : MOK m11_save := ⟨mt5 (j := 110) rfl rfl, by decide +kernel, mt1 (j := 12) rfl rfl, ⟨by decide +kernel, by decide +kernel⟩, by decide +kernel⟩
theorem mok11_has : MOK m11_has := ⟨mt5 (j := 125) rfl rfl, by decide +kernel, mt1 (j := 12) rfl rfl, ⟨by decide +kernel, by decide +kernel⟩, by decide +kernel⟩
theorem mok11_drawsAs : MOK m11_drawsAs := ⟨mt5 (j := 131) rfl rfl, by decide +kernel, mt1 (j := 12) rfl rfl, ⟨by decide +kernel, by decide +kernel⟩, by decide +kernel⟩
theorem mok11_drawsFrom : MOK m11_drawsFrom := ⟨mt5 (j := 128) rfl rfl, by decide +kernel, mt1 (j := 12) rfl rfl, ⟨by decide +kernel, by decide +kernel⟩, by decide +kernel⟩
theorem mok11_struckOf : MOK m11_struckOf := ⟨mt5 (j := 122) rfl rfl, by decide +kernel, mt1 (j := 12) rfl rfl, ⟨by decide +kernel, by decide +kernel⟩, by decide +kernel⟩
theorem mok11_firstOf : MOK m11_firstOf := ⟨mt5 (j := 137) rfl rfl, by decide +kernel, mt1 (j := 12) rfl rfl, ⟨by decide +kernel, by decide +kernel⟩, by decide +kernel⟩
theorem mok11_bits : MOK m11_bits := ⟨mt5 (j := 140) rfl rfl, by decide +kernel, mt1 (j := 12) rfl rfl, ⟨by decide +kernel, by decide +kernel⟩, by decide +kernel⟩
theorem mok11_needsAs : MOK m11_needsAs := ⟨mt5 (j := 143) rfl rfl, by decide +kernel, mt1 (j := 12) rfl rfl, ⟨by decide +kernel, by decide +kernel⟩, by decide +kernel⟩
theorem mok11_goParts : MOK m11_goParts := ⟨mt5 (j := 134) rfl rfl, by decide +kernel, mt1 (j := 12) rfl rfl, ⟨by decide +kernel, by decide +kernel⟩, by decide +kernel⟩
theorem mok11_goSummer : MOK m11_goSummer := ⟨mt5 (j := 119) rfl rfl, by decide +kernel, mt1 (j := 12) rfl rfl, ⟨by decide +kernel, by decide +kernel⟩, by decide +kernel⟩
theorem mok11_goTold : MOK m11_goTold := ⟨mt5 (j := 116) rfl rfl, by decide +kernel, mt1 (j := 12) rfl rfl, ⟨by decide +kernel, by decide +kernel⟩, by decide +kernel⟩
theorem mok11_goSummers : MOK m11_goSummers := ⟨mt5 (j := 113) rfl rfl, by decide +kernel, mt1 (j := 12) rfl rfl, ⟨by decide +kernel, by decide +kernel⟩, by decide +kernel⟩
theorem mok11_summers : MOK m11_summers := ⟨mt5 (j := 105) rfl rfl, by decide +kernel, mt1 (j := 12) rfl rfl, ⟨by decide +kernel, by decide +kernel⟩, by decide +kernel⟩
theorem mok11_isThing : MOK m11_isThing := ⟨mt5 (j := 151) rfl rfl, by decide +kernel, mt1 (j := 12) rfl rfl, ⟨by decide +kernel, by decide +kernel⟩, by decide +kernel⟩
theorem mok11_takes : MOK m11_takes := ⟨mt5 (j := 147) rfl rfl, by decide +kernel, mt1 (j := 12) rfl rfl, ⟨by decide +kernel, by decide +kernel⟩, by decide +kernel⟩
theorem mok11_no : MOK m11_no := ⟨mt5 (j := 159) rfl rfl, by decide +kernel, mt1 (j := 12) rfl rfl, ⟨by decide +kernel, by decide +kernel⟩, by decide +kernel⟩
theorem mok11_undo : MOK m11_undo := ⟨mt5 (j := 155) rfl rfl, by decide +kernel, mt1 (j := 12) rfl rfl, ⟨by decide +kernel, by decide +kernel⟩, by decide +kernel⟩
theorem mok11_of : MOK m11_of := ⟨mt5 (j := 163) rfl rfl, by decide +kernel, mt1 (j := 12) rfl rfl, ⟨by decide +kernel, by decide +kernel⟩, by decide +kernel⟩
theorem mok11_isPart : MOK m11_isPart := ⟨mt5 (j := 172) rfl rfl, by decide +kernel, mt1 (j := 12) rfl rfl, ⟨by decide +kernel, by decide +kernel⟩, by decide +kernel⟩
theorem mok11_about : MOK m11_about := ⟨mt5 (j := 168) rfl rfl, by decide +kernel, mt1 (j := 12) rfl rfl, ⟨by decide +kernel, by decide +kernel⟩, by decide +kernel⟩
theorem mok11_weather : MOK m11_weather := ⟨mt5 (j := 177) rfl rfl, by decide +kernel, mt1 (j := 12) rfl rfl, ⟨by decide +kernel, by decide +kernel⟩, by decide +kernel⟩
theorem mok11_draws : MOK m11_draws := ⟨mt5 (j := 181) rfl rfl, by decide +kernel, mt1 (j := 12) rfl rfl, ⟨by decide +kernel, by decide +kernel⟩, by decide +kernel⟩
theorem mok11_struck : MOK m11_struck := ⟨mt5 (j := 185) rfl rfl, by decide +kernel, mt1 (j := 12) rfl rfl, ⟨by decide +kernel, by decide +kernel⟩, by decide +kernel⟩
theorem mok11_layHand : MOK m11_layHand := ⟨mt5 (j := 193) rfl rfl, by decide +kernel, mt1 (j := 12) rfl rfl, ⟨by decide +kernel, by decide +kernel⟩, by decide +kernel⟩
theorem mok11_then : MOK m11_then := ⟨mt5 (j := 189) rfl rfl, by decide +kernel, mt1 (j := 12) rfl rfl, ⟨by decide +kernel, by decide +kernel⟩, by decide +kernel⟩
theorem mok11_whenOf : MOK m11_whenOf := ⟨mt5 (j := 201) rfl rfl, by decide +kernel, mt1 (j := 12) rfl rfl, ⟨by decide +kernel, by decide +kernel⟩, by decide +kernel⟩
theorem mok11_when : MOK m11_when := ⟨mt5 (j := 197) rfl rfl, by decide +kernel, mt1 (j := 12) rfl rfl, ⟨by decide +kernel, by decide +kernel⟩, by decide +kernel⟩
theorem mok11_cellsBy : MOK m11_cellsBy := ⟨mt5 (j := 209) rfl rfl, by decide +kernel, mt1 (j := 12) rfl rfl, ⟨by decide +kernel, by decide +kernel⟩, by decide +kernel⟩
theorem mok11_whence : MOK m11_whence := ⟨mt5 (j := 205) rfl rfl, by decide +kernel, mt1 (j := 12) rfl rfl, ⟨by decide +kernel, by decide +kernel⟩, by decide +kernel⟩
theorem mok11_lead : MOK m11_lead := ⟨mt5 (j := 213) rfl rfl, by decide +kernel, mt1 (j := 12) rfl rfl, ⟨by decide +kernel, by decide +kernel⟩, by decide +kernel⟩
theorem mok11_spare : MOK m11_spare := ⟨mt5 (j := 217) rfl rfl, by decide +kernel, mt1 (j := 12) rfl rfl, ⟨by decide +kernel, by decide +kernel⟩, by decide +kernel⟩
theorem mok11_layMissing : MOK m11_layMissing := ⟨mt5 (j := 226) rfl rfl, by decide +kernel, mt1 (j := 12) rfl rfl, ⟨by decide +kernel, by decide +kernel⟩, by decide +kernel⟩
theorem mok11_layOrder : MOK m11_layOrder := ⟨mt5 (j := 230) rfl rfl, by decide +kernel, mt1 (j := 12) rfl rfl, ⟨by decide +kernel, by decide +kernel⟩, by decide +kernel⟩
theorem mok11_comeBy : MOK m11_comeBy := ⟨mt5 (j := 234) rfl rfl, by decide +kernel, mt1 (j := 12) rfl rfl, ⟨by decide +kernel, by decide +kernel⟩, by decide +kernel⟩
theorem mok11_order : MOK m11_order := ⟨mt5 (j := 221) rfl rfl, by decide +kernel, mt1 (j := 12) rfl rfl, ⟨by decide +kernel, by decide +kernel⟩, by decide +kernel⟩
theorem mok11_seen : MOK m11_seen := ⟨mt5 (j := 238) rfl rfl, by decide +kernel, mt1 (j := 12) rfl rfl, ⟨by decide +kernel, by decide +kernel⟩, by decide +kernel⟩
theorem mok11_isSeenBy : MOK m11_isSeenBy := ⟨mt6 (j := 6) rfl rfl, by decide +kernel, mt1 (j := 12) rfl rfl, ⟨by decide +kernel, by decide +kernel⟩, by decide +kernel⟩
theorem mok11_tall : MOK m11_tall := ⟨mt6 (j := 2) rfl rfl, by decide +kernel, mt1 (j := 12) rfl rfl, ⟨by decide +kernel, by decide +kernel⟩, by decide +kernel⟩
theorem mok11_note : MOK m11_note := ⟨mt6 (j := 10) rfl rfl, by decide +kernel, mt1 (j := 12) rfl rfl, ⟨by decide +kernel, by decide +kernel⟩, by decide +kernel⟩
theorem mok11_mark : MOK m11_mark := ⟨mt6 (j := 14) rfl rfl, by decide +kernel, mt1 (j := 12) rfl rfl, ⟨by decide +kernel, by decide +kernel⟩, by decide +kernel⟩
theorem mok11_forget : MOK m11_forget := ⟨mt6 (j := 18) rfl rfl, by decide +kernel, mt1 (j := 12) rfl rfl, ⟨by decide +kernel, by decide +kernel⟩, by decide +kernel⟩
theorem mok11_kindsOfThing : MOK m11_kindsOfThing := ⟨mt6 (j := 26) rfl rfl, by decide +kernel, mt1 (j := 12) rfl rfl, ⟨by decide +kernel, by decide +kernel⟩, by decide +kernel⟩
theorem mok11_is : MOK m11_is := ⟨mt6 (j := 22) rfl rfl, by decide +kernel, mt1 (j := 12) rfl rfl, ⟨by decide +kernel, by decide +kernel⟩, by decide +kernel⟩
theorem mok11_mostAlike : MOK m11_mostAlike := ⟨mt6 (j := 35) rfl rfl, by decide +kernel, mt1 (j := 12) rfl rfl, ⟨by decide +kernel, by decide +kernel⟩, by decide +kernel⟩
theorem mok11_look : MOK m11_look := ⟨mt6 (j := 30) rfl rfl, by decide +kernel, mt1 (j := 12) rfl rfl, ⟨by decide +kernel, by decide +kernel⟩, by decide +kernel⟩
theorem mok11_kindsOfPart : MOK m11_kindsOfPart := ⟨mt6 (j := 43) rfl rfl, by decide +kernel, mt1 (j := 12) rfl rfl, ⟨by decide +kernel, by decide +kernel⟩, by decide +kernel⟩
theorem mok11_kinds : MOK m11_kinds := ⟨mt6 (j := 39) rfl rfl, by decide +kernel, mt1 (j := 12) rfl rfl, ⟨by decide +kernel, by decide +kernel⟩, by decide +kernel⟩
theorem mok11_ask : MOK m11_ask := ⟨mt6 (j := 47) rfl rfl, by decide +kernel, mt1 (j := 12) rfl rfl, ⟨by decide +kernel, by decide +kernel⟩, by decide +kernel⟩
theorem mok11_off : MOK m11_off := ⟨mt6 (j := 60) rfl rfl, by decide +kernel, mt1 (j := 12) rfl rfl, ⟨by decide +kernel, by decide +kernel⟩, by decide +kernel⟩
theorem mok11_getsBy : MOK m11_getsBy := ⟨mt6 (j := 57) rfl rfl, by decide +kernel, mt1 (j := 12) rfl rfl, ⟨by decide +kernel, by decide +kernel⟩, by decide +kernel⟩
theorem mok11_isBest : MOK m11_isBest := ⟨mt6 (j := 54) rfl rfl, by decide +kernel, mt1 (j := 12) rfl rfl, ⟨by decide +kernel, by decide +kernel⟩, by decide +kernel⟩
theorem mok11_sweep : MOK m11_sweep := ⟨mt6 (j := 51) rfl rfl, by decide +kernel, mt1 (j := 12) rfl rfl, ⟨by decide +kernel, by decide +kernel⟩, by decide +kernel⟩
theorem mok11_fraction : MOK m11_fraction := ⟨mt6 (j := 69) rfl rfl, by decide +kernel, mt1 (j := 12) rfl rfl, ⟨by decide +kernel, by decide +kernel⟩, by decide +kernel⟩
theorem mok11_falls : MOK m11_falls := ⟨mt6 (j := 64) rfl rfl, by decide +kernel, mt1 (j := 12) rfl rfl, ⟨by decide +kernel, by decide +kernel⟩, by decide +kernel⟩
theorem mok11_septembers : MOK m11_septembers := ⟨mt6 (j := 73) rfl rfl, by decide +kernel, mt1 (j := 12) rfl rfl, ⟨by decide +kernel, by decide +kernel⟩, by decide +kernel⟩
theorem mok11_type : MOK m11_type := ⟨mt6 (j := 84) rfl rfl, by decide +kernel, mt1 (j := 12) rfl rfl, ⟨by decide +kernel, by decide +kernel⟩, by decide +kernel⟩
theorem mok11_clear : MOK m11_clear := ⟨mt6 (j := 89) rfl rfl, by decide +kernel, mt1 (j := 12) rfl rfl, ⟨by decide +kernel, by decide +kernel⟩, by decide +kernel⟩
theorem mok11_isSmall : MOK m11_isSmall := ⟨mt6 (j := 100) rfl rfl, by decide +kernel, mt1 (j := 12) rfl rfl, ⟨by decide +kernel, by decide +kernel⟩, by decide +kernel⟩
theorem mok11_isFigure : MOK m11_isFigure := ⟨mt6 (j := 105) rfl rfl, by decide +kernel, mt1 (j := 12) rfl rfl, ⟨by decide +kernel, by decide +kernel⟩, by decide +kernel⟩
theorem mok11_lookAt : MOK m11_lookAt := ⟨mt6 (j := 97) rfl rfl, by decide +kernel, mt1 (j := 12) rfl rfl, ⟨by decide +kernel, by decide +kernel⟩, by decide +kernel⟩
theorem mok11_spellsSeven : MOK m11_spellsSeven := ⟨mt6 (j := 111) rfl rfl, by decide +kernel, mt1 (j := 12) rfl rfl, ⟨by decide +kernel, by decide +kernel⟩, by decide +kernel⟩
theorem mok11_goBehind : MOK m11_goBehind := ⟨mt6 (j := 115) rfl rfl, by decide +kernel, mt1 (j := 12) rfl rfl, ⟨by decide +kernel, by decide +kernel⟩, by decide +kernel⟩
theorem mok11_spells : MOK m11_spells := ⟨mt6 (j := 123) rfl rfl, by decide +kernel, mt1 (j := 12) rfl rfl, ⟨by decide +kernel, by decide +kernel⟩, by decide +kernel⟩
theorem mok11_gives : MOK m11_gives := ⟨mt6 (j := 131) rfl rfl, by decide +kernel, mt1 (j := 12) rfl rfl, ⟨by decide +kernel, by decide +kernel⟩, by decide +kernel⟩
theorem mok11_givesStorm : MOK m11_givesStorm := ⟨mt6 (j := 127) rfl rfl, by decide +kernel, mt1 (j := 12) rfl rfl, ⟨by decide +kernel, by decide +kernel⟩, by decide +kernel⟩
theorem mok11_givesThing : MOK m11_givesThing := ⟨mt6 (j := 135) rfl rfl, by decide +kernel, mt1 (j := 12) rfl rfl, ⟨by decide +kernel, by decide +kernel⟩, by decide +kernel⟩
theorem mok11_givesPart : MOK m11_givesPart := ⟨mt6 (j := 139) rfl rfl, by decide +kernel, mt1 (j := 12) rfl rfl, ⟨by decide +kernel, by decide +kernel⟩, by decide +kernel⟩
theorem mok11_givesTake : MOK m11_givesTake := ⟨mt6 (j := 143) rfl rfl, by decide +kernel, mt1 (j := 12) rfl rfl, ⟨by decide +kernel, by decide +kernel⟩, by decide +kernel⟩
theorem mok11_givesSummers : MOK m11_givesSummers := ⟨mt6 (j := 147) rfl rfl, by decide +kernel, mt1 (j := 12) rfl rfl, ⟨by decide +kernel, by decide +kernel⟩, by decide +kernel⟩
theorem mok11_givesItem : MOK m11_givesItem := ⟨mt6 (j := 119) rfl rfl, by decide +kernel, mt1 (j := 12) rfl rfl, ⟨by decide +kernel, by decide +kernel⟩, by decide +kernel⟩
theorem mok11_read : MOK m11_read := ⟨mt6 (j := 93) rfl rfl, by decide +kernel, mt1 (j := 12) rfl rfl, ⟨by decide +kernel, by decide +kernel⟩, by decide +kernel⟩
theorem mok11_part : MOK m11_part := ⟨mt6 (j := 151) rfl rfl, by decide +kernel, mt1 (j := 12) rfl rfl, ⟨by decide +kernel, by decide +kernel⟩, by decide +kernel⟩
theorem mok11_image : MOK m11_image := ⟨mt6 (j := 155) rfl rfl, by decide +kernel, mt1 (j := 12) rfl rfl, ⟨by decide +kernel, by decide +kernel⟩, by decide +kernel⟩
theorem mok11_from : MOK m11_from := ⟨mt6 (j := 159) rfl rfl, by decide +kernel, mt1 (j := 12) rfl rfl, ⟨by decide +kernel, by decide +kernel⟩, by decide +kernel⟩
theorem mok11_status : MOK m11_status := ⟨mt6 (j := 163) rfl rfl, by decide +kernel, mt1 (j := 12) rfl rfl, ⟨by decide +kernel, by decide +kernel⟩, by decide +kernel⟩
theorem mok11_counted : MOK m11_counted := ⟨mt6 (j := 171) rfl rfl, by decide +kernel, mt1 (j := 12) rfl rfl, ⟨by decide +kernel, by decide +kernel⟩, by decide +kernel⟩
theorem mok11_count : MOK m11_count := ⟨mt6 (j := 167) rfl rfl, by decide +kernel, mt1 (j := 12) rfl rfl, ⟨by decide +kernel, by decide +kernel⟩, by decide +kernel⟩
theorem mok11_sums : MOK m11_sums := ⟨mt6 (j := 181) rfl rfl, by decide +kernel, mt1 (j := 12) rfl rfl, ⟨by decide +kernel, by decide +kernel⟩, by decide +kernel⟩
theorem mok11_digest : MOK m11_digest := ⟨mt6 (j := 175) rfl rfl, by decide +kernel, mt1 (j := 12) rfl rfl, ⟨by decide +kernel, by decide +kernel⟩, by decide +kernel⟩
theorem mokJ0_coder : MOK mJ0_coder := ⟨mt2 (j := 199) rfl rfl, by decide +kernel, mt1 (j := 13) rfl rfl, ⟨by decide +kernel, by decide +kernel⟩, by decide +kernel⟩
theorem mokJ0_isLatin1 : MOK mJ0_isLatin1 := ⟨mt2 (j := 209) rfl rfl, by decide +kernel, mt1 (j := 13) rfl rfl, ⟨by decide +kernel, by decide +kernel⟩, by decide +kernel⟩
theorem mokJ1_charAt : MOK mJ1_charAt := ⟨mt2 (j := 212) rfl rfl, by decide +kernel, mt1 (j := 14) rfl rfl, ⟨by decide +kernel, by decide +kernel⟩, by decide +kernel⟩
theorem mokJ0_checkIndex : MOK mJ0_checkIndex := ⟨mt2 (j := 215) rfl rfl, by decide +kernel, mt1 (j := 13) rfl rfl, ⟨by decide +kernel, by decide +kernel⟩, by decide +kernel⟩
theorem mokJ3_checkIndex : MOK mJ3_checkIndex := ⟨mt2 (j := 220) rfl rfl, by decide +kernel, mt1 (j := 15) rfl rfl, ⟨by decide +kernel, by decide +kernel⟩, by decide +kernel⟩
theorem wstwithin : Cond.static m10_within.1 ∈ gt := mt2 (j := 80) rfl rfl
theorem flJ0_9 : Cond.fieldLink RJ0 9 "java/lang/String" "value" "[B" ∈ gt := mt6 (j := 182) rfl rfl
theorem flJ0_15 : Cond.fieldLink RJ0 15 "java/lang/String" "coder" "B" ∈ gt := mt6 (j := 183) rfl rfl
theorem flJ0_38 : Cond.fieldLink RJ0 38 "java/lang/String" "COMPACT_STRINGS" "Z" ∈ gt := mt2 (j := 200) rfl rfl
theorem flJ0_1053 : Cond.fieldLink RJ0 1053 "jdk/internal/util/Preconditions" "SIOOBE_FORMATTER" "Ljava/util/function/BiFunction;" ∈ gt := mt2 (j := 216) rfl rfl
theorem wc5_93 : Cond.constant RX5 93 1000000 ∈ gt := mt4 (j := 18) rfl rfl
theorem wc10_209 : Cond.constant RX10 209 1000000 ∈ gt := mt3 (j := 184) rfl rfl
theorem wc10_303 : Cond.constant RX10 303 999999 ∈ gt := mt4 (j := 170) rfl rfl
theorem wc11_175 : Cond.constant RX11 175 1000000 ∈ gt := mt6 (j := 31) rfl rfl
theorem wcJ6_265 : Cond.constant RJ6 265 1431655765 ∈ gt := mt3 (j := 78) rfl rfl
theorem wcJ6_266 : Cond.constant RJ6 266 858993459 ∈ gt := mt3 (j := 79) rfl rfl
theorem wcJ6_267 : Cond.constant RJ6 267 252645135 ∈ gt := mt3 (j := 80) rfl rfl
theorem wl7_46 : Cond.constantLong RX7 46 31 ∈ gt := mt4 (j := 228) rfl rfl
theorem wl9_142 : Cond.constantLong RX9 142 31 ∈ gt := mt4 (j := 229) rfl rfl
theorem wl10_301 : Cond.constantLong RX10 301 10 ∈ gt := mt4 (j := 165) rfl rfl
theorem wl10_304 : Cond.constantLong RX10 304 1103515245 ∈ gt := mt4 (j := 171) rfl rfl
theorem wl10_306 : Cond.constantLong RX10 306 12345 ∈ gt := mt4 (j := 172) rfl rfl
theorem wl10_308 : Cond.constantLong RX10 308 2147483648 ∈ gt := mt4 (j := 173) rfl rfl
theorem wl10_310 : Cond.constantLong RX10 310 65536 ∈ gt := mt4 (j := 174) rfl rfl
theorem wl10_312 : Cond.constantLong RX10 312 12 ∈ gt := mt4 (j := 175) rfl rfl
theorem wl10_314 : Cond.constantLong RX10 314 1048576 ∈ gt := mt4 (j := 176) rfl rfl
theorem wl10_349 : Cond.constantLong RX10 349 1621 ∈ gt := mt4 (j := 218) rfl rfl
theorem wl10_351 : Cond.constantLong RX10 351 31 ∈ gt := mt4 (j := 219) rfl rfl
theorem wl11_125 : Cond.constantLong RX11 125 60 ∈ gt := mt5 (j := 106) rfl rfl
theorem wl11_140 : Cond.constantLong RX11 140 3 ∈ gt := mt5 (j := 164) rfl rfl
theorem wl11_145 : Cond.constantLong RX11 145 2 ∈ gt := mt5 (j := 173) rfl rfl
theorem wl11_156 : Cond.constantLong RX11 156 99 ∈ gt := mt5 (j := 222) rfl rfl
theorem wl11_195 : Cond.constantLong RX11 195 10 ∈ gt := mt6 (j := 65) rfl rfl
theorem wl11_201 : Cond.constantLong RX11 201 999999 ∈ gt := mt6 (j := 74) rfl rfl
theorem wl11_203 : Cond.constantLong RX11 203 1103515245 ∈ gt := mt6 (j := 75) rfl rfl
theorem wl11_205 : Cond.constantLong RX11 205 12345 ∈ gt := mt6 (j := 76) rfl rfl
theorem wl11_207 : Cond.constantLong RX11 207 2147483648 ∈ gt := mt6 (j := 77) rfl rfl
theorem wl11_209 : Cond.constantLong RX11 209 65536 ∈ gt := mt6 (j := 78) rfl rfl
theorem wl11_211 : Cond.constantLong RX11 211 12 ∈ gt := mt6 (j := 79) rfl rfl
theorem wl11_213 : Cond.constantLong RX11 213 1048576 ∈ gt := mt6 (j := 80) rfl rfl
theorem wl11_215 : Cond.constantLong RX11 215 127 ∈ gt := mt6 (j := 85) rfl rfl
theorem wl11_221 : Cond.constantLong RX11 221 97 ∈ gt := mt6 (j := 101) rfl rfl
theorem wl11_223 : Cond.constantLong RX11 223 122 ∈ gt := mt6 (j := 102) rfl rfl
theorem wl11_225 : Cond.constantLong RX11 225 48 ∈ gt := mt6 (j := 106) rfl rfl
theorem wl11_227 : Cond.constantLong RX11 227 57 ∈ gt := mt6 (j := 107) rfl rfl
theorem wl11_286 : Cond.constantLong RX11 286 31 ∈ gt := mt6 (j := 177) rfl rfl
theorem wl11_288 : Cond.constantLong RX11 288 1621 ∈ gt := mt6 (j := 176) rfl rfl
theorem wl11_63 : Cond.constantLong RX11 63 11 ∈ gt := mt5 (j := 77) rfl rfl
theorem wl11_65 : Cond.constantLong RX11 65 5 ∈ gt := mt5 (j := 70) rfl rfl
theorem wl11_71 : Cond.constantLong RX11 71 9 ∈ gt := mt5 (j := 78) rfl rfl
theorem wl11_80 : Cond.constantLong RX11 80 30 ∈ gt := mt5 (j := 90) rfl rfl
theorem fs0_16 : FS RX0 16 0 0 := ⟨RX0, TX0, rfl, by decide, by decide, in0, mt2 (j := 7) rfl rfl, rfl⟩
theorem fs0_20 : FS RX0 20 0 1 := ⟨RX0, TX0, rfl, by decide, by decide, in0, mt2 (j := 8) rfl rfl, rfl⟩
theorem fs1_13 : FS RX1 13 1 1 := ⟨RX1, TX1, rfl, by decide, by decide, in1, mt1 (j := 197) rfl rfl, rfl⟩
theorem fs1_7 : FS RX1 7 1 0 := ⟨RX1, TX1, rfl, by decide, by decide, in1, mt1 (j := 196) rfl rfl, rfl⟩
theorem fs2_14 : FS RX2 14 2 0 := ⟨RX2, TX2, rfl, by decide, by decide, in2, mt1 (j := 235) rfl rfl, rfl⟩
theorem fs4_13 : FS RX4 13 4 1 := ⟨RX4, TX4, rfl, by decide, by decide, in4, mt1 (j := 65) rfl rfl, rfl⟩
theorem fs4_16 : FS RX4 16 4 2 := ⟨RX4, TX4, rfl, by decide, by decide, in4, mt1 (j := 69) rfl rfl, rfl⟩
theorem fs4_19 : FS RX4 19 4 3 := ⟨RX4, TX4, rfl, by decide, by decide, in4, mt1 (j := 72) rfl rfl, rfl⟩
theorem fs4_7 : FS RX4 7 4 0 := ⟨RX4, TX4, rfl, by decide, by decide, in4, mt1 (j := 62) rfl rfl, rfl⟩
theorem fs5_101 : FS RX5 101 4 3 := ⟨RX4, TX4, rfl, by decide, by decide, in4, mt1 (j := 74) rfl rfl, rfl⟩
theorem fs5_16 : FS RX5 16 5 0 := ⟨RX5, TX5, rfl, by decide, by decide, in5, mt1 (j := 211) rfl rfl, rfl⟩
theorem fs5_20 : FS RX5 20 5 1 := ⟨RX5, TX5, rfl, by decide, by decide, in5, mt1 (j := 212) rfl rfl, rfl⟩
theorem fs5_23 : FS RX5 23 5 2 := ⟨RX5, TX5, rfl, by decide, by decide, in5, mt1 (j := 213) rfl rfl, rfl⟩
theorem fs5_26 : FS RX5 26 5 3 := ⟨RX5, TX5, rfl, by decide, by decide, in5, mt1 (j := 214) rfl rfl, rfl⟩
theorem fs5_30 : FS RX5 30 5 4 := ⟨RX5, TX5, rfl, by decide, by decide, in5, mt1 (j := 215) rfl rfl, rfl⟩
theorem fs5_37 : FS RX5 37 9 7 := ⟨RX9, TX9, rfl, by decide, by decide, in9, mt1 (j := 127) rfl rfl, rfl⟩
theorem fs5_43 : FS RX5 43 4 1 := ⟨RX4, TX4, rfl, by decide, by decide, in4, mt1 (j := 66) rfl rfl, rfl⟩
theorem fs5_48 : FS RX5 48 9 2 := ⟨RX9, TX9, rfl, by decide, by decide, in9, mt1 (j := 115) rfl rfl, rfl⟩
theorem fs6_13 : FS RX6 13 6 0 := ⟨RX6, TX6, rfl, by decide, by decide, in6, mt1 (j := 156) rfl rfl, rfl⟩
theorem fs7_13 : FS RX7 13 7 1 := ⟨RX7, TX7, rfl, by decide, by decide, in7, mt1 (j := 43) rfl rfl, rfl⟩
theorem fs7_22 : FS RX7 22 7 2 := ⟨RX7, TX7, rfl, by decide, by decide, in7, mt1 (j := 44) rfl rfl, rfl⟩
theorem fs7_26 : FS RX7 26 7 3 := ⟨RX7, TX7, rfl, by decide, by decide, in7, mt1 (j := 45) rfl rfl, rfl⟩
theorem fs7_7 : FS RX7 7 7 0 := ⟨RX7, TX7, rfl, by decide, by decide, in7, mt1 (j := 42) rfl rfl, rfl⟩
theorem fs8_113 : FS RX8 113 9 7 := ⟨RX9, TX9, rfl, by decide, by decide, in9, mt1 (j := 129) rfl rfl, rfl⟩
theorem fs8_16 : FS RX8 16 8 0 := ⟨RX8, TX8, rfl, by decide, by decide, in8, mt1 (j := 168) rfl rfl, rfl⟩
theorem fs8_20 : FS RX8 20 8 1 := ⟨RX8, TX8, rfl, by decide, by decide, in8, mt1 (j := 169) rfl rfl, rfl⟩
theorem fs8_23 : FS RX8 23 8 2 := ⟨RX8, TX8, rfl, by decide, by decide, in8, mt1 (j := 170) rfl rfl, rfl⟩
theorem fs8_31 : FS RX8 31 8 5 := ⟨RX8, TX8, rfl, by decide, by decide, in8, mt1 (j := 173) rfl rfl, rfl⟩
theorem fs8_37 : FS RX8 37 8 3 := ⟨RX8, TX8, rfl, by decide, by decide, in8, mt1 (j := 171) rfl rfl, rfl⟩
theorem fs8_52 : FS RX8 52 8 4 := ⟨RX8, TX8, rfl, by decide, by decide, in8, mt1 (j := 172) rfl rfl, rfl⟩
theorem fs8_59 : FS RX8 59 9 1 := ⟨RX9, TX9, rfl, by decide, by decide, in9, mt1 (j := 113) rfl rfl, rfl⟩
theorem fs8_70 : FS RX8 70 9 2 := ⟨RX9, TX9, rfl, by decide, by decide, in9, mt1 (j := 117) rfl rfl, rfl⟩
theorem fs8_77 : FS RX8 77 8 6 := ⟨RX8, TX8, rfl, by decide, by decide, in8, mt1 (j := 174) rfl rfl, rfl⟩
theorem fs9_14 : FS RX9 14 9 0 := ⟨RX9, TX9, rfl, by decide, by decide, in9, mt1 (j := 109) rfl rfl, rfl⟩
theorem fs9_20 : FS RX9 20 9 1 := ⟨RX9, TX9, rfl, by decide, by decide, in9, mt1 (j := 111) rfl rfl, rfl⟩
theorem fs9_23 : FS RX9 23 9 2 := ⟨RX9, TX9, rfl, by decide, by decide, in9, mt1 (j := 114) rfl rfl, rfl⟩
theorem fs9_26 : FS RX9 26 9 3 := ⟨RX9, TX9, rfl, by decide, by decide, in9, mt1 (j := 118) rfl rfl, rfl⟩
theorem fs9_29 : FS RX9 29 9 4 := ⟨RX9, TX9, rfl, by decide, by decide, in9, mt1 (j := 120) rfl rfl, rfl⟩
theorem fs9_32 : FS RX9 32 9 5 := ⟨RX9, TX9, rfl, by decide, by decide, in9, mt1 (j := 122) rfl rfl, rfl⟩
theorem fs9_35 : FS RX9 35 9 6 := ⟨RX9, TX9, rfl, by decide, by decide, in9, mt1 (j := 124) rfl rfl, rfl⟩
theorem fs9_41 : FS RX9 41 9 7 := ⟨RX9, TX9, rfl, by decide, by decide, in9, mt1 (j := 126) rfl rfl, rfl⟩
theorem fs9_74 : FS RX9 74 4 0 := ⟨RX4, TX4, rfl, by decide, by decide, in4, mt1 (j := 63) rfl rfl, rfl⟩
theorem fs9_85 : FS RX9 85 4 1 := ⟨RX4, TX4, rfl, by decide, by decide, in4, mt1 (j := 67) rfl rfl, rfl⟩
theorem fs9_88 : FS RX9 88 4 2 := ⟨RX4, TX4, rfl, by decide, by decide, in4, mt1 (j := 70) rfl rfl, rfl⟩
theorem fs9_91 : FS RX9 91 4 3 := ⟨RX4, TX4, rfl, by decide, by decide, in4, mt1 (j := 73) rfl rfl, rfl⟩
theorem fs10_10 : FS RX10 10 10 0 := ⟨RX10, TX10, rfl, by decide, by decide, in10, mt2 (j := 14) rfl rfl, rfl⟩
theorem fs10_103 : FS RX10 103 9 0 := ⟨RX9, TX9, rfl, by decide, by decide, in9, mt1 (j := 110) rfl rfl, rfl⟩
theorem fs10_131 : FS RX10 131 9 2 := ⟨RX9, TX9, rfl, by decide, by decide, in9, mt1 (j := 116) rfl rfl, rfl⟩
theorem fs10_159 : FS RX10 159 9 7 := ⟨RX9, TX9, rfl, by decide, by decide, in9, mt1 (j := 128) rfl rfl, rfl⟩
theorem fs10_16 : FS RX10 16 10 1 := ⟨RX10, TX10, rfl, by decide, by decide, in10, mt2 (j := 15) rfl rfl, rfl⟩
theorem fs10_178 : FS RX10 178 9 6 := ⟨RX9, TX9, rfl, by decide, by decide, in9, mt1 (j := 125) rfl rfl, rfl⟩
theorem fs10_187 : FS RX10 187 4 3 := ⟨RX4, TX4, rfl, by decide, by decide, in4, mt1 (j := 75) rfl rfl, rfl⟩
theorem fs10_19 : FS RX10 19 10 2 := ⟨RX10, TX10, rfl, by decide, by decide, in10, mt2 (j := 16) rfl rfl, rfl⟩
theorem fs10_210 : FS RX10 210 4 1 := ⟨RX4, TX4, rfl, by decide, by decide, in4, mt1 (j := 68) rfl rfl, rfl⟩
theorem fs10_22 : FS RX10 22 10 3 := ⟨RX10, TX10, rfl, by decide, by decide, in10, mt2 (j := 17) rfl rfl, rfl⟩
theorem fs10_222 : FS RX10 222 4 0 := ⟨RX4, TX4, rfl, by decide, by decide, in4, mt1 (j := 64) rfl rfl, rfl⟩
theorem fs10_250 : FS RX10 250 9 3 := ⟨RX9, TX9, rfl, by decide, by decide, in9, mt1 (j := 119) rfl rfl, rfl⟩
theorem fs10_260 : FS RX10 260 9 4 := ⟨RX9, TX9, rfl, by decide, by decide, in9, mt1 (j := 121) rfl rfl, rfl⟩
theorem fs10_263 : FS RX10 263 9 5 := ⟨RX9, TX9, rfl, by decide, by decide, in9, mt1 (j := 123) rfl rfl, rfl⟩
theorem fs10_28 : FS RX10 28 10 4 := ⟨RX10, TX10, rfl, by decide, by decide, in10, mt2 (j := 18) rfl rfl, rfl⟩
theorem fs10_330 : FS RX10 330 10 11 := ⟨RX10, TX10, rfl, by decide, by decide, in10, mt2 (j := 25) rfl rfl, rfl⟩
theorem fs10_334 : FS RX10 334 10 12 := ⟨RX10, TX10, rfl, by decide, by decide, in10, mt2 (j := 26) rfl rfl, rfl⟩
theorem fs10_337 : FS RX10 337 10 13 := ⟨RX10, TX10, rfl, by decide, by decide, in10, mt2 (j := 27) rfl rfl, rfl⟩
theorem fs10_340 : FS RX10 340 10 14 := ⟨RX10, TX10, rfl, by decide, by decide, in10, mt2 (j := 28) rfl rfl, rfl⟩
theorem fs10_343 : FS RX10 343 10 15 := ⟨RX10, TX10, rfl, by decide, by decide, in10, mt2 (j := 29) rfl rfl, rfl⟩
theorem fs10_359 : FS RX10 359 4 2 := ⟨RX4, TX4, rfl, by decide, by decide, in4, mt1 (j := 71) rfl rfl, rfl⟩
theorem fs10_37 : FS RX10 37 10 5 := ⟨RX10, TX10, rfl, by decide, by decide, in10, mt2 (j := 19) rfl rfl, rfl⟩
theorem fs10_44 : FS RX10 44 10 6 := ⟨RX10, TX10, rfl, by decide, by decide, in10, mt2 (j := 20) rfl rfl, rfl⟩
theorem fs10_51 : FS RX10 51 10 7 := ⟨RX10, TX10, rfl, by decide, by decide, in10, mt2 (j := 21) rfl rfl, rfl⟩
theorem fs10_58 : FS RX10 58 10 8 := ⟨RX10, TX10, rfl, by decide, by decide, in10, mt2 (j := 22) rfl rfl, rfl⟩
theorem fs10_65 : FS RX10 65 10 9 := ⟨RX10, TX10, rfl, by decide, by decide, in10, mt2 (j := 23) rfl rfl, rfl⟩
theorem fs10_72 : FS RX10 72 10 10 := ⟨RX10, TX10, rfl, by decide, by decide, in10, mt2 (j := 24) rfl rfl, rfl⟩
theorem fs10_76 : FS RX10 76 9 1 := ⟨RX9, TX9, rfl, by decide, by decide, in9, mt1 (j := 112) rfl rfl, rfl⟩
theorem fs11_13 : FS RX11 13 11 1 := ⟨RX11, TX11, rfl, by decide, by decide, in11, mt5 (j := 0) rfl rfl, rfl⟩
theorem fs11_16 : FS RX11 16 11 2 := ⟨RX11, TX11, rfl, by decide, by decide, in11, mt5 (j := 1) rfl rfl, rfl⟩
theorem fs11_192 : FS RX11 192 11 4 := ⟨RX11, TX11, rfl, by decide, by decide, in11, mt5 (j := 3) rfl rfl, rfl⟩
theorem fs11_20 : FS RX11 20 11 3 := ⟨RX11, TX11, rfl, by decide, by decide, in11, mt5 (j := 2) rfl rfl, rfl⟩
theorem fs11_217 : FS RX11 217 11 12 := ⟨RX11, TX11, rfl, by decide, by decide, in11, mt5 (j := 11) rfl rfl, rfl⟩
theorem fs11_229 : FS RX11 229 11 13 := ⟨RX11, TX11, rfl, by decide, by decide, in11, mt5 (j := 12) rfl rfl, rfl⟩
theorem fs11_23 : FS RX11 23 11 5 := ⟨RX11, TX11, rfl, by decide, by decide, in11, mt5 (j := 4) rfl rfl, rfl⟩
theorem fs11_232 : FS RX11 232 11 14 := ⟨RX11, TX11, rfl, by decide, by decide, in11, mt5 (j := 13) rfl rfl, rfl⟩
theorem fs11_235 : FS RX11 235 11 15 := ⟨RX11, TX11, rfl, by decide, by decide, in11, mt5 (j := 14) rfl rfl, rfl⟩
theorem fs11_238 : FS RX11 238 11 16 := ⟨RX11, TX11, rfl, by decide, by decide, in11, mt5 (j := 15) rfl rfl, rfl⟩
theorem fs11_27 : FS RX11 27 11 6 := ⟨RX11, TX11, rfl, by decide, by decide, in11, mt5 (j := 5) rfl rfl, rfl⟩
theorem fs11_30 : FS RX11 30 11 7 := ⟨RX11, TX11, rfl, by decide, by decide, in11, mt5 (j := 6) rfl rfl, rfl⟩
theorem fs11_33 : FS RX11 33 11 8 := ⟨RX11, TX11, rfl, by decide, by decide, in11, mt5 (j := 7) rfl rfl, rfl⟩
theorem fs11_36 : FS RX11 36 11 9 := ⟨RX11, TX11, rfl, by decide, by decide, in11, mt5 (j := 8) rfl rfl, rfl⟩
theorem fs11_39 : FS RX11 39 11 10 := ⟨RX11, TX11, rfl, by decide, by decide, in11, mt5 (j := 9) rfl rfl, rfl⟩
theorem fs11_42 : FS RX11 42 11 11 := ⟨RX11, TX11, rfl, by decide, by decide, in11, mt5 (j := 10) rfl rfl, rfl⟩
theorem fs11_45 : FS RX11 45 11 17 := ⟨RX11, TX11, rfl, by decide, by decide, in11, mt5 (j := 16) rfl rfl, rfl⟩
theorem fs11_48 : FS RX11 48 11 18 := ⟨RX11, TX11, rfl, by decide, by decide, in11, mt5 (j := 17) rfl rfl, rfl⟩
theorem fs11_7 : FS RX11 7 11 0 := ⟨RX11, TX11, rfl, by decide, by decide, in11, mt4 (j := 239) rfl rfl, rfl⟩
theorem ps0_1 : PS 0 1 .int := ⟨RX0, TX0, tyX0, rfl, rfl, by decide +kernel, tyX0_ok, nmX0⟩
theorem ps1_0 : PS 1 0 .long := ⟨RX1, TX1, tyX1, rfl, rfl, by decide +kernel, tyX1_ok, nmX1⟩
theorem ps1_1 : PS 1 1 .long := ⟨RX1, TX1, tyX1, rfl, rfl, by decide +kernel, tyX1_ok, nmX1⟩
theorem ps10_11 : PS 10 11 .boolean := ⟨RX10, TX10, tyX10, rfl, rfl, by decide +kernel, tyX10_ok, nmX10⟩
theorem ps10_12 : PS 10 12 .boolean := ⟨RX10, TX10, tyX10, rfl, rfl, by decide +kernel, tyX10_ok, nmX10⟩
theorem ps10_13 : PS 10 13 .int := ⟨RX10, TX10, tyX10, rfl, rfl, by decide +kernel, tyX10_ok, nmX10⟩
theorem ps10_14 : PS 10 14 .int := ⟨RX10, TX10, tyX10, rfl, rfl, by decide +kernel, tyX10_ok, nmX10⟩
theorem ps10_15 : PS 10 15 .int := ⟨RX10, TX10, tyX10, rfl, rfl, by decide +kernel, tyX10_ok, nmX10⟩
theorem ps11_12 : PS 11 12 .int := ⟨RX11, TX11, tyX11, rfl, rfl, by decide +kernel, tyX11_ok, nmX11⟩
theorem ps11_13 : PS 11 13 .int := ⟨RX11, TX11, tyX11, rfl, rfl, by decide +kernel, tyX11_ok, nmX11⟩
theorem ps11_14 : PS 11 14 .int := ⟨RX11, TX11, tyX11, rfl, rfl, by decide +kernel, tyX11_ok, nmX11⟩
theorem ps11_15 : PS 11 15 .int := ⟨RX11, TX11, tyX11, rfl, rfl, by decide +kernel, tyX11_ok, nmX11⟩
theorem ps11_16 : PS 11 16 .int := ⟨RX11, TX11, tyX11, rfl, rfl, by decide +kernel, tyX11_ok, nmX11⟩
theorem ps11_4 : PS 11 4 .long := ⟨RX11, TX11, tyX11, rfl, rfl, by decide +kernel, tyX11_ok, nmX11⟩
theorem ps11_5 : PS 11 5 .long := ⟨RX11, TX11, tyX11, rfl, rfl, by decide +kernel, tyX11_ok, nmX11⟩
theorem ps4_0 : PS 4 0 .int := ⟨RX4, TX4, tyX4, rfl, rfl, by decide +kernel, tyX4_ok, nmX4⟩
theorem ps4_1 : PS 4 1 .int := ⟨RX4, TX4, tyX4, rfl, rfl, by decide +kernel, tyX4_ok, nmX4⟩
theorem ps4_2 : PS 4 2 .int := ⟨RX4, TX4, tyX4, rfl, rfl, by decide +kernel, tyX4_ok, nmX4⟩
theorem ps4_3 : PS 4 3 .int := ⟨RX4, TX4, tyX4, rfl, rfl, by decide +kernel, tyX4_ok, nmX4⟩
theorem ps5_3 : PS 5 3 .int := ⟨RX5, TX5, tyX5, rfl, rfl, by decide +kernel, tyX5_ok, nmX5⟩
theorem ps5_4 : PS 5 4 .int := ⟨RX5, TX5, tyX5, rfl, rfl, by decide +kernel, tyX5_ok, nmX5⟩
theorem ps7_3 : PS 7 3 .int := ⟨RX7, TX7, tyX7, rfl, rfl, by decide +kernel, tyX7_ok, nmX7⟩
theorem ps8_2 : PS 8 2 .int := ⟨RX8, TX8, tyX8, rfl, rfl, by decide +kernel, tyX8_ok, nmX8⟩
theorem ps8_3 : PS 8 3 .int := ⟨RX8, TX8, tyX8, rfl, rfl, by decide +kernel, tyX8_ok, nmX8⟩
theorem ps8_4 : PS 8 4 .int := ⟨RX8, TX8, tyX8, rfl, rfl, by decide +kernel, tyX8_ok, nmX8⟩
theorem ps8_5 : PS 8 5 .int := ⟨RX8, TX8, tyX8, rfl, rfl, by decide +kernel, tyX8_ok, nmX8⟩
theorem ps8_6 : PS 8 6 .int := ⟨RX8, TX8, tyX8, rfl, rfl, by decide +kernel, tyX8_ok, nmX8⟩
theorem cs1_16 : CS RX1 16 m1_commonOf 2 := ⟨mok1_commonOf, mt4 (j := 162) rfl rfl, mt4 (j := 163) rfl rfl, by decide +kernel⟩
theorem cs2_45 : CS RX2 45 m3_draw 4 := ⟨mok3_draw, mt4 (j := 83) rfl rfl, mt3 (j := 54) rfl rfl, by decide +kernel⟩
theorem cs2_54 : CS RX2 54 m3_need 3 := ⟨mok3_need, mt4 (j := 116) rfl rfl, mt3 (j := 82) rfl rfl, by decide +kernel⟩
theorem cs2_60 : CS RX2 60 mJ6_bitCount 1 := ⟨mokJ6_bitCount, mt4 (j := 102) rfl rfl, mt3 (j := 76) rfl rfl, by decide +kernel⟩
theorem cs4_26 : CS RX4 26 mJ6_bitCount 1 := ⟨mokJ6_bitCount, mt3 (j := 75) rfl rfl, mt3 (j := 76) rfl rfl, by decide +kernel⟩
theorem cs5_58 : CS RX5 58 mJ6_bitCount 1 := ⟨mokJ6_bitCount, mt3 (j := 234) rfl rfl, mt3 (j := 76) rfl rfl, by decide +kernel⟩
theorem cs5_83 : CS RX5 83 m5_needBehind 3 := ⟨mok5_needBehind, mt4 (j := 5) rfl rfl, mt4 (j := 6) rfl rfl, by decide +kernel⟩
theorem cs8_130 : CS RX8 130 m8_wordOf 1 := ⟨mok8_wordOf, mt2 (j := 179) rfl rfl, mt2 (j := 180) rfl rfl, by decide +kernel⟩
theorem cs8_40 : CS RX8 40 m8_mayStand 3 := ⟨mok8_mayStand, mt3 (j := 4) rfl rfl, mt3 (j := 5) rfl rfl, by decide +kernel⟩
theorem cs8_73 : CS RX8 73 m8_numbersOf 1 := ⟨mok8_numbersOf, mt3 (j := 12) rfl rfl, mt3 (j := 13) rfl rfl, by decide +kernel⟩
theorem cs8_80 : CS RX8 80 m8_leastOf 2 := ⟨mok8_leastOf, mt3 (j := 15) rfl rfl, mt3 (j := 16) rfl rfl, by decide +kernel⟩
theorem cs8_84 : CS RX8 84 m8_mostOf 3 := ⟨mok8_mostOf, mt3 (j := 18) rfl rfl, mt3 (j := 19) rfl rfl, by decide +kernel⟩
theorem cs9_117 : CS RX9 117 m3_need 3 := ⟨mok3_need, mt3 (j := 81) rfl rfl, mt3 (j := 82) rfl rfl, by decide +kernel⟩
theorem cs9_127 : CS RX9 127 m3_draw 4 := ⟨mok3_draw, mt3 (j := 53) rfl rfl, mt3 (j := 54) rfl rfl, by decide +kernel⟩
theorem cs10_114 : CS RX10 114 m10_isKind 1 := ⟨mok10_isKind, mt2 (j := 102) rfl rfl, mt2 (j := 103) rfl rfl, by decide +kernel⟩
theorem cs10_117 : CS RX10 117 m10_isHeight 1 := ⟨mok10_isHeight, mt2 (j := 105) rfl rfl, mt2 (j := 106) rfl rfl, by decide +kernel⟩
theorem cs10_229 : CS RX10 229 mJ6_bitCount 1 := ⟨mokJ6_bitCount, mt3 (j := 215) rfl rfl, mt3 (j := 76) rfl rfl, by decide +kernel⟩
theorem cs10_266 : CS RX10 266 m10_forgetAll 1 := ⟨mok10_forgetAll, mt4 (j := 65) rfl rfl, mt4 (j := 66) rfl rfl, by decide +kernel⟩
theorem cs10_89 : CS RX10 89 m10_isStorm 1 := ⟨mok10_isStorm, mt2 (j := 76) rfl rfl, mt2 (j := 77) rfl rfl, by decide +kernel⟩
theorem cs10_93 : CS RX10 93 m10_isCell 1 := ⟨mok10_isCell, mt2 (j := 82) rfl rfl, mt2 (j := 83) rfl rfl, by decide +kernel⟩
theorem cs10_96 : CS RX10 96 m10_within 3 := ⟨mok10_within, mt2 (j := 79) rfl rfl, mt2 (j := 80) rfl rfl, by decide +kernel⟩
theorem cs11_101 : CS RX11 101 m11_firstOf 1 := ⟨mok11_firstOf, mt5 (j := 135) rfl rfl, mt5 (j := 136) rfl rfl, by decide +kernel⟩
theorem cs11_105 : CS RX11 105 m11_bits 1 := ⟨mok11_bits, mt5 (j := 138) rfl rfl, mt5 (j := 139) rfl rfl, by decide +kernel⟩
theorem cs11_108 : CS RX11 108 m11_needsAs 3 := ⟨mok11_needsAs, mt5 (j := 141) rfl rfl, mt5 (j := 142) rfl rfl, by decide +kernel⟩
theorem cs11_112 : CS RX11 112 m11_struckOf 3 := ⟨mok11_struckOf, mt5 (j := 120) rfl rfl, mt5 (j := 121) rfl rfl, by decide +kernel⟩
theorem cs11_115 : CS RX11 115 m11_goParts 1 := ⟨mok11_goParts, mt5 (j := 132) rfl rfl, mt5 (j := 133) rfl rfl, by decide +kernel⟩
theorem cs11_118 : CS RX11 118 m11_goSummer 3 := ⟨mok11_goSummer, mt5 (j := 117) rfl rfl, mt5 (j := 118) rfl rfl, by decide +kernel⟩
theorem cs11_122 : CS RX11 122 m11_goTold 1 := ⟨mok11_goTold, mt5 (j := 114) rfl rfl, mt5 (j := 115) rfl rfl, by decide +kernel⟩
theorem cs11_130 : CS RX11 130 m11_goSummers 2 := ⟨mok11_goSummers, mt5 (j := 111) rfl rfl, mt5 (j := 112) rfl rfl, by decide +kernel⟩
theorem cs11_182 : CS RX11 182 m11_off 2 := ⟨mok11_off, mt6 (j := 58) rfl rfl, mt6 (j := 59) rfl rfl, by decide +kernel⟩
theorem cs11_185 : CS RX11 185 m11_getsBy 3 := ⟨mok11_getsBy, mt6 (j := 55) rfl rfl, mt6 (j := 56) rfl rfl, by decide +kernel⟩
theorem cs11_188 : CS RX11 188 m11_isBest 3 := ⟨mok11_isBest, mt6 (j := 52) rfl rfl, mt6 (j := 53) rfl rfl, by decide +kernel⟩
theorem cs11_241 : CS RX11 241 m11_isSmall 1 := ⟨mok11_isSmall, mt6 (j := 98) rfl rfl, mt6 (j := 99) rfl rfl, by decide +kernel⟩
theorem cs11_244 : CS RX11 244 m11_isFigure 1 := ⟨mok11_isFigure, mt6 (j := 103) rfl rfl, mt6 (j := 104) rfl rfl, by decide +kernel⟩
theorem cs11_51 : CS RX11 51 m11_begin 1 := ⟨mok11_begin, mt4 (j := 236) rfl rfl, mt4 (j := 237) rfl rfl, by decide +kernel⟩
theorem cs11_59 : CS RX11 59 m11_in 3 := ⟨mok11_in, mt5 (j := 71) rfl rfl, mt5 (j := 72) rfl rfl, by decide +kernel⟩
theorem cs11_67 : CS RX11 67 m11_isCell 1 := ⟨mok11_isCell, mt5 (j := 74) rfl rfl, mt5 (j := 75) rfl rfl, by decide +kernel⟩
theorem cs11_77 : CS RX11 77 m11_isKind 1 := ⟨mok11_isKind, mt5 (j := 87) rfl rfl, mt5 (j := 88) rfl rfl, by decide +kernel⟩
theorem cs11_85 : CS RX11 85 m11_layThing 4 := ⟨mok11_layThing, mt5 (j := 95) rfl rfl, mt5 (j := 96) rfl rfl, by decide +kernel⟩
theorem cs11_89 : CS RX11 89 m11_drawsAs 4 := ⟨mok11_drawsAs, mt5 (j := 129) rfl rfl, mt5 (j := 130) rfl rfl, by decide +kernel⟩
theorem cs11_93 : CS RX11 93 m11_has 2 := ⟨mok11_has, mt5 (j := 123) rfl rfl, mt5 (j := 124) rfl rfl, by decide +kernel⟩
theorem cs11_97 : CS RX11 97 m11_drawsFrom 3 := ⟨mok11_drawsFrom, mt5 (j := 126) rfl rfl, mt5 (j := 127) rfl rfl, by decide +kernel⟩
theorem csJ0_1059 : CS RJ0 1059 mJ3_checkIndex 3 := ⟨mokJ3_checkIndex, mt2 (j := 218) rfl rfl, mt2 (j := 219) rfl rfl, by decide +kernel⟩
theorem csJ0_495 : CS RJ0 495 mJ1_charAt 2 := ⟨mokJ1_charAt, mt2 (j := 210) rfl rfl, mt2 (j := 211) rfl rfl, by decide +kernel⟩
theorem csJ1_9 : CS RJ1 9 mJ0_checkIndex 2 := ⟨mokJ0_checkIndex, mt2 (j := 213) rfl rfl, mt2 (j := 214) rfl rfl, by decide +kernel⟩
theorem cv0_24 : CV RX0 24 m0_gain 2 0 := ⟨mok0_gain, mt4 (j := 134) rfl rfl, mt4 (j := 136) rfl rfl, at_of (i := 27) (by decide +kernel) rfl, by decide +kernel, by decide, by decide +kernel⟩
theorem cv0_33 : CV RX0 33 m6_put 2 6 := ⟨mok6_put, mt4 (j := 140) rfl rfl, mt2 (j := 139) rfl rfl, mt2 (j := 140) rfl rfl, by decide +kernel, by decide, by decide +kernel⟩
theorem cv0_37 : CV RX0 37 m0_rests 1 0 := ⟨mok0_rests, mt4 (j := 145) rfl rfl, mt4 (j := 147) rfl rfl, at_of (i := 28) (by decide +kernel) rfl, by decide +kernel, by decide, by decide +kernel⟩
theorem cv0_41 : CV RX0 41 m6_at 1 6 := ⟨mok6_at, mt4 (j := 149) rfl rfl, mt2 (j := 171) rfl rfl, mt2 (j := 172) rfl rfl, by decide +kernel, by decide, by decide +kernel⟩
theorem cv2_20 : CV RX2 20 m7_size 0 7 := ⟨mok7_size, mt4 (j := 77) rfl rfl, mt2 (j := 68) rfl rfl, mt2 (j := 69) rfl rfl, by decide +kernel, by decide, by decide +kernel⟩
theorem cv2_26 : CV RX2 26 m7_at 2 7 := ⟨mok7_at, mt4 (j := 78) rfl rfl, mt2 (j := 90) rfl rfl, mt2 (j := 91) rfl rfl, by decide +kernel, by decide, by decide +kernel⟩
theorem cv2_30 : CV RX2 30 m2_drawAll 3 2 := ⟨mok2_drawAll, mt4 (j := 79) rfl rfl, mt4 (j := 81) rfl rfl, at_of (i := 23) (by decide +kernel) rfl, by decide +kernel, by decide, by decide +kernel⟩
theorem cv2_34 : CV RX2 34 m2_answering 1 2 := ⟨mok2_answering, mt4 (j := 85) rfl rfl, mt4 (j := 87) rfl rfl, at_of (i := 24) (by decide +kernel) rfl, by decide +kernel, by decide, by decide +kernel⟩
theorem cv2_38 : CV RX2 38 m2_needAll 2 2 := ⟨mok2_needAll, mt4 (j := 112) rfl rfl, mt4 (j := 114) rfl rfl, at_of (i := 26) (by decide +kernel) rfl, by decide +kernel, by decide, by decide +kernel⟩
theorem cv2_42 : CV RX2 42 m2_mostAlike 1 2 := ⟨mok2_mostAlike, mt4 (j := 98) rfl rfl, mt4 (j := 100) rfl rfl, at_of (i := 25) (by decide +kernel) rfl, by decide +kernel, by decide, by decide +kernel⟩
theorem cv2_51 : CV RX2 51 m6_put 2 6 := ⟨mok6_put, mt4 (j := 84) rfl rfl, mt2 (j := 139) rfl rfl, mt2 (j := 140) rfl rfl, by decide +kernel, by decide, by decide +kernel⟩
theorem cv2_58 : CV RX2 58 m6_at 1 6 := ⟨mok6_at, mt4 (j := 89) rfl rfl, mt2 (j := 171) rfl rfl, mt2 (j := 172) rfl rfl, by decide +kernel, by decide, by decide +kernel⟩
theorem cv4_22 : CV RX4 22 m4_set 4 4 := ⟨mok4_set, mt3 (j := 98) rfl rfl, mt1 (j := 106) rfl rfl, mt1 (j := 107) rfl rfl, by decide +kernel, by decide, by decide +kernel⟩
theorem cv5_104 : CV RX5 104 m9_needOf 3 9 := ⟨mok9_needOf, mt4 (j := 8) rfl rfl, mt3 (j := 156) rfl rfl, mt3 (j := 157) rfl rfl, by decide +kernel, by decide, by decide +kernel⟩
theorem cv5_33 : CV RX5 33 m6_at 1 6 := ⟨mok6_at, mt4 (j := 4) rfl rfl, mt2 (j := 171) rfl rfl, mt2 (j := 172) rfl rfl, by decide +kernel, by decide, by decide +kernel⟩
theorem cv5_52 : CV RX5 52 m7_size 0 7 := ⟨mok7_size, mt3 (j := 233) rfl rfl, mt2 (j := 68) rfl rfl, mt2 (j := 69) rfl rfl, by decide +kernel, by decide, by decide +kernel⟩
theorem cv5_63 : CV RX5 63 m5_spend 2 5 := ⟨mok5_spend, mt3 (j := 235) rfl rfl, mt3 (j := 237) rfl rfl, at_of (i := 18) (by decide +kernel) rfl, by decide +kernel, by decide, by decide +kernel⟩
theorem cv5_67 : CV RX5 67 m5_mostReached 1 5 := ⟨mok5_mostReached, mt4 (j := 9) rfl rfl, mt4 (j := 11) rfl rfl, at_of (i := 19) (by decide +kernel) rfl, by decide +kernel, by decide, by decide +kernel⟩
theorem cv5_70 : CV RX5 70 m5_reach 2 5 := ⟨mok5_reach, mt4 (j := 14) rfl rfl, mt4 (j := 16) rfl rfl, at_of (i := 20) (by decide +kernel) rfl, by decide +kernel, by decide, by decide +kernel⟩
theorem cv5_73 : CV RX5 73 m5_choose 2 5 := ⟨mok5_choose, mt4 (j := 20) rfl rfl, mt4 (j := 22) rfl rfl, at_of (i := 21) (by decide +kernel) rfl, by decide +kernel, by decide, by decide +kernel⟩
theorem cv5_76 : CV RX5 76 m6_fill 1 6 := ⟨mok6_fill, mt3 (j := 239) rfl rfl, mt4 (j := 0) rfl rfl, mt4 (j := 1) rfl rfl, by decide +kernel, by decide, by decide +kernel⟩
theorem cv5_79 : CV RX5 79 m6_put 2 6 := ⟨mok6_put, mt4 (j := 3) rfl rfl, mt2 (j := 139) rfl rfl, mt2 (j := 140) rfl rfl, by decide +kernel, by decide, by decide +kernel⟩
theorem cv5_97 : CV RX5 97 m5_firstFitting 4 5 := ⟨mok5_firstFitting, mt4 (j := 24) rfl rfl, mt4 (j := 26) rfl rfl, at_of (i := 22) (by decide +kernel) rfl, by decide +kernel, by decide, by decide +kernel⟩
theorem cv7_29 : CV RX7 29 m7_isFull 0 7 := ⟨mok7_isFull, mt1 (j := 97) rfl rfl, mt1 (j := 98) rfl rfl, mt1 (j := 99) rfl rfl, by decide +kernel, by decide, by decide +kernel⟩
theorem cv7_33 : CV RX7 33 m7_put 3 7 := ⟨mok7_put, mt1 (j := 101) rfl rfl, mt1 (j := 102) rfl rfl, mt1 (j := 103) rfl rfl, by decide +kernel, by decide, by decide +kernel⟩
theorem cv7_37 : CV RX7 37 m7_at 2 7 := ⟨mok7_at, mt3 (j := 93) rfl rfl, mt2 (j := 90) rfl rfl, mt2 (j := 91) rfl rfl, by decide +kernel, by decide, by decide +kernel⟩
theorem cv7_40 : CV RX7 40 m7_dropLast 0 7 := ⟨mok7_dropLast, mt3 (j := 113) rfl rfl, mt3 (j := 114) rfl rfl, mt3 (j := 115) rfl rfl, by decide +kernel, by decide, by decide +kernel⟩
theorem cv8_103 : CV RX8 103 m9_addThing 3 9 := ⟨mok9_addThing, mt3 (j := 31) rfl rfl, mt2 (j := 114) rfl rfl, mt2 (j := 115) rfl rfl, by decide +kernel, by decide, by decide +kernel⟩
theorem cv8_107 : CV RX8 107 m9_addPart 1 9 := ⟨mok9_addPart, mt3 (j := 32) rfl rfl, mt2 (j := 123) rfl rfl, mt2 (j := 124) rfl rfl, by decide +kernel, by decide, by decide +kernel⟩
theorem cv8_110 : CV RX8 110 m9_turn 1 9 := ⟨mok9_turn, mt3 (j := 33) rfl rfl, mt3 (j := 34) rfl rfl, mt3 (j := 35) rfl rfl, by decide +kernel, by decide, by decide +kernel⟩
theorem cv8_117 : CV RX8 117 m9_passTold 3 9 := ⟨mok9_passTold, mt3 (j := 37) rfl rfl, mt3 (j := 38) rfl rfl, mt3 (j := 39) rfl rfl, by decide +kernel, by decide, by decide +kernel⟩
theorem cv8_121 : CV RX8 121 m8_runEnd 3 8 := ⟨mok8_runEnd, mt2 (j := 166) rfl rfl, mt2 (j := 168) rfl rfl, at_of (i := 3) (by decide +kernel) rfl, by decide +kernel, by decide, by decide +kernel⟩
theorem cv8_124 : CV RX8 124 m8_wordToken 0 8 := ⟨mok8_wordToken, mt2 (j := 175) rfl rfl, mt2 (j := 177) rfl rfl, at_of (i := 4) (by decide +kernel) rfl, by decide +kernel, by decide, by decide +kernel⟩
theorem cv8_127 : CV RX8 127 m8_numberToken 0 8 := ⟨mok8_numberToken, mt3 (j := 0) rfl rfl, mt3 (j := 2) rfl rfl, at_of (i := 6) (by decide +kernel) rfl, by decide +kernel, by decide, by decide +kernel⟩
theorem cv8_134 : CV RX8 134 m8_spells 1 8 := ⟨mok8_spells, mt2 (j := 188) rfl rfl, mt2 (j := 190) rfl rfl, at_of (i := 5) (by decide +kernel) rfl, by decide +kernel, by decide, by decide +kernel⟩
theorem cv8_150 : CT RX8 150 mJ0_length 0 := ⟨mokJ0_length, mt2 (j := 192) rfl rfl, mt2 (j := 193) rfl rfl, mt2 (j := 194) rfl rfl, by decide +kernel, rfl⟩
theorem cv8_154 : CT RX8 154 mJ0_charAt 1 := ⟨mokJ0_charAt, mt2 (j := 202) rfl rfl, mt2 (j := 203) rfl rfl, mt2 (j := 204) rfl rfl, by decide +kernel, rfl⟩
theorem cv8_27 : CV RX8 27 m6_put 2 6 := ⟨mok6_put, mt2 (j := 138) rfl rfl, mt2 (j := 139) rfl rfl, mt2 (j := 140) rfl rfl, by decide +kernel, by decide, by decide +kernel⟩
theorem cv8_34 : CV RX8 34 m8_nextToken 0 8 := ⟨mok8_nextToken, mt2 (j := 162) rfl rfl, mt2 (j := 164) rfl rfl, at_of (i := 2) (by decide +kernel) rfl, by decide +kernel, by decide, by decide +kernel⟩
theorem cv8_44 : CV RX8 44 m8_readNumbers 2 8 := ⟨mok8_readNumbers, mt3 (j := 8) rfl rfl, mt3 (j := 10) rfl rfl, at_of (i := 7) (by decide +kernel) rfl, by decide +kernel, by decide, by decide +kernel⟩
theorem cv8_48 : CV RX8 48 m8_readStop 0 8 := ⟨mok8_readStop, mt3 (j := 22) rfl rfl, mt3 (j := 24) rfl rfl, at_of (i := 8) (by decide +kernel) rfl, by decide +kernel, by decide, by decide +kernel⟩
theorem cv8_55 : CV RX8 55 m8_tell 2 8 := ⟨mok8_tell, mt3 (j := 26) rfl rfl, mt3 (j := 28) rfl rfl, at_of (i := 9) (by decide +kernel) rfl, by decide +kernel, by decide, by decide +kernel⟩
theorem cv8_65 : CV RX8 65 m7_isFull 0 7 := ⟨mok7_isFull, mt3 (j := 7) rfl rfl, mt1 (j := 98) rfl rfl, mt1 (j := 99) rfl rfl, by decide +kernel, by decide, by decide +kernel⟩
theorem cv8_92 : CV RX8 92 m7_size 0 7 := ⟨mok7_size, mt3 (j := 21) rfl rfl, mt2 (j := 68) rfl rfl, mt2 (j := 69) rfl rfl, by decide +kernel, by decide, by decide +kernel⟩
theorem cv8_96 : CV RX8 96 m6_at 1 6 := ⟨mok6_at, mt2 (j := 170) rfl rfl, mt2 (j := 171) rfl rfl, mt2 (j := 172) rfl rfl, by decide +kernel, by decide, by decide +kernel⟩
theorem cv8_99 : CV RX8 99 m9_tellStorm 3 9 := ⟨mok9_tellStorm, mt3 (j := 30) rfl rfl, mt2 (j := 94) rfl rfl, mt2 (j := 95) rfl rfl, by decide +kernel, by decide, by decide +kernel⟩
theorem cv9_101 : CV RX9 101 m9_pass 3 9 := ⟨mok9_pass, mt3 (j := 42) rfl rfl, mt3 (j := 43) rfl rfl, mt3 (j := 44) rfl rfl, by decide +kernel, by decide, by decide +kernel⟩
theorem cv9_105 : CV RX9 105 m9_struckIf 4 9 := ⟨mok9_struckIf, mt3 (j := 46) rfl rfl, mt3 (j := 48) rfl rfl, at_of (i := 10) (by decide +kernel) rfl, by decide +kernel, by decide, by decide +kernel⟩
theorem cv9_114 : CV RX9 114 m9_bringParts 1 9 := ⟨mok9_bringParts, mt3 (j := 63) rfl rfl, mt3 (j := 65) rfl rfl, at_of (i := 11) (by decide +kernel) rfl, by decide +kernel, by decide, by decide +kernel⟩
theorem cv9_131 : CV RX9 131 m4_isUp 1 4 := ⟨mok4_isUp, mt3 (j := 56) rfl rfl, mt3 (j := 57) rfl rfl, mt3 (j := 58) rfl rfl, by decide +kernel, by decide, by decide +kernel⟩
theorem cv9_135 : CV RX9 135 m9_drawOf 2 9 := ⟨mok9_drawOf, mt3 (j := 205) rfl rfl, mt3 (j := 168) rfl rfl, mt3 (j := 169) rfl rfl, by decide +kernel, by decide, by decide +kernel⟩
theorem cv9_138 : CV RX9 138 m7_digestOn 1 7 := ⟨mok7_digestOn, mt4 (j := 224) rfl rfl, mt4 (j := 225) rfl rfl, mt4 (j := 226) rfl rfl, by decide +kernel, by decide, by decide +kernel⟩
theorem cv9_144 : CV RX9 144 m4_isThere 1 4 := ⟨mok4_isThere, mt3 (j := 67) rfl rfl, mt3 (j := 68) rfl rfl, mt3 (j := 69) rfl rfl, by decide +kernel, by decide, by decide +kernel⟩
theorem cv9_147 : CV RX9 147 m4_partsThere 0 4 := ⟨mok4_partsThere, mt3 (j := 71) rfl rfl, mt3 (j := 72) rfl rfl, mt3 (j := 73) rfl rfl, by decide +kernel, by decide, by decide +kernel⟩
theorem cv9_48 : CV RX9 48 m7_empty 0 7 := ⟨mok7_empty, mt1 (j := 89) rfl rfl, mt1 (j := 90) rfl rfl, mt1 (j := 91) rfl rfl, by decide +kernel, by decide, by decide +kernel⟩
theorem cv9_51 : CV RX9 51 m7_add 5 7 := ⟨mok7_add, mt1 (j := 93) rfl rfl, mt1 (j := 94) rfl rfl, mt1 (j := 95) rfl rfl, by decide +kernel, by decide, by decide +kernel⟩
theorem cv9_55 : CV RX9 55 m4_set 4 4 := ⟨mok4_set, mt1 (j := 105) rfl rfl, mt1 (j := 106) rfl rfl, mt1 (j := 107) rfl rfl, by decide +kernel, by decide, by decide +kernel⟩
theorem cv9_59 : CV RX9 59 m7_takeFrom 1 7 := ⟨mok7_takeFrom, mt3 (j := 88) rfl rfl, mt3 (j := 89) rfl rfl, mt3 (j := 90) rfl rfl, by decide +kernel, by decide, by decide +kernel⟩
theorem cv9_63 : CV RX9 63 m4_takeFrom 1 4 := ⟨mok4_takeFrom, mt3 (j := 94) rfl rfl, mt3 (j := 95) rfl rfl, mt3 (j := 96) rfl rfl, by decide +kernel, by decide, by decide +kernel⟩
theorem cv9_66 : CV RX9 66 m7_put 3 7 := ⟨mok7_put, mt2 (j := 97) rfl rfl, mt1 (j := 102) rfl rfl, mt1 (j := 103) rfl rfl, by decide +kernel, by decide, by decide +kernel⟩
theorem cv9_70 : CV RX9 70 m7_size 0 7 := ⟨mok7_size, mt2 (j := 117) rfl rfl, mt2 (j := 68) rfl rfl, mt2 (j := 69) rfl rfl, by decide +kernel, by decide, by decide +kernel⟩
theorem cv9_78 : CV RX9 78 m7_isFull 0 7 := ⟨mok7_isFull, mt3 (j := 108) rfl rfl, mt1 (j := 98) rfl rfl, mt1 (j := 99) rfl rfl, by decide +kernel, by decide, by decide +kernel⟩
theorem cv9_82 : CV RX9 82 m7_dropFirst 0 7 := ⟨mok7_dropFirst, mt3 (j := 109) rfl rfl, mt3 (j := 110) rfl rfl, mt3 (j := 111) rfl rfl, by decide +kernel, by decide, by decide +kernel⟩
theorem cv9_94 : CV RX9 94 m7_at 2 7 := ⟨mok7_at, mt3 (j := 41) rfl rfl, mt2 (j := 90) rfl rfl, mt2 (j := 91) rfl rfl, by decide +kernel, by decide, by decide +kernel⟩
theorem cv9_98 : CV RX9 98 m7_dropLast 0 7 := ⟨mok7_dropLast, mt3 (j := 141) rfl rfl, mt3 (j := 114) rfl rfl, mt3 (j := 115) rfl rfl, by decide +kernel, by decide, by decide +kernel⟩
theorem cv10_100 : CV RX10 100 m10_refuseBad 0 10 := ⟨mok10_refuseBad, mt2 (j := 85) rfl rfl, mt2 (j := 87) rfl rfl, at_of (i := 0) (by decide +kernel) rfl, by decide +kernel, by decide, by decide +kernel⟩
theorem cv10_106 : CV RX10 106 m7_at 2 7 := ⟨mok7_at, mt2 (j := 89) rfl rfl, mt2 (j := 90) rfl rfl, mt2 (j := 91) rfl rfl, by decide +kernel, by decide, by decide +kernel⟩
theorem cv10_110 : CV RX10 110 m9_tellStorm 3 9 := ⟨mok9_tellStorm, mt2 (j := 93) rfl rfl, mt2 (j := 94) rfl rfl, mt2 (j := 95) rfl rfl, by decide +kernel, by decide, by decide +kernel⟩
theorem cv10_120 : CV RX10 120 m7_isFull 0 7 := ⟨mok7_isFull, mt2 (j := 108) rfl rfl, mt1 (j := 98) rfl rfl, mt1 (j := 99) rfl rfl, by decide +kernel, by decide, by decide +kernel⟩
theorem cv10_124 : CV RX10 124 m10_refuseFull 0 10 := ⟨mok10_refuseFull, mt2 (j := 109) rfl rfl, mt2 (j := 111) rfl rfl, at_of (i := 1) (by decide +kernel) rfl, by decide +kernel, by decide, by decide +kernel⟩
theorem cv10_127 : CV RX10 127 m9_addThing 3 9 := ⟨mok9_addThing, mt2 (j := 113) rfl rfl, mt2 (j := 114) rfl rfl, mt2 (j := 115) rfl rfl, by decide +kernel, by decide, by decide +kernel⟩
theorem cv10_134 : CV RX10 134 m9_addPart 1 9 := ⟨mok9_addPart, mt2 (j := 122) rfl rfl, mt2 (j := 123) rfl rfl, mt2 (j := 124) rfl rfl, by decide +kernel, by decide, by decide +kernel⟩
theorem cv10_138 : CV RX10 138 m8_isFull 0 8 := ⟨mok8_isFull, mt2 (j := 130) rfl rfl, mt2 (j := 131) rfl rfl, mt2 (j := 132) rfl rfl, by decide +kernel, by decide, by decide +kernel⟩
theorem cv10_139 : CV RX10 139 m8_add 1 8 := ⟨mok8_add, mt2 (j := 134) rfl rfl, mt2 (j := 135) rfl rfl, mt2 (j := 136) rfl rfl, by decide +kernel, by decide, by decide +kernel⟩
theorem cv10_142 : CV RX10 142 m8_length 0 8 := ⟨mok8_length, mt2 (j := 142) rfl rfl, mt2 (j := 143) rfl rfl, mt2 (j := 144) rfl rfl, by decide +kernel, by decide, by decide +kernel⟩
theorem cv10_145 : CV RX10 145 m8_empty 0 8 := ⟨mok8_empty, mt2 (j := 150) rfl rfl, mt2 (j := 151) rfl rfl, mt2 (j := 152) rfl rfl, by decide +kernel, by decide, by decide +kernel⟩
theorem cv10_148 : CV RX10 148 m8_tellTo 1 8 := ⟨mok8_tellTo, mt2 (j := 158) rfl rfl, mt2 (j := 159) rfl rfl, mt2 (j := 160) rfl rfl, by decide +kernel, by decide, by decide +kernel⟩
theorem cv10_152 : CV RX10 152 m9_takeFrom 1 9 := ⟨mok9_takeFrom, mt3 (j := 84) rfl rfl, mt3 (j := 85) rfl rfl, mt3 (j := 86) rfl rfl, by decide +kernel, by decide, by decide +kernel⟩
theorem cv10_156 : CV RX10 156 m9_remember 0 9 := ⟨mok9_remember, mt3 (j := 104) rfl rfl, mt3 (j := 105) rfl rfl, mt3 (j := 106) rfl rfl, by decide +kernel, by decide, by decide +kernel⟩
theorem cv10_162 : CV RX10 162 m9_passTold 3 9 := ⟨mok9_passTold, mt3 (j := 117) rfl rfl, mt3 (j := 38) rfl rfl, mt3 (j := 39) rfl rfl, by decide +kernel, by decide, by decide +kernel⟩
theorem cv10_166 : CV RX10 166 m4_partsThere 0 4 := ⟨mok4_partsThere, mt3 (j := 118) rfl rfl, mt3 (j := 72) rfl rfl, mt3 (j := 73) rfl rfl, by decide +kernel, by decide, by decide +kernel⟩
theorem cv10_169 : CV RX10 169 m10_isThing 1 10 := ⟨mok10_isThing, mt3 (j := 123) rfl rfl, mt3 (j := 125) rfl rfl, at_of (i := 12) (by decide +kernel) rfl, by decide +kernel, by decide, by decide +kernel⟩
theorem cv10_172 : CV RX10 172 m9_turn 1 9 := ⟨mok9_turn, mt3 (j := 127) rfl rfl, mt3 (j := 34) rfl rfl, mt3 (j := 35) rfl rfl, by decide +kernel, by decide, by decide +kernel⟩
theorem cv10_175 : CV RX10 175 m4_isUp 1 4 := ⟨mok4_isUp, mt3 (j := 128) rfl rfl, mt3 (j := 57) rfl rfl, mt3 (j := 58) rfl rfl, by decide +kernel, by decide, by decide +kernel⟩
theorem cv10_181 : CV RX10 181 m10_refuseNo 0 10 := ⟨mok10_refuseNo, mt3 (j := 133) rfl rfl, mt3 (j := 135) rfl rfl, at_of (i := 13) (by decide +kernel) rfl, by decide +kernel, by decide, by decide +kernel⟩
theorem cv10_184 : CV RX10 184 m9_goBack 0 9 := ⟨mok9_goBack, mt3 (j := 137) rfl rfl, mt3 (j := 138) rfl rfl, mt3 (j := 139) rfl rfl, by decide +kernel, by decide, by decide +kernel⟩
theorem cv10_191 : CV RX10 191 m10_isPart 1 10 := ⟨mok10_isPart, mt3 (j := 150) rfl rfl, mt3 (j := 152) rfl rfl, at_of (i := 14) (by decide +kernel) rfl, by decide +kernel, by decide, by decide +kernel⟩
theorem cv10_194 : CV RX10 194 m4_isThere 1 4 := ⟨mok4_isThere, mt3 (j := 154) rfl rfl, mt3 (j := 68) rfl rfl, mt3 (j := 69) rfl rfl, by decide +kernel, by decide, by decide +kernel⟩
theorem cv10_197 : CV RX10 197 m9_needOf 3 9 := ⟨mok9_needOf, mt3 (j := 155) rfl rfl, mt3 (j := 156) rfl rfl, mt3 (j := 157) rfl rfl, by decide +kernel, by decide, by decide +kernel⟩
theorem cv10_200 : CV RX10 200 m9_drawOf 2 9 := ⟨mok9_drawOf, mt3 (j := 167) rfl rfl, mt3 (j := 168) rfl rfl, mt3 (j := 169) rfl rfl, by decide +kernel, by decide, by decide +kernel⟩
theorem cv10_203 : CV RX10 203 m9_struckNow 1 9 := ⟨mok9_struckNow, mt3 (j := 175) rfl rfl, mt3 (j := 176) rfl rfl, mt3 (j := 177) rfl rfl, by decide +kernel, by decide, by decide +kernel⟩
theorem cv10_206 : CV RX10 206 m4_takeFrom 1 4 := ⟨mok4_takeFrom, mt3 (j := 183) rfl rfl, mt3 (j := 95) rfl rfl, mt3 (j := 96) rfl rfl, by decide +kernel, by decide, by decide +kernel⟩
theorem cv10_213 : CV RX10 213 m10_summersUntil 1 10 := ⟨mok10_summersUntil, mt3 (j := 189) rfl rfl, mt3 (j := 191) rfl rfl, at_of (i := 15) (by decide +kernel) rfl, by decide +kernel, by decide, by decide +kernel⟩
theorem cv10_216 : CV RX10 216 m9_mayBeHim 1 9 := ⟨mok9_mayBeHim, mt3 (j := 201) rfl rfl, mt3 (j := 202) rfl rfl, mt3 (j := 203) rfl rfl, by decide +kernel, by decide, by decide +kernel⟩
theorem cv10_219 : CV RX10 219 m9_stronger 1 9 := ⟨mok9_stronger, mt3 (j := 206) rfl rfl, mt3 (j := 207) rfl rfl, mt3 (j := 208) rfl rfl, by decide +kernel, by decide, by decide +kernel⟩
theorem cv10_225 : CV RX10 225 m6_put 2 6 := ⟨mok6_put, mt3 (j := 214) rfl rfl, mt2 (j := 139) rfl rfl, mt2 (j := 140) rfl rfl, by decide +kernel, by decide, by decide +kernel⟩
theorem cv10_234 : CV RX10 234 m10_isSparedBy 1 10 := ⟨mok10_isSparedBy, mt3 (j := 216) rfl rfl, mt3 (j := 218) rfl rfl, at_of (i := 16) (by decide +kernel) rfl, by decide +kernel, by decide, by decide +kernel⟩
theorem cv10_237 : CV RX10 237 m10_refuseBadTen 0 10 := ⟨mok10_refuseBadTen, mt3 (j := 225) rfl rfl, mt3 (j := 227) rfl rfl, at_of (i := 17) (by decide +kernel) rfl, by decide +kernel, by decide, by decide +kernel⟩
theorem cv10_240 : CV RX10 240 m5_search 2 5 := ⟨mok5_search, mt3 (j := 229) rfl rfl, mt3 (j := 230) rfl rfl, mt3 (j := 231) rfl rfl, by decide +kernel, by decide, by decide +kernel⟩
theorem cv10_244 : CV RX10 244 m5_most 0 5 := ⟨mok5_most, mt4 (j := 28) rfl rfl, mt4 (j := 29) rfl rfl, mt4 (j := 30) rfl rfl, by decide +kernel, by decide, by decide +kernel⟩
theorem cv10_247 : CV RX10 247 m5_length 0 5 := ⟨mok5_length, mt4 (j := 32) rfl rfl, mt4 (j := 33) rfl rfl, mt4 (j := 34) rfl rfl, by decide +kernel, by decide, by decide +kernel⟩
theorem cv10_248 : CV RX10 248 m5_at 1 5 := ⟨mok5_at, mt4 (j := 36) rfl rfl, mt4 (j := 37) rfl rfl, mt4 (j := 38) rfl rfl, by decide +kernel, by decide, by decide +kernel⟩
theorem cv10_253 : CV RX10 253 m7_add 5 7 := ⟨mok7_add, mt4 (j := 44) rfl rfl, mt1 (j := 94) rfl rfl, mt1 (j := 95) rfl rfl, by decide +kernel, by decide, by decide +kernel⟩
theorem cv10_256 : CV RX10 256 m9_fitsSeen 2 9 := ⟨mok9_fitsSeen, mt4 (j := 49) rfl rfl, mt4 (j := 50) rfl rfl, mt4 (j := 51) rfl rfl, by decide +kernel, by decide, by decide +kernel⟩
theorem cv10_270 : CV RX10 270 m2_thingKinds 2 2 := ⟨mok2_thingKinds, mt4 (j := 73) rfl rfl, mt4 (j := 74) rfl rfl, mt4 (j := 75) rfl rfl, by decide +kernel, by decide, by decide +kernel⟩
theorem cv10_274 : CV RX10 274 m2_bestLook 2 2 := ⟨mok2_bestLook, mt4 (j := 94) rfl rfl, mt4 (j := 95) rfl rfl, mt4 (j := 96) rfl rfl, by decide +kernel, by decide, by decide +kernel⟩
theorem cv10_277 : CV RX10 277 m2_partKinds 2 2 := ⟨mok2_partKinds, mt4 (j := 108) rfl rfl, mt4 (j := 109) rfl rfl, mt4 (j := 110) rfl rfl, by decide +kernel, by decide, by decide +kernel⟩
theorem cv10_280 : CV RX10 280 m2_bestAsk 1 2 := ⟨mok2_bestAsk, mt4 (j := 121) rfl rfl, mt4 (j := 122) rfl rfl, mt4 (j := 123) rfl rfl, by decide +kernel, by decide, by decide +kernel⟩
theorem cv10_288 : CV RX10 288 m0_settle 1 0 := ⟨mok0_settle, mt4 (j := 130) rfl rfl, mt4 (j := 131) rfl rfl, mt4 (j := 132) rfl rfl, by decide +kernel, by decide, by decide +kernel⟩
theorem cv10_291 : CV RX10 291 m0_resting 0 0 := ⟨mok0_resting, mt4 (j := 141) rfl rfl, mt4 (j := 142) rfl rfl, mt4 (j := 143) rfl rfl, by decide +kernel, by decide, by decide +kernel⟩
theorem cv10_294 : CV RX10 294 m0_restingAt 1 0 := ⟨mok0_restingAt, mt4 (j := 150) rfl rfl, mt4 (j := 151) rfl rfl, mt4 (j := 152) rfl rfl, by decide +kernel, by decide, by decide +kernel⟩
theorem cv10_297 : CV RX10 297 m1_set 2 1 := ⟨mok1_set, mt4 (j := 158) rfl rfl, mt4 (j := 159) rfl rfl, mt4 (j := 160) rfl rfl, by decide +kernel, by decide, by decide +kernel⟩
theorem cv10_316 : CV RX10 316 m9_pass 3 9 := ⟨mok9_pass, mt4 (j := 177) rfl rfl, mt3 (j := 43) rfl rfl, mt3 (j := 44) rfl rfl, by decide +kernel, by decide, by decide +kernel⟩
theorem cv10_319 : CV RX10 319 m1_above 0 1 := ⟨mok1_above, mt4 (j := 182) rfl rfl, mt4 (j := 183) rfl rfl, mt4 (j := 184) rfl rfl, by decide +kernel, by decide, by decide +kernel⟩
theorem cv10_323 : CV RX10 323 m1_below 0 1 := ⟨mok1_below, mt4 (j := 186) rfl rfl, mt4 (j := 187) rfl rfl, mt4 (j := 188) rfl rfl, by decide +kernel, by decide, by decide +kernel⟩
theorem cv10_326 : CV RX10 326 m10_imageAt 1 10 := ⟨mok10_imageAt, mt4 (j := 194) rfl rfl, mt4 (j := 196) rfl rfl, at_of (i := 29) (by decide +kernel) rfl, by decide +kernel, by decide, by decide +kernel⟩
theorem cv10_346 : CV RX10 346 m10_countOf 1 10 := ⟨mok10_countOf, mt4 (j := 210) rfl rfl, mt4 (j := 212) rfl rfl, at_of (i := 30) (by decide +kernel) rfl, by decide +kernel, by decide, by decide +kernel⟩
theorem cv10_353 : CV RX10 353 m9_digestOn 1 9 := ⟨mok9_digestOn, mt4 (j := 220) rfl rfl, mt4 (j := 221) rfl rfl, mt4 (j := 222) rfl rfl, by decide +kernel, by decide, by decide +kernel⟩
theorem cv10_357 : CV RX10 357 m7_empty 0 7 := ⟨mok7_empty, mt4 (j := 68) rfl rfl, mt1 (j := 90) rfl rfl, mt1 (j := 91) rfl rfl, by decide +kernel, by decide, by decide +kernel⟩
theorem cv10_358 : CV RX10 358 m6_at 1 6 := ⟨mok6_at, mt3 (j := 220) rfl rfl, mt2 (j := 171) rfl rfl, mt2 (j := 172) rfl rfl, by decide +kernel, by decide, by decide +kernel⟩
theorem cv10_80 : CV RX10 80 m7_size 0 7 := ⟨mok7_size, mt2 (j := 67) rfl rfl, mt2 (j := 68) rfl rfl, mt2 (j := 69) rfl rfl, by decide +kernel, by decide, by decide +kernel⟩
theorem cv10_86 : CV RX10 86 m9_begin 0 9 := ⟨mok9_begin, mt2 (j := 71) rfl rfl, mt1 (j := 86) rfl rfl, mt1 (j := 87) rfl rfl, by decide +kernel, by decide, by decide +kernel⟩
theorem cvL_100 : CV RL 100 m11_order 2 11 := ⟨mok11_order, mt5 (j := 218) rfl rfl, mt5 (j := 219) rfl rfl, mt5 (j := 220) rfl rfl, by decide +kernel, by decide, by decide +kernel⟩
theorem cvL_101 : CV RL 101 m10_seen 2 10 := ⟨mok10_seen, mt4 (j := 40) rfl rfl, mt4 (j := 41) rfl rfl, mt4 (j := 42) rfl rfl, by decide +kernel, by decide, by decide +kernel⟩
theorem cvL_104 : CV RL 104 m11_seen 2 11 := ⟨mok11_seen, mt5 (j := 235) rfl rfl, mt5 (j := 236) rfl rfl, mt5 (j := 237) rfl rfl, by decide +kernel, by decide, by decide +kernel⟩
theorem cvL_105 : CV RL 105 m10_tall 2 10 := ⟨mok10_tall, mt4 (j := 45) rfl rfl, mt4 (j := 46) rfl rfl, mt4 (j := 47) rfl rfl, by decide +kernel, by decide, by decide +kernel⟩
theorem cvL_108 : CV RL 108 m11_tall 2 11 := ⟨mok11_tall, mt5 (j := 239) rfl rfl, mt6 (j := 0) rfl rfl, mt6 (j := 1) rfl rfl, by decide +kernel, by decide, by decide +kernel⟩
theorem cvL_109 : CV RL 109 m10_note 5 10 := ⟨mok10_note, mt4 (j := 53) rfl rfl, mt4 (j := 54) rfl rfl, mt4 (j := 55) rfl rfl, by decide +kernel, by decide, by decide +kernel⟩
theorem cvL_113 : CV RL 113 m11_note 5 11 := ⟨mok11_note, mt6 (j := 7) rfl rfl, mt6 (j := 8) rfl rfl, mt6 (j := 9) rfl rfl, by decide +kernel, by decide, by decide +kernel⟩
theorem cvL_114 : CV RL 114 m10_mark 4 10 := ⟨mok10_mark, mt4 (j := 57) rfl rfl, mt4 (j := 58) rfl rfl, mt4 (j := 59) rfl rfl, by decide +kernel, by decide, by decide +kernel⟩
theorem cvL_118 : CV RL 118 m11_mark 4 11 := ⟨mok11_mark, mt6 (j := 11) rfl rfl, mt6 (j := 12) rfl rfl, mt6 (j := 13) rfl rfl, by decide +kernel, by decide, by decide +kernel⟩
theorem cvL_119 : CV RL 119 m10_forget 1 10 := ⟨mok10_forget, mt4 (j := 61) rfl rfl, mt4 (j := 62) rfl rfl, mt4 (j := 63) rfl rfl, by decide +kernel, by decide, by decide +kernel⟩
theorem cvL_122 : CV RL 122 m11_forget 1 11 := ⟨mok11_forget, mt6 (j := 15) rfl rfl, mt6 (j := 16) rfl rfl, mt6 (j := 17) rfl rfl, by decide +kernel, by decide, by decide +kernel⟩
theorem cvL_123 : CV RL 123 m10_is 1 10 := ⟨mok10_is, mt4 (j := 69) rfl rfl, mt4 (j := 70) rfl rfl, mt4 (j := 71) rfl rfl, by decide +kernel, by decide, by decide +kernel⟩
theorem cvL_126 : CV RL 126 m11_is 1 11 := ⟨mok11_is, mt6 (j := 19) rfl rfl, mt6 (j := 20) rfl rfl, mt6 (j := 21) rfl rfl, by decide +kernel, by decide, by decide +kernel⟩
theorem cvL_127 : CV RL 127 m10_look 1 10 := ⟨mok10_look, mt4 (j := 90) rfl rfl, mt4 (j := 91) rfl rfl, mt4 (j := 92) rfl rfl, by decide +kernel, by decide, by decide +kernel⟩
theorem cvL_13 : CV RL 13 m10_village 0 10 := ⟨mok10_village, mt2 (j := 63) rfl rfl, mt2 (j := 64) rfl rfl, mt2 (j := 65) rfl rfl, by decide +kernel, by decide, by decide +kernel⟩
theorem cvL_130 : CV RL 130 m11_look 1 11 := ⟨mok11_look, mt6 (j := 27) rfl rfl, mt6 (j := 28) rfl rfl, mt6 (j := 29) rfl rfl, by decide +kernel, by decide, by decide +kernel⟩
theorem cvL_131 : CV RL 131 m10_kinds 1 10 := ⟨mok10_kinds, mt4 (j := 104) rfl rfl, mt4 (j := 105) rfl rfl, mt4 (j := 106) rfl rfl, by decide +kernel, by decide, by decide +kernel⟩
theorem cvL_134 : CV RL 134 m11_kinds 1 11 := ⟨mok11_kinds, mt6 (j := 36) rfl rfl, mt6 (j := 37) rfl rfl, mt6 (j := 38) rfl rfl, by decide +kernel, by decide, by decide +kernel⟩
theorem cvL_135 : CV RL 135 m10_ask 1 10 := ⟨mok10_ask, mt4 (j := 117) rfl rfl, mt4 (j := 118) rfl rfl, mt4 (j := 119) rfl rfl, by decide +kernel, by decide, by decide +kernel⟩
theorem cvL_138 : CV RL 138 m11_ask 1 11 := ⟨mok11_ask, mt6 (j := 44) rfl rfl, mt6 (j := 45) rfl rfl, mt6 (j := 46) rfl rfl, by decide +kernel, by decide, by decide +kernel⟩
theorem cvL_139 : CV RL 139 m10_sweep 2 10 := ⟨mok10_sweep, mt4 (j := 125) rfl rfl, mt4 (j := 126) rfl rfl, mt4 (j := 127) rfl rfl, by decide +kernel, by decide, by decide +kernel⟩
theorem cvL_142 : CV RL 142 m11_sweep 2 11 := ⟨mok11_sweep, mt6 (j := 48) rfl rfl, mt6 (j := 49) rfl rfl, mt6 (j := 50) rfl rfl, by decide +kernel, by decide, by decide +kernel⟩
theorem cvL_143 : CV RL 143 m10_falls 2 10 := ⟨mok10_falls, mt4 (j := 154) rfl rfl, mt4 (j := 155) rfl rfl, mt4 (j := 156) rfl rfl, by decide +kernel, by decide, by decide +kernel⟩
theorem cvL_146 : CV RL 146 m11_falls 2 11 := ⟨mok11_falls, mt6 (j := 61) rfl rfl, mt6 (j := 62) rfl rfl, mt6 (j := 63) rfl rfl, by decide +kernel, by decide, by decide +kernel⟩
theorem cvL_147 : CV RL 147 m10_septembers 2 10 := ⟨mok10_septembers, mt4 (j := 166) rfl rfl, mt4 (j := 167) rfl rfl, mt4 (j := 168) rfl rfl, by decide +kernel, by decide, by decide +kernel⟩
theorem cvL_150 : CV RL 150 m11_septembers 2 11 := ⟨mok11_septembers, mt6 (j := 70) rfl rfl, mt6 (j := 71) rfl rfl, mt6 (j := 72) rfl rfl, by decide +kernel, by decide, by decide +kernel⟩
theorem cvL_151 : CV RL 151 m10_part 1 10 := ⟨mok10_part, mt4 (j := 178) rfl rfl, mt4 (j := 179) rfl rfl, mt4 (j := 180) rfl rfl, by decide +kernel, by decide, by decide +kernel⟩
theorem cvL_155 : CV RL 155 m11_part 1 11 := ⟨mok11_part, mt6 (j := 148) rfl rfl, mt6 (j := 149) rfl rfl, mt6 (j := 150) rfl rfl, by decide +kernel, by decide, by decide +kernel⟩
theorem cvL_156 : CV RL 156 m10_image 1 10 := ⟨mok10_image, mt4 (j := 190) rfl rfl, mt4 (j := 191) rfl rfl, mt4 (j := 192) rfl rfl, by decide +kernel, by decide, by decide +kernel⟩
theorem cvL_159 : CV RL 159 m11_image 1 11 := ⟨mok11_image, mt6 (j := 152) rfl rfl, mt6 (j := 153) rfl rfl, mt6 (j := 154) rfl rfl, by decide +kernel, by decide, by decide +kernel⟩
theorem cvL_160 : CV RL 160 m10_from 1 10 := ⟨mok10_from, mt4 (j := 198) rfl rfl, mt4 (j := 199) rfl rfl, mt4 (j := 200) rfl rfl, by decide +kernel, by decide, by decide +kernel⟩
theorem cvL_163 : CV RL 163 m11_from 1 11 := ⟨mok11_from, mt6 (j := 156) rfl rfl, mt6 (j := 157) rfl rfl, mt6 (j := 158) rfl rfl, by decide +kernel, by decide, by decide +kernel⟩
theorem cvL_164 : CV RL 164 m10_status 1 10 := ⟨mok10_status, mt4 (j := 202) rfl rfl, mt4 (j := 203) rfl rfl, mt4 (j := 204) rfl rfl, by decide +kernel, by decide, by decide +kernel⟩
theorem cvL_167 : CV RL 167 m11_status 1 11 := ⟨mok11_status, mt6 (j := 160) rfl rfl, mt6 (j := 161) rfl rfl, mt6 (j := 162) rfl rfl, by decide +kernel, by decide, by decide +kernel⟩
theorem cvL_168 : CV RL 168 m10_count 1 10 := ⟨mok10_count, mt4 (j := 206) rfl rfl, mt4 (j := 207) rfl rfl, mt4 (j := 208) rfl rfl, by decide +kernel, by decide, by decide +kernel⟩
theorem cvL_17 : CV RL 17 m11_village 0 11 := ⟨mok11_village, mt5 (j := 58) rfl rfl, mt5 (j := 59) rfl rfl, mt5 (j := 60) rfl rfl, by decide +kernel, by decide, by decide +kernel⟩
theorem cvL_171 : CV RL 171 m11_count 1 11 := ⟨mok11_count, mt6 (j := 164) rfl rfl, mt6 (j := 165) rfl rfl, mt6 (j := 166) rfl rfl, by decide +kernel, by decide, by decide +kernel⟩
theorem cvL_172 : CV RL 172 m10_digest 0 10 := ⟨mok10_digest, mt4 (j := 214) rfl rfl, mt4 (j := 215) rfl rfl, mt4 (j := 216) rfl rfl, by decide +kernel, by decide, by decide +kernel⟩
theorem cvL_176 : CV RL 176 m11_digest 0 11 := ⟨mok11_digest, mt6 (j := 172) rfl rfl, mt6 (j := 173) rfl rfl, mt6 (j := 174) rfl rfl, by decide +kernel, by decide, by decide +kernel⟩
theorem cvL_18 : CV RL 18 m10_storm 3 10 := ⟨mok10_storm, mt2 (j := 72) rfl rfl, mt2 (j := 73) rfl rfl, mt2 (j := 74) rfl rfl, by decide +kernel, by decide, by decide +kernel⟩
theorem cvL_22 : CV RL 22 m11_storm 3 11 := ⟨mok11_storm, mt5 (j := 66) rfl rfl, mt5 (j := 67) rfl rfl, mt5 (j := 68) rfl rfl, by decide +kernel, by decide, by decide +kernel⟩
theorem cvL_23 : CV RL 23 m10_thing 3 10 := ⟨mok10_thing, mt2 (j := 98) rfl rfl, mt2 (j := 99) rfl rfl, mt2 (j := 100) rfl rfl, by decide +kernel, by decide, by decide +kernel⟩
theorem cvL_26 : CV RL 26 m11_thing 3 11 := ⟨mok11_thing, mt5 (j := 83) rfl rfl, mt5 (j := 84) rfl rfl, mt5 (j := 85) rfl rfl, by decide +kernel, by decide, by decide +kernel⟩
theorem cvL_27 : CV RL 27 m10_body 1 10 := ⟨mok10_body, mt2 (j := 118) rfl rfl, mt2 (j := 119) rfl rfl, mt2 (j := 120) rfl rfl, by decide +kernel, by decide, by decide +kernel⟩
theorem cvL_31 : CV RL 31 m11_body 1 11 := ⟨mok11_body, mt5 (j := 98) rfl rfl, mt5 (j := 99) rfl rfl, mt5 (j := 100) rfl rfl, by decide +kernel, by decide, by decide +kernel⟩
theorem cvL_32 : CV RL 32 m10_type 1 10 := ⟨mok10_type, mt2 (j := 126) rfl rfl, mt2 (j := 127) rfl rfl, mt2 (j := 128) rfl rfl, by decide +kernel, by decide, by decide +kernel⟩
theorem cvL_35 : CV RL 35 m11_type 1 11 := ⟨mok11_type, mt6 (j := 81) rfl rfl, mt6 (j := 82) rfl rfl, mt6 (j := 83) rfl rfl, by decide +kernel, by decide, by decide +kernel⟩
theorem cvL_36 : CV RL 36 m10_clear 0 10 := ⟨mok10_clear, mt2 (j := 146) rfl rfl, mt2 (j := 147) rfl rfl, mt2 (j := 148) rfl rfl, by decide +kernel, by decide, by decide +kernel⟩
theorem cvL_39 : CV RL 39 m11_clear 0 11 := ⟨mok11_clear, mt6 (j := 86) rfl rfl, mt6 (j := 87) rfl rfl, mt6 (j := 88) rfl rfl, by decide +kernel, by decide, by decide +kernel⟩
theorem cvL_40 : CV RL 40 m10_read 0 10 := ⟨mok10_read, mt2 (j := 154) rfl rfl, mt2 (j := 155) rfl rfl, mt2 (j := 156) rfl rfl, by decide +kernel, by decide, by decide +kernel⟩
theorem cvL_43 : CV RL 43 m11_read 0 11 := ⟨mok11_read, mt6 (j := 90) rfl rfl, mt6 (j := 91) rfl rfl, mt6 (j := 92) rfl rfl, by decide +kernel, by decide, by decide +kernel⟩
theorem cvL_44 : CV RL 44 m10_summers 1 10 := ⟨mok10_summers, mt3 (j := 100) rfl rfl, mt3 (j := 101) rfl rfl, mt3 (j := 102) rfl rfl, by decide +kernel, by decide, by decide +kernel⟩
theorem cvL_47 : CV RL 47 m11_summers 1 11 := ⟨mok11_summers, mt5 (j := 102) rfl rfl, mt5 (j := 103) rfl rfl, mt5 (j := 104) rfl rfl, by decide +kernel, by decide, by decide +kernel⟩
theorem cvL_48 : CV RL 48 m10_takes 1 10 := ⟨mok10_takes, mt3 (j := 119) rfl rfl, mt3 (j := 120) rfl rfl, mt3 (j := 121) rfl rfl, by decide +kernel, by decide, by decide +kernel⟩
theorem cvL_51 : CV RL 51 m11_takes 1 11 := ⟨mok11_takes, mt5 (j := 144) rfl rfl, mt5 (j := 145) rfl rfl, mt5 (j := 146) rfl rfl, by decide +kernel, by decide, by decide +kernel⟩
theorem cvL_52 : CV RL 52 m10_undo 0 10 := ⟨mok10_undo, mt3 (j := 129) rfl rfl, mt3 (j := 130) rfl rfl, mt3 (j := 131) rfl rfl, by decide +kernel, by decide, by decide +kernel⟩
theorem cvL_55 : CV RL 55 m11_undo 0 11 := ⟨mok11_undo, mt5 (j := 152) rfl rfl, mt5 (j := 153) rfl rfl, mt5 (j := 154) rfl rfl, by decide +kernel, by decide, by decide +kernel⟩
theorem cvL_56 : CV RL 56 m10_of 2 10 := ⟨mok10_of, mt3 (j := 142) rfl rfl, mt3 (j := 143) rfl rfl, mt3 (j := 144) rfl rfl, by decide +kernel, by decide, by decide +kernel⟩
theorem cvL_60 : CV RL 60 m11_of 2 11 := ⟨mok11_of, mt5 (j := 160) rfl rfl, mt5 (j := 161) rfl rfl, mt5 (j := 162) rfl rfl, by decide +kernel, by decide, by decide +kernel⟩
theorem cvL_61 : CV RL 61 m10_about 2 10 := ⟨mok10_about, mt3 (j := 146) rfl rfl, mt3 (j := 147) rfl rfl, mt3 (j := 148) rfl rfl, by decide +kernel, by decide, by decide +kernel⟩
theorem cvL_64 : CV RL 64 m11_about 2 11 := ⟨mok11_about, mt5 (j := 165) rfl rfl, mt5 (j := 166) rfl rfl, mt5 (j := 167) rfl rfl, by decide +kernel, by decide, by decide +kernel⟩
theorem cvL_65 : CV RL 65 m10_weather 2 10 := ⟨mok10_weather, mt3 (j := 159) rfl rfl, mt3 (j := 160) rfl rfl, mt3 (j := 161) rfl rfl, by decide +kernel, by decide, by decide +kernel⟩
theorem cvL_68 : CV RL 68 m11_weather 2 11 := ⟨mok11_weather, mt5 (j := 174) rfl rfl, mt5 (j := 175) rfl rfl, mt5 (j := 176) rfl rfl, by decide +kernel, by decide, by decide +kernel⟩
theorem cvL_69 : CV RL 69 m10_draws 2 10 := ⟨mok10_draws, mt3 (j := 163) rfl rfl, mt3 (j := 164) rfl rfl, mt3 (j := 165) rfl rfl, by decide +kernel, by decide, by decide +kernel⟩
theorem cvL_72 : CV RL 72 m11_draws 2 11 := ⟨mok11_draws, mt5 (j := 178) rfl rfl, mt5 (j := 179) rfl rfl, mt5 (j := 180) rfl rfl, by decide +kernel, by decide, by decide +kernel⟩
theorem cvL_73 : CV RL 73 m10_struck 1 10 := ⟨mok10_struck, mt3 (j := 171) rfl rfl, mt3 (j := 172) rfl rfl, mt3 (j := 173) rfl rfl, by decide +kernel, by decide, by decide +kernel⟩
theorem cvL_76 : CV RL 76 m11_struck 1 11 := ⟨mok11_struck, mt5 (j := 182) rfl rfl, mt5 (j := 183) rfl rfl, mt5 (j := 184) rfl rfl, by decide +kernel, by decide, by decide +kernel⟩
theorem cvL_77 : CV RL 77 m10_then 1 10 := ⟨mok10_then, mt3 (j := 179) rfl rfl, mt3 (j := 180) rfl rfl, mt3 (j := 181) rfl rfl, by decide +kernel, by decide, by decide +kernel⟩
theorem cvL_80 : CV RL 80 m11_then 1 11 := ⟨mok11_then, mt5 (j := 186) rfl rfl, mt5 (j := 187) rfl rfl, mt5 (j := 188) rfl rfl, by decide +kernel, by decide, by decide +kernel⟩
theorem cvL_81 : CV RL 81 m10_when 1 10 := ⟨mok10_when, mt3 (j := 185) rfl rfl, mt3 (j := 186) rfl rfl, mt3 (j := 187) rfl rfl, by decide +kernel, by decide, by decide +kernel⟩
theorem cvL_84 : CV RL 84 m11_when 1 11 := ⟨mok11_when, mt5 (j := 194) rfl rfl, mt5 (j := 195) rfl rfl, mt5 (j := 196) rfl rfl, by decide +kernel, by decide, by decide +kernel⟩
theorem cvL_85 : CV RL 85 m10_whence 0 10 := ⟨mok10_whence, mt3 (j := 193) rfl rfl, mt3 (j := 194) rfl rfl, mt3 (j := 195) rfl rfl, by decide +kernel, by decide, by decide +kernel⟩
theorem cvL_88 : CV RL 88 m11_whence 0 11 := ⟨mok11_whence, mt5 (j := 202) rfl rfl, mt5 (j := 203) rfl rfl, mt5 (j := 204) rfl rfl, by decide +kernel, by decide, by decide +kernel⟩
theorem cvL_89 : CV RL 89 m10_lead 1 10 := ⟨mok10_lead, mt3 (j := 197) rfl rfl, mt3 (j := 198) rfl rfl, mt3 (j := 199) rfl rfl, by decide +kernel, by decide, by decide +kernel⟩
theorem cvL_92 : CV RL 92 m11_lead 1 11 := ⟨mok11_lead, mt5 (j := 210) rfl rfl, mt5 (j := 211) rfl rfl, mt5 (j := 212) rfl rfl, by decide +kernel, by decide, by decide +kernel⟩
theorem cvL_93 : CV RL 93 m10_spare 0 10 := ⟨mok10_spare, mt3 (j := 210) rfl rfl, mt3 (j := 211) rfl rfl, mt3 (j := 212) rfl rfl, by decide +kernel, by decide, by decide +kernel⟩
theorem cvL_96 : CV RL 96 m11_spare 0 11 := ⟨mok11_spare, mt5 (j := 214) rfl rfl, mt5 (j := 215) rfl rfl, mt5 (j := 216) rfl rfl, by decide +kernel, by decide, by decide +kernel⟩
theorem cvL_97 : CV RL 97 m10_order 2 10 := ⟨mok10_order, mt3 (j := 221) rfl rfl, mt3 (j := 222) rfl rfl, mt3 (j := 223) rfl rfl, by decide +kernel, by decide, by decide +kernel⟩
theorem cv11_127 : CV RX11 127 m11_save 0 11 := ⟨mok11_save, mt5 (j := 107) rfl rfl, mt5 (j := 109) rfl rfl, at_of (i := 34) (by decide +kernel) rfl, by decide +kernel, by decide, by decide +kernel⟩
theorem cv11_134 : CV RX11 134 m11_isThing 1 11 := ⟨mok11_isThing, mt5 (j := 148) rfl rfl, mt5 (j := 150) rfl rfl, at_of (i := 35) (by decide +kernel) rfl, by decide +kernel, by decide, by decide +kernel⟩
theorem cv11_137 : CV RX11 137 m11_no 0 11 := ⟨mok11_no, mt5 (j := 156) rfl rfl, mt5 (j := 158) rfl rfl, at_of (i := 36) (by decide +kernel) rfl, by decide +kernel, by decide, by decide +kernel⟩
theorem cv11_142 : CV RX11 142 m11_isPart 1 11 := ⟨mok11_isPart, mt5 (j := 169) rfl rfl, mt5 (j := 171) rfl rfl, at_of (i := 37) (by decide +kernel) rfl, by decide +kernel, by decide, by decide +kernel⟩
theorem cv11_147 : CV RX11 147 m11_layHand 0 11 := ⟨mok11_layHand, mt5 (j := 190) rfl rfl, mt5 (j := 192) rfl rfl, at_of (i := 38) (by decide +kernel) rfl, by decide +kernel, by decide, by decide +kernel⟩
theorem cv11_150 : CV RX11 150 m11_whenOf 1 11 := ⟨mok11_whenOf, mt5 (j := 198) rfl rfl, mt5 (j := 200) rfl rfl, at_of (i := 39) (by decide +kernel) rfl, by decide +kernel, by decide, by decide +kernel⟩
theorem cv11_153 : CV RX11 153 m11_cellsBy 1 11 := ⟨mok11_cellsBy, mt5 (j := 206) rfl rfl, mt5 (j := 208) rfl rfl, at_of (i := 40) (by decide +kernel) rfl, by decide +kernel, by decide, by decide +kernel⟩
theorem cv11_158 : CV RX11 158 m11_layMissing 0 11 := ⟨mok11_layMissing, mt5 (j := 223) rfl rfl, mt5 (j := 225) rfl rfl, at_of (i := 41) (by decide +kernel) rfl, by decide +kernel, by decide, by decide +kernel⟩
theorem cv11_161 : CV RX11 161 m11_layOrder 2 11 := ⟨mok11_layOrder, mt5 (j := 227) rfl rfl, mt5 (j := 229) rfl rfl, at_of (i := 42) (by decide +kernel) rfl, by decide +kernel, by decide, by decide +kernel⟩
theorem cv11_165 : CV RX11 165 m11_comeBy 2 11 := ⟨mok11_comeBy, mt5 (j := 231) rfl rfl, mt5 (j := 233) rfl rfl, at_of (i := 43) (by decide +kernel) rfl, by decide +kernel, by decide, by decide +kernel⟩
theorem cv11_169 : CV RX11 169 m11_isSeenBy 2 11 := ⟨mok11_isSeenBy, mt6 (j := 3) rfl rfl, mt6 (j := 5) rfl rfl, at_of (i := 44) (by decide +kernel) rfl, by decide +kernel, by decide, by decide +kernel⟩
theorem cv11_172 : CV RX11 172 m11_kindsOfThing 1 11 := ⟨mok11_kindsOfThing, mt6 (j := 23) rfl rfl, mt6 (j := 25) rfl rfl, at_of (i := 45) (by decide +kernel) rfl, by decide +kernel, by decide, by decide +kernel⟩
theorem cv11_176 : CV RX11 176 m11_mostAlike 1 11 := ⟨mok11_mostAlike, mt6 (j := 32) rfl rfl, mt6 (j := 34) rfl rfl, at_of (i := 46) (by decide +kernel) rfl, by decide +kernel, by decide, by decide +kernel⟩
theorem cv11_179 : CV RX11 179 m11_kindsOfPart 1 11 := ⟨mok11_kindsOfPart, mt6 (j := 40) rfl rfl, mt6 (j := 42) rfl rfl, at_of (i := 47) (by decide +kernel) rfl, by decide +kernel, by decide, by decide +kernel⟩
theorem cv11_197 : CV RX11 197 m11_fraction 2 11 := ⟨mok11_fraction, mt6 (j := 66) rfl rfl, mt6 (j := 68) rfl rfl, at_of (i := 48) (by decide +kernel) rfl, by decide +kernel, by decide, by decide +kernel⟩
theorem cv11_247 : CV RX11 247 m11_lookAt 1 11 := ⟨mok11_lookAt, mt6 (j := 94) rfl rfl, mt6 (j := 96) rfl rfl, at_of (i := 49) (by decide +kernel) rfl, by decide +kernel, by decide, by decide +kernel⟩
theorem cv11_251 : CV RX11 251 m11_goBehind 0 11 := ⟨mok11_goBehind, mt6 (j := 112) rfl rfl, mt6 (j := 114) rfl rfl, at_of (i := 51) (by decide +kernel) rfl, by decide +kernel, by decide, by decide +kernel⟩
theorem cv11_254 : CV RX11 254 m11_gives 3 11 := ⟨mok11_gives, mt6 (j := 128) rfl rfl, mt6 (j := 130) rfl rfl, at_of (i := 55) (by decide +kernel) rfl, by decide +kernel, by decide, by decide +kernel⟩
theorem cv11_257 : CV RX11 257 m11_spells 7 11 := ⟨mok11_spells, mt6 (j := 120) rfl rfl, mt6 (j := 122) rfl rfl, at_of (i := 53) (by decide +kernel) rfl, by decide +kernel, by decide, by decide +kernel⟩
theorem cv11_261 : CV RX11 261 m11_givesStorm 0 11 := ⟨mok11_givesStorm, mt6 (j := 124) rfl rfl, mt6 (j := 126) rfl rfl, at_of (i := 54) (by decide +kernel) rfl, by decide +kernel, by decide, by decide +kernel⟩
theorem cv11_265 : CV RX11 265 m11_givesThing 0 11 := ⟨mok11_givesThing, mt6 (j := 132) rfl rfl, mt6 (j := 134) rfl rfl, at_of (i := 56) (by decide +kernel) rfl, by decide +kernel, by decide, by decide +kernel⟩
theorem cv11_268 : CV RX11 268 m11_givesPart 0 11 := ⟨mok11_givesPart, mt6 (j := 136) rfl rfl, mt6 (j := 138) rfl rfl, at_of (i := 57) (by decide +kernel) rfl, by decide +kernel, by decide, by decide +kernel⟩
theorem cv11_271 : CV RX11 271 m11_givesTake 0 11 := ⟨mok11_givesTake, mt6 (j := 140) rfl rfl, mt6 (j := 142) rfl rfl, at_of (i := 58) (by decide +kernel) rfl, by decide +kernel, by decide, by decide +kernel⟩
theorem cv11_274 : CV RX11 274 m11_spellsSeven 7 11 := ⟨mok11_spellsSeven, mt6 (j := 108) rfl rfl, mt6 (j := 110) rfl rfl, at_of (i := 50) (by decide +kernel) rfl, by decide +kernel, by decide, by decide +kernel⟩
theorem cv11_277 : CV RX11 277 m11_givesSummers 0 11 := ⟨mok11_givesSummers, mt6 (j := 144) rfl rfl, mt6 (j := 146) rfl rfl, at_of (i := 59) (by decide +kernel) rfl, by decide +kernel, by decide, by decide +kernel⟩
theorem cv11_280 : CV RX11 280 m11_givesItem 0 11 := ⟨mok11_givesItem, mt6 (j := 116) rfl rfl, mt6 (j := 118) rfl rfl, at_of (i := 52) (by decide +kernel) rfl, by decide +kernel, by decide, by decide +kernel⟩
theorem cv11_283 : CV RX11 283 m11_counted 1 11 := ⟨mok11_counted, mt6 (j := 168) rfl rfl, mt6 (j := 170) rfl rfl, at_of (i := 60) (by decide +kernel) rfl, by decide +kernel, by decide, by decide +kernel⟩
theorem cv11_290 : CV RX11 290 m11_sums 3 11 := ⟨mok11_sums, mt6 (j := 178) rfl rfl, mt6 (j := 180) rfl rfl, at_of (i := 61) (by decide +kernel) rfl, by decide +kernel, by decide, by decide +kernel⟩
theorem cv11_55 : CV RX11 55 m11_many 0 11 := ⟨mok11_many, mt5 (j := 62) rfl rfl, mt5 (j := 64) rfl rfl, at_of (i := 31) (by decide +kernel) rfl, by decide +kernel, by decide, by decide +kernel⟩
theorem cv11_73 : CV RX11 73 m11_bad 1 11 := ⟨mok11_bad, mt5 (j := 79) rfl rfl, mt5 (j := 81) rfl rfl, at_of (i := 32) (by decide +kernel) rfl, by decide +kernel, by decide, by decide +kernel⟩
theorem cv11_82 : CV RX11 82 m11_full 0 11 := ⟨mok11_full, mt5 (j := 91) rfl rfl, mt5 (j := 93) rfl rfl, at_of (i := 33) (by decide +kernel) rfl, by decide +kernel, by decide, by decide +kernel⟩
theorem cvJ0_335 : CT RJ0 335 mJ0_coder 0 := ⟨mokJ0_coder, mt2 (j := 196) rfl rfl, mt2 (j := 197) rfl rfl, mt2 (j := 198) rfl rfl, by decide +kernel, rfl⟩
theorem cvJ0_492 : CT RJ0 492 mJ0_isLatin1 0 := ⟨mokJ0_isLatin1, mt2 (j := 206) rfl rfl, mt2 (j := 207) rfl rfl, mt2 (j := 208) rfl rfl, by decide +kernel, rfl⟩
theorem cm0_28 : CM RX0 28 Lib.Math.max.name Lib.Math.max.code 2 := ⟨mt4 (j := 139) rfl rfl, mt1 (j := 40) rfl rfl, mt1 (j := 4) rfl rfl, mt1 (j := 41) rfl rfl⟩
theorem cm0_45 : CM RX0 45 Lib.Math.abs.name Lib.Math.abs.code 1 := ⟨mt4 (j := 138) rfl rfl, mt3 (j := 51) rfl rfl, mt1 (j := 4) rfl rfl, mt3 (j := 52) rfl rfl⟩
theorem cm2_65 : CM RX2 65 Lib.Math.max.name Lib.Math.max.code 2 := ⟨mt4 (j := 103) rfl rfl, mt1 (j := 40) rfl rfl, mt1 (j := 4) rfl rfl, mt1 (j := 41) rfl rfl⟩
theorem cm5_87 : CM RX5 87 Lib.Math.max.name Lib.Math.max.code 2 := ⟨mt4 (j := 13) rfl rfl, mt1 (j := 40) rfl rfl, mt1 (j := 4) rfl rfl, mt1 (j := 41) rfl rfl⟩
theorem cm5_94 : CM RX5 94 Lib.Math.min.name Lib.Math.min.code 2 := ⟨mt4 (j := 19) rfl rfl, mt3 (j := 61) rfl rfl, mt1 (j := 4) rfl rfl, mt3 (j := 62) rfl rfl⟩
theorem cm7_16 : CM RX7 16 Lib.Math.max.name Lib.Math.max.code 2 := ⟨mt1 (j := 39) rfl rfl, mt1 (j := 40) rfl rfl, mt1 (j := 4) rfl rfl, mt1 (j := 41) rfl rfl⟩
theorem cm7_43 : CM RX7 43 Lib.Math.min.name Lib.Math.min.code 2 := ⟨mt3 (j := 92) rfl rfl, mt3 (j := 61) rfl rfl, mt1 (j := 4) rfl rfl, mt3 (j := 62) rfl rfl⟩
theorem cm9_109 : CM RX9 109 Lib.Math.min.name Lib.Math.min.code 2 := ⟨mt3 (j := 60) rfl rfl, mt3 (j := 61) rfl rfl, mt1 (j := 4) rfl rfl, mt3 (j := 62) rfl rfl⟩
theorem cm9_123 : CM RX9 123 Lib.Math.abs.name Lib.Math.abs.code 1 := ⟨mt3 (j := 50) rfl rfl, mt3 (j := 51) rfl rfl, mt1 (j := 4) rfl rfl, mt3 (j := 52) rfl rfl⟩
theorem cm10_283 : CM RX10 283 Lib.Math.min.name Lib.Math.min.code 2 := ⟨mt4 (j := 129) rfl rfl, mt3 (j := 61) rfl rfl, mt1 (j := 4) rfl rfl, mt3 (j := 62) rfl rfl⟩
theorem aJ0_length_0 : At cJ0_length_8abf5 0 (.aload_n 0) 1 1 := ⟨by decide +kernel, rfl⟩
theorem aJ0_length_1 : At cJ0_length_8abf5 1 (.getfield 9) 3 4 := ⟨by decide +kernel, rfl⟩
theorem aJ0_length_4 : At cJ0_length_8abf5 4 (.arraylength) 1 5 := ⟨by decide +kernel, rfl⟩
theorem aJ0_length_5 : At cJ0_length_8abf5 5 (.aload_n 0) 1 6 := ⟨by decide +kernel, rfl⟩
theorem aJ0_length_6 : At cJ0_length_8abf5 6 (.invokevirtual 335) 3 9 := ⟨by decide +kernel, rfl⟩
theorem aJ0_length_9 : At cJ0_length_8abf5 9 (.ishr) 1 10 := ⟨by decide +kernel, rfl⟩
theorem aJ0_length_10 : At cJ0_length_8abf5 10 (.ireturn) 1 11 := ⟨by decide +kernel, rfl⟩
theorem aJ0_coder_0 : At cJ0_coder_7d493 0 (.getstatic 38) 3 3 := ⟨by decide +kernel, rfl⟩
theorem aJ0_coder_3 : At cJ0_coder_7d493 3 (.ifCond .eq 10) 3 6 := ⟨by decide +kernel, rfl⟩
theorem aJ0_coder_6 : At cJ0_coder_7d493 6 (.aload_n 0) 1 7 := ⟨by decide +kernel, rfl⟩
theorem aJ0_coder_7 : At cJ0_coder_7d493 7 (.getfield 15) 3 10 := ⟨by decide +kernel, rfl⟩
theorem aJ0_coder_10 : At cJ0_coder_7d493 10 (.goto 4) 3 13 := ⟨by decide +kernel, rfl⟩
theorem aJ0_coder_13 : At cJ0_coder_7d493 13 (.iconst 1) 1 14 := ⟨by decide +kernel, rfl⟩
theorem aJ0_coder_14 : At cJ0_coder_7d493 14 (.ireturn) 1 15 := ⟨by decide +kernel, rfl⟩
theorem aJ0_charAt_0 : At cJ0_charAt_5068e 0 (.aload_n 0) 1 1 := ⟨by decide +kernel, rfl⟩
theorem aJ0_charAt_1 : At cJ0_charAt_5068e 1 (.invokevirtual 492) 3 4 := ⟨by decide +kernel, rfl⟩
theorem aJ0_charAt_4 : At cJ0_charAt_5068e 4 (.ifCond .eq 12) 3 7 := ⟨by decide +kernel, rfl⟩
theorem aJ0_charAt_7 : At cJ0_charAt_5068e 7 (.aload_n 0) 1 8 := ⟨by decide +kernel, rfl⟩
theorem aJ0_charAt_8 : At cJ0_charAt_5068e 8 (.getfield 9) 3 11 := ⟨by decide +kernel, rfl⟩
theorem aJ0_charAt_11 : At cJ0_charAt_5068e 11 (.iload_n 1) 1 12 := ⟨by decide +kernel, rfl⟩
theorem aJ0_charAt_12 : At cJ0_charAt_5068e 12 (.invokestatic 495) 3 15 := ⟨by decide +kernel, rfl⟩
theorem aJ0_charAt_15 : At cJ0_charAt_5068e 15 (.ireturn) 1 16 := ⟨by decide +kernel, rfl⟩
theorem aJ0_charAt_16 : At cJ0_charAt_5068e 16 (.aload_n 0) 1 17 := ⟨by decide +kernel, rfl⟩
theorem aJ0_charAt_17 : At cJ0_charAt_5068e 17 (.getfield 9) 3 20 := ⟨by decide +kernel, rfl⟩
theorem aJ0_charAt_20 : At cJ0_charAt_5068e 20 (.iload_n 1) 1 21 := ⟨by decide +kernel, rfl⟩
theorem aJ0_charAt_21 : At cJ0_charAt_5068e 21 (.invokestatic 498) 3 24 := ⟨by decide +kernel, rfl⟩
theorem aJ0_charAt_24 : At cJ0_charAt_5068e 24 (.ireturn) 1 25 := ⟨by decide +kernel, rfl⟩
theorem aJ0_isLatin1_0 : At cJ0_isLatin1_aae02 0 (.getstatic 38) 3 3 := ⟨by decide +kernel, rfl⟩
theorem aJ0_isLatin1_3 : At cJ0_isLatin1_aae02 3 (.ifCond .eq 14) 3 6 := ⟨by decide +kernel, rfl⟩
theorem aJ0_isLatin1_6 : At cJ0_isLatin1_aae02 6 (.aload_n 0) 1 7 := ⟨by decide +kernel, rfl⟩
theorem aJ0_isLatin1_7 : At cJ0_isLatin1_aae02 7 (.getfield 15) 3 10 := ⟨by decide +kernel, rfl⟩
theorem aJ0_isLatin1_10 : At cJ0_isLatin1_aae02 10 (.ifCond .ne 7) 3 13 := ⟨by decide +kernel, rfl⟩
theorem aJ0_isLatin1_13 : At cJ0_isLatin1_aae02 13 (.iconst 1) 1 14 := ⟨by decide +kernel, rfl⟩
theorem aJ0_isLatin1_14 : At cJ0_isLatin1_aae02 14 (.goto 4) 3 17 := ⟨by decide +kernel, rfl⟩
theorem aJ0_isLatin1_17 : At cJ0_isLatin1_aae02 17 (.iconst 0) 1 18 := ⟨by decide +kernel, rfl⟩
theorem aJ0_isLatin1_18 : At cJ0_isLatin1_aae02 18 (.ireturn) 1 19 := ⟨by decide +kernel, rfl⟩
theorem aJ1_charAt_0 : At cJ1_charAt_3b067 0 (.iload_n 1) 1 1 := ⟨by decide +kernel, rfl⟩
theorem aJ1_charAt_1 : At cJ1_charAt_3b067 1 (.aload_n 0) 1 2 := ⟨by decide +kernel, rfl⟩
theorem aJ1_charAt_2 : At cJ1_charAt_3b067 2 (.arraylength) 1 3 := ⟨by decide +kernel, rfl⟩
theorem aJ1_charAt_3 : At cJ1_charAt_3b067 3 (.invokestatic 9) 3 6 := ⟨by decide +kernel, rfl⟩
theorem aJ1_charAt_6 : At cJ1_charAt_3b067 6 (.aload_n 0) 1 7 := ⟨by decide +kernel, rfl⟩
theorem aJ1_charAt_7 : At cJ1_charAt_3b067 7 (.iload_n 1) 1 8 := ⟨by decide +kernel, rfl⟩
theorem aJ1_charAt_8 : At cJ1_charAt_3b067 8 (.baload) 1 9 := ⟨by decide +kernel, rfl⟩
theorem aJ1_charAt_9 : At cJ1_charAt_3b067 9 (.sipush 255) 3 12 := ⟨by decide +kernel, rfl⟩
theorem aJ1_charAt_12 : At cJ1_charAt_3b067 12 (.iand) 1 13 := ⟨by decide +kernel, rfl⟩
theorem aJ1_charAt_13 : At cJ1_charAt_3b067 13 (.i2c) 1 14 := ⟨by decide +kernel, rfl⟩
theorem aJ1_charAt_14 : At cJ1_charAt_3b067 14 (.ireturn) 1 15 := ⟨by decide +kernel, rfl⟩
theorem aJ0_checkIndex_0 : At cJ0_checkIndex_df160 0 (.iload_n 0) 1 1 := ⟨by decide +kernel, rfl⟩
theorem aJ0_checkIndex_1 : At cJ0_checkIndex_df160 1 (.iload_n 1) 1 2 := ⟨by decide +kernel, rfl⟩
theorem aJ0_checkIndex_2 : At cJ0_checkIndex_df160 2 (.getstatic 1053) 3 5 := ⟨by decide +kernel, rfl⟩
theorem aJ0_checkIndex_5 : At cJ0_checkIndex_df160 5 (.invokestatic 1059) 3 8 := ⟨by decide +kernel, rfl⟩
theorem aJ0_checkIndex_8 : At cJ0_checkIndex_df160 8 (.pop) 1 9 := ⟨by decide +kernel, rfl⟩
theorem aJ0_checkIndex_9 : At cJ0_checkIndex_df160 9 (.return_) 1 10 := ⟨by decide +kernel, rfl⟩
theorem aJ3_checkIndex_0 : At cJ3_checkIndex_8e157 0 (.iload_n 0) 1 1 := ⟨by decide +kernel, rfl⟩
theorem aJ3_checkIndex_1 : At cJ3_checkIndex_8e157 1 (.ifCond .lt 8) 3 4 := ⟨by decide +kernel, rfl⟩
theorem aJ3_checkIndex_4 : At cJ3_checkIndex_8e157 4 (.iload_n 0) 1 5 := ⟨by decide +kernel, rfl⟩
theorem aJ3_checkIndex_5 : At cJ3_checkIndex_8e157 5 (.iload_n 1) 1 6 := ⟨by decide +kernel, rfl⟩
theorem aJ3_checkIndex_6 : At cJ3_checkIndex_8e157 6 (.if_icmp .lt 10) 3 9 := ⟨by decide +kernel, rfl⟩
theorem aJ3_checkIndex_16 : At cJ3_checkIndex_8e157 16 (.iload_n 0) 1 17 := ⟨by decide +kernel, rfl⟩
theorem aJ3_checkIndex_17 : At cJ3_checkIndex_8e157 17 (.ireturn) 1 18 := ⟨by decide +kernel, rfl⟩
