/-! the methods without their instructions, the pools (written by wip/p41/gentab2.py) -/
def mh_J3_checkIndex_8e157 : MT := (yJ3_checkIndex_8e157, cJ3_checkIndex_8e157, 3, (some .int), (25, 0, 3, 99), (0, 0, 0, 0), [])
def mh_J6_bitCount_0f7a4 : MT := (yJ6_bitCount_0f7a4, cJ6_bitCount_0f7a4, 1, (some .int), (17, 0, 1, 99), (0, 0, 0, 0), [])
def mh_J6_lowestOneBit_0f7a4 : MT := (yJ6_lowestOneBit_0f7a4, cJ6_lowestOneBit_0f7a4, 1, (some .int), (17, 0, 1, 99), (0, 0, 0, 0), [])
def mh_J6_numberOfTrailingZeros_0f7a4 : MT := (yJ6_numberOfTrailingZeros_0f7a4, cJ6_numberOfTrailingZeros_0f7a4, 2, (some .int), (17, 0, 1, 99), (0, 0, 0, 0), [])
def mh_J9_floorMod_7cf53 : MT := (yJ9_floorMod_7cf53, cJ9_floorMod_7cf53, 3, (some .int), (18, 0, 2, 99), (0, 0, 0, 0), [])
def mh_J9_max_7cf53 : MT := (yJ9_max_7cf53, cJ9_max_7cf53, 2, (some .int), (18, 0, 2, 99), (0, 0, 0, 0), [])
def mh_J9_min_7cf53 : MT := (yJ9_min_7cf53, cJ9_min_7cf53, 2, (some .int), (18, 0, 2, 99), (0, 0, 0, 0), [])
def mh_X0_because : MT := (yX0_because, cX0_because, 2, (some .int), (1, 0, 2, 0), (0, 0, 0, 0), [])
def mh_X0_judge : MT := (yX0_judge, cX0_judge, 4, (some .int), (1, 1, 1, 0), (0, 0, 0, 0), [])
def mh_X0_liveDays : MT := (yX0_liveDays, cX0_liveDays, 2, (some .int), (1, 0, 2, 0), (0, 0, 0, 0), [])
def mh_X0_liveLine : MT := (yX0_liveLine, cX0_liveLine, 5, (some .int), (1, 1, 2, 0), (0, 0, 0, 0), [])
def mh_X0_read : MT := (yX0_read, cX0_read, 4, none, (1, 1, 2, 0), (0, 0, 0, 0), [])
def mh_X0_readAct : MT := (yX0_readAct, cX0_readAct, 4, none, (1, 1, 2, 0), (0, 0, 0, 0), [])
def mh_X0_readLine : MT := (yX0_readLine, cX0_readLine, 5, none, (1, 1, 2, 0), (0, 0, 0, 0), [])
def mh_X0_readSaying : MT := (yX0_readSaying, cX0_readSaying, 5, (some .int), (1, 0, 2, 0), (0, 0, 0, 0), [])
def mh_X0_sortBehind : MT := (yX0_sortBehind, cX0_sortBehind, 1, (some .int), (1, 0, 1, 0), (0, 0, 0, 0), [])
def mh_X0_tell : MT := (yX0_tell, cX0_tell, 2, (some .int), (1, 1, 1, 0), (0, 0, 0, 0), [])
def mh_X10_behindBlanks : MT := (yX10_behindBlanks, cX10_behindBlanks, 3, (some .int), (11, 1, 1, 9), (0, 0, 0, 0), [])
def mh_X10_fail : MT := (yX10_fail, cX10_fail, 2, none, (11, 1, 1, 9), (0, 0, 0, 0), [])
def mh_X10_isDigit : MT := (yX10_isDigit, cX10_isDigit, 1, (some .boolean), (11, 0, 1, 9), (0, 0, 0, 0), [])
def mh_X10_isLetter : MT := (yX10_isLetter, cX10_isLetter, 1, (some .boolean), (11, 0, 1, 9), (0, 0, 0, 0), [])
def mh_X10_isSpelled : MT := (yX10_isSpelled, cX10_isSpelled, 6, (some .boolean), (11, 1, 4, 9), (0, 0, 0, 0), [])
def mh_X10_isWord : MT := (yX10_isWord, cX10_isWord, 2, (some .boolean), (11, 1, 1, 9), (0, 0, 0, 0), [])
def mh_X10_open : MT := (yX10_open, cX10_open, 4, none, (11, 1, 1, 9), (0, 0, 0, 0), [])
def mh_X10_plainWord : MT := (yX10_plainWord, cX10_plainWord, 1, (some .int), (11, 1, 0, 9), (0, 0, 0, 0), [])
def mh_X10_readRun : MT := (yX10_readRun, cX10_readRun, 9, (some .int), (11, 1, 1, 9), (0, 0, 0, 0), [])
def mh_X10_readToken : MT := (yX10_readToken, cX10_readToken, 4, (some .int), (11, 1, 1, 9), (0, 0, 0, 0), [])
def mh_X10_step : MT := (yX10_step, cX10_step, 1, none, (11, 1, 0, 9), (0, 0, 0, 0), [])
def mh_X10_takeEnd : MT := (yX10_takeEnd, cX10_takeEnd, 1, none, (11, 1, 0, 9), (0, 0, 0, 0), [])
def mh_X10_takeNumber : MT := (yX10_takeNumber, cX10_takeNumber, 4, (some .int), (11, 1, 2, 9), (0, 0, 0, 0), [])
def mh_X10_takeSign : MT := (yX10_takeSign, cX10_takeSign, 2, none, (11, 1, 1, 9), (0, 0, 0, 0), [])
def mh_X10_wordIn : MT := (yX10_wordIn, cX10_wordIn, 5, (some .int), (11, 1, 3, 9), (0, 0, 0, 0), [])
def mh_X10_wordNumber : MT := (yX10_wordNumber, cX10_wordNumber, 4, (some .int), (11, 1, 2, 9), (0, 0, 0, 0), [])
def mh_X11_ask : MT := (yX11_ask, cX11_ask, 4, (some .int), (0, 1, 3, 10), (0, 0, 0, 0), [])
def mh_X11_bitAt : MT := (yX11_bitAt, cX11_bitAt, 4, (some .int), (0, 0, 2, 10), (0, 0, 0, 0), [])
def mh_X11_book : MT := (yX11_book, cX11_book, 2, (some .int), (0, 1, 1, 10), (0, 0, 0, 0), [])
def mh_X11_byteAt : MT := (yX11_byteAt, cX11_byteAt, 2, (some .int), (0, 1, 1, 10), (0, 0, 0, 0), [])
def mh_X11_cant : MT := (yX11_cant, cX11_cant, 6, (some .int), (0, 1, 4, 10), (0, 0, 0, 0), [])
def mh_X11_canting : MT := (yX11_canting, cX11_canting, 1, (some .int), (0, 1, 0, 10), (0, 0, 0, 0), [])
def mh_X11_city : MT := (yX11_city, cX11_city, 3, (some .int), (0, 1, 0, 10), (0, 0, 0, 0), [])
def mh_X11_closeText : MT := (yX11_closeText, cX11_closeText, 1, none, (0, 1, 0, 10), (0, 0, 0, 0), [])
def mh_X11_count : MT := (yX11_count, cX11_count, 2, (some .int), (0, 1, 1, 10), (0, 0, 0, 0), [])
def mh_X11_cover : MT := (yX11_cover, cX11_cover, 3, (some .int), (0, 1, 1, 10), (0, 0, 0, 0), [])
def mh_X11_covering : MT := (yX11_covering, cX11_covering, 1, (some .int), (0, 1, 0, 10), (0, 0, 0, 0), [])
def mh_X11_days : MT := (yX11_days, cX11_days, 2, (some .int), (0, 1, 1, 10), (0, 0, 0, 0), [])
def mh_X11_drawn : MT := (yX11_drawn, cX11_drawn, 3, (some .int), (0, 1, 2, 10), (0, 0, 0, 0), [])
def mh_X11_end : MT := (yX11_end, cX11_end, 2, (some .boolean), (0, 1, 1, 10), (0, 0, 0, 0), [])
def mh_X11_fault : MT := (yX11_fault, cX11_fault, 1, (some .int), (0, 1, 0, 10), (0, 0, 0, 0), [])
def mh_X11_feed : MT := (yX11_feed, cX11_feed, 6, (some .int), (0, 1, 5, 10), (0, 0, 0, 0), [])
def mh_X11_firstBit : MT := (yX11_firstBit, cX11_firstBit, 1, (some .int), (0, 0, 1, 10), (0, 0, 0, 0), [])
def mh_X11_fits : MT := (yX11_fits, cX11_fits, 4, (some .int), (0, 1, 3, 10), (0, 0, 0, 0), [])
def mh_X11_go : MT := (yX11_go, cX11_go, 3, (some .int), (0, 1, 2, 10), (0, 0, 0, 0), [])
def mh_X11_greatestShared : MT := (yX11_greatestShared, cX11_greatestShared, 3, (some .int), (0, 0, 2, 10), (0, 0, 0, 0), [])
def mh_X11_image : MT := (yX11_image, cX11_image, 3, (some .boolean), (0, 1, 1, 10), (0, 0, 0, 0), [])
def mh_X11_kept : MT := (yX11_kept, cX11_kept, 2, (some .int), (0, 1, 1, 10), (0, 0, 0, 0), [])
def mh_X11_keptDays : MT := (yX11_keptDays, cX11_keptDays, 2, (some .int), (0, 1, 1, 10), (0, 0, 0, 0), [])
def mh_X11_learn : MT := (yX11_learn, cX11_learn, 3, (some .int), (0, 1, 2, 10), (0, 0, 0, 0), [])
def mh_X11_lies : MT := (yX11_lies, cX11_lies, 2, (some .int), (0, 1, 1, 10), (0, 0, 0, 0), [])
def mh_X11_name : MT := (yX11_name, cX11_name, 3, (some .int), (0, 1, 2, 10), (0, 0, 0, 0), [])
def mh_X11_news : MT := (yX11_news, cX11_news, 2, (some .int), (0, 1, 1, 10), (0, 0, 0, 0), [])
def mh_X11_now : MT := (yX11_now, cX11_now, 2, (some .int), (0, 1, 1, 10), (0, 0, 0, 0), [])
def mh_X11_odds : MT := (yX11_odds, cX11_odds, 6, (some .int), (0, 1, 3, 10), (0, 0, 0, 0), [])
def mh_X11_person : MT := (yX11_person, cX11_person, 3, (some .int), (0, 1, 2, 10), (0, 0, 0, 0), [])
def mh_X11_phrase : MT := (yX11_phrase, cX11_phrase, 2, (some .int), (0, 1, 1, 10), (0, 0, 0, 0), [])
def mh_X11_point : MT := (yX11_point, cX11_point, 3, (some .int), (0, 1, 2, 10), (0, 0, 0, 0), [])
def mh_X11_put : MT := (yX11_put, cX11_put, 3, (some .int), (0, 1, 2, 10), (0, 0, 0, 0), [])
def mh_X11_rest : MT := (yX11_rest, cX11_rest, 2, (some .int), (0, 1, 1, 10), (0, 0, 0, 0), [])
def mh_X11_rested : MT := (yX11_rested, cX11_rested, 2, (some .int), (0, 1, 1, 10), (0, 0, 0, 0), [])
def mh_X11_restore : MT := (yX11_restore, cX11_restore, 3, (some .boolean), (0, 1, 1, 10), (0, 0, 0, 0), [])
def mh_X11_said : MT := (yX11_said, cX11_said, 3, (some .int), (0, 1, 1, 10), (0, 0, 0, 0), [])
def mh_X11_say : MT := (yX11_say, cX11_say, 4, (some .int), (0, 1, 2, 10), (0, 0, 0, 0), [])
def mh_X11_saying : MT := (yX11_saying, cX11_saying, 1, (some .int), (0, 1, 0, 10), (0, 0, 0, 0), [])
def mh_X11_sentence : MT := (yX11_sentence, cX11_sentence, 2, (some .int), (0, 1, 0, 10), (0, 0, 0, 0), [])
def mh_X11_show : MT := (yX11_show, cX11_show, 1, (some .int), (0, 1, 0, 10), (0, 0, 0, 0), [])
def mh_X11_slip : MT := (yX11_slip, cX11_slip, 8, (some .int), (0, 1, 3, 10), (0, 0, 0, 0), [])
def mh_X11_spellByte : MT := (yX11_spellByte, cX11_spellByte, 2, none, (0, 1, 1, 10), (0, 0, 0, 0), [])
def mh_X11_spellName : MT := (yX11_spellName, cX11_spellName, 5, none, (0, 1, 1, 10), (0, 0, 0, 0), [])
def mh_X11_spellRoundabout : MT := (yX11_spellRoundabout, cX11_spellRoundabout, 3, none, (0, 1, 1, 10), (0, 0, 0, 0), [])
def mh_X11_spoken : MT := (yX11_spoken, cX11_spoken, 2, (some .int), (0, 1, 0, 10), (0, 0, 0, 0), [])
def mh_X11_surely : MT := (yX11_surely, cX11_surely, 1, (some .int), (0, 1, 0, 10), (0, 0, 0, 0), [])
def mh_X11_thing : MT := (yX11_thing, cX11_thing, 3, (some .int), (0, 1, 2, 10), (0, 0, 0, 0), [])
def mh_X11_told : MT := (yX11_told, cX11_told, 2, (some .int), (0, 1, 1, 10), (0, 0, 0, 0), [])
def mh_X11_twin : MT := (yX11_twin, cX11_twin, 3, (some .int), (0, 1, 2, 10), (0, 0, 0, 0), [])
def mh_X11_undo : MT := (yX11_undo, cX11_undo, 1, (some .int), (0, 1, 0, 10), (0, 0, 0, 0), [])
def mh_X12_areApart : MT := (yX12_areApart, cX12_areApart, 3, (some .boolean), (13, 1, 2, 11), (0, 0, 0, 0), [])
def mh_X12_ask : MT := (yX12_ask, cX12_ask, 5, (some .int), (13, 1, 3, 11), (0, 0, 0, 0), [])
def mh_X12_asks : MT := (yX12_asks, cX12_asks, 5, none, (13, 1, 3, 11), (0, 0, 0, 0), [])
def mh_X12_back : MT := (yX12_back, cX12_back, 2, none, (13, 1, 0, 11), (0, 0, 0, 0), [])
def mh_X12_bad : MT := (yX12_bad, cX12_bad, 2, (some .boolean), (13, 1, 1, 11), (0, 0, 0, 0), [])
def mh_X12_behind : MT := (yX12_behind, cX12_behind, 1, (some .boolean), (13, 1, 0, 11), (0, 0, 0, 0), [])
def mh_X12_bitOf : MT := (yX12_bitOf, cX12_bitOf, 2, (some .boolean), (13, 0, 2, 11), (0, 0, 0, 0), [])
def mh_X12_bits : MT := (yX12_bits, cX12_bits, 3, (some .int), (13, 0, 1, 11), (0, 0, 0, 0), [])
def mh_X12_book : MT := (yX12_book, cX12_book, 4, (some .int), (13, 1, 1, 11), (0, 0, 0, 0), [])
def mh_X12_bookLine : MT := (yX12_bookLine, cX12_bookLine, 6, (some .boolean), (13, 1, 0, 11), (0, 0, 0, 0), [])
def mh_X12_byteAt : MT := (yX12_byteAt, cX12_byteAt, 2, (some .int), (13, 1, 1, 11), (0, 0, 0, 0), [])
def mh_X12_cant : MT := (yX12_cant, cX12_cant, 7, (some .int), (13, 1, 4, 11), (0, 0, 0, 0), [])
def mh_X12_canting : MT := (yX12_canting, cX12_canting, 1, (some .int), (13, 1, 0, 11), (0, 0, 0, 0), [])
def mh_X12_carriedBy : MT := (yX12_carriedBy, cX12_carriedBy, 4, (some .int), (13, 1, 1, 11), (0, 0, 0, 0), [])
def mh_X12_carriedSet : MT := (yX12_carriedSet, cX12_carriedSet, 3, (some .int), (13, 1, 0, 11), (0, 0, 0, 0), [])
def mh_X12_city : MT := (yX12_city, cX12_city, 2, (some .int), (13, 1, 0, 11), (0, 0, 0, 0), [])
def mh_X12_clears : MT := (yX12_clears, cX12_clears, 2, none, (13, 1, 0, 11), (0, 0, 0, 0), [])
def mh_X12_code : MT := (yX12_code, cX12_code, 4, none, (13, 1, 3, 11), (0, 0, 0, 0), [])
def mh_X12_count : MT := (yX12_count, cX12_count, 2, (some .int), (13, 1, 1, 11), (0, 0, 0, 0), [])
def mh_X12_cover : MT := (yX12_cover, cX12_cover, 4, (some .int), (13, 1, 1, 11), (0, 0, 0, 0), [])
def mh_X12_covering : MT := (yX12_covering, cX12_covering, 1, (some .int), (13, 1, 0, 11), (0, 0, 0, 0), [])
def mh_X12_day : MT := (yX12_day, cX12_day, 2, none, (13, 1, 0, 11), (0, 0, 0, 0), [])
def mh_X12_days : MT := (yX12_days, cX12_days, 2, (some .int), (13, 1, 1, 11), (0, 0, 0, 0), [])
def mh_X12_does : MT := (yX12_does, cX12_does, 6, (some .int), (13, 1, 4, 11), (0, 0, 0, 0), [])
def mh_X12_draw : MT := (yX12_draw, cX12_draw, 2, (some .int), (13, 1, 1, 11), (0, 0, 0, 0), [])
def mh_X12_drawPerson : MT := (yX12_drawPerson, cX12_drawPerson, 4, none, (13, 1, 1, 11), (0, 0, 0, 0), [])
def mh_X12_drawn : MT := (yX12_drawn, cX12_drawn, 3, (some .int), (13, 1, 2, 11), (0, 0, 0, 0), [])
def mh_X12_draws : MT := (yX12_draws, cX12_draws, 5, (some .int), (13, 1, 2, 11), (0, 0, 0, 0), [])
def mh_X12_end : MT := (yX12_end, cX12_end, 2, (some .boolean), (13, 1, 1, 11), (0, 0, 0, 0), [])
def mh_X12_fault : MT := (yX12_fault, cX12_fault, 1, (some .int), (13, 1, 0, 11), (0, 0, 0, 0), [])
def mh_X12_feed : MT := (yX12_feed, cX12_feed, 6, (some .int), (13, 1, 5, 11), (0, 0, 0, 0), [])
def mh_X12_find : MT := (yX12_find, cX12_find, 4, (some .int), (13, 1, 2, 11), (0, 0, 0, 0), [])
def mh_X12_firstOf : MT := (yX12_firstOf, cX12_firstOf, 2, (some .int), (13, 0, 1, 11), (0, 0, 0, 0), [])
def mh_X12_fits : MT := (yX12_fits, cX12_fits, 4, (some .int), (13, 1, 3, 11), (0, 0, 0, 0), [])
def mh_X12_fitting : MT := (yX12_fitting, cX12_fitting, 5, (some .int), (13, 1, 2, 11), (0, 0, 0, 0), [])
def mh_X12_four : MT := (yX12_four, cX12_four, 3, none, (13, 1, 1, 11), (0, 0, 0, 0), [])
def mh_X12_fresh : MT := (yX12_fresh, cX12_fresh, 2, (some .boolean), (13, 1, 1, 11), (0, 0, 0, 0), [])
def mh_X12_go : MT := (yX12_go, cX12_go, 3, (some .int), (13, 1, 2, 11), (0, 0, 0, 0), [])
def mh_X12_goesOn : MT := (yX12_goesOn, cX12_goesOn, 3, (some .int), (13, 1, 1, 11), (0, 0, 0, 0), [])
def mh_X12_greater : MT := (yX12_greater, cX12_greater, 2, (some .int), (13, 0, 2, 11), (0, 0, 0, 0), [])
def mh_X12_hasAll : MT := (yX12_hasAll, cX12_hasAll, 3, (some .boolean), (13, 1, 2, 11), (0, 0, 0, 0), [])
def mh_X12_image : MT := (yX12_image, cX12_image, 3, (some .boolean), (13, 1, 1, 11), (0, 0, 0, 0), [])
def mh_X12_isCarried : MT := (yX12_isCarried, cX12_isCarried, 2, (some .boolean), (13, 1, 1, 11), (0, 0, 0, 0), [])
def mh_X12_isCover : MT := (yX12_isCover, cX12_isCover, 6, (some .boolean), (13, 1, 2, 11), (0, 0, 0, 0), [])
def mh_X12_isDigit : MT := (yX12_isDigit, cX12_isDigit, 1, (some .boolean), (13, 0, 1, 11), (0, 0, 0, 0), [])
def mh_X12_isFast : MT := (yX12_isFast, cX12_isFast, 1, (some .boolean), (13, 1, 0, 11), (0, 0, 0, 0), [])
def mh_X12_isFined : MT := (yX12_isFined, cX12_isFined, 2, (some .boolean), (13, 1, 1, 11), (0, 0, 0, 0), [])
def mh_X12_isFit : MT := (yX12_isFit, cX12_isFit, 3, (some .boolean), (13, 1, 2, 11), (0, 0, 0, 0), [])
def mh_X12_isIn : MT := (yX12_isIn, cX12_isIn, 3, (some .boolean), (13, 0, 3, 11), (0, 0, 0, 0), [])
def mh_X12_isLeaf : MT := (yX12_isLeaf, cX12_isLeaf, 6, (some .boolean), (13, 1, 4, 11), (0, 0, 0, 0), [])
def mh_X12_isName : MT := (yX12_isName, cX12_isName, 3, (some .boolean), (13, 1, 0, 11), (0, 0, 0, 0), [])
def mh_X12_isNear : MT := (yX12_isNear, cX12_isNear, 3, (some .boolean), (13, 1, 2, 11), (0, 0, 0, 0), [])
def mh_X12_isPerson : MT := (yX12_isPerson, cX12_isPerson, 2, (some .boolean), (13, 1, 1, 11), (0, 0, 0, 0), [])
def mh_X12_isPlace : MT := (yX12_isPlace, cX12_isPlace, 2, (some .boolean), (13, 1, 1, 11), (0, 0, 0, 0), [])
def mh_X12_isSaid : MT := (yX12_isSaid, cX12_isSaid, 5, (some .boolean), (13, 1, 1, 11), (0, 0, 0, 0), [])
def mh_X12_isSaying : MT := (yX12_isSaying, cX12_isSaying, 2, (some .boolean), (13, 1, 1, 11), (0, 0, 0, 0), [])
def mh_X12_isSign : MT := (yX12_isSign, cX12_isSign, 2, (some .boolean), (13, 1, 1, 11), (0, 0, 0, 0), [])
def mh_X12_isSmall : MT := (yX12_isSmall, cX12_isSmall, 1, (some .boolean), (13, 0, 1, 11), (0, 0, 0, 0), [])
def mh_X12_isSpoken : MT := (yX12_isSpoken, cX12_isSpoken, 4, (some .boolean), (13, 1, 1, 11), (0, 0, 0, 0), [])
def mh_X12_isThing : MT := (yX12_isThing, cX12_isThing, 2, (some .boolean), (13, 1, 1, 11), (0, 0, 0, 0), [])
def mh_X12_isWord : MT := (yX12_isWord, cX12_isWord, 3, (some .boolean), (13, 1, 1, 11), (0, 0, 0, 0), [])
def mh_X12_joins : MT := (yX12_joins, cX12_joins, 2, none, (13, 1, 1, 11), (0, 0, 0, 0), [])
def mh_X12_keep : MT := (yX12_keep, cX12_keep, 2, none, (13, 1, 0, 11), (0, 0, 0, 0), [])
def mh_X12_lays : MT := (yX12_lays, cX12_lays, 2, none, (13, 1, 1, 11), (0, 0, 0, 0), [])
def mh_X12_leafOf : MT := (yX12_leafOf, cX12_leafOf, 1, (some .int), (13, 1, 0, 11), (0, 0, 0, 0), [])
def mh_X12_learn : MT := (yX12_learn, cX12_learn, 4, (some .int), (13, 1, 2, 11), (0, 0, 0, 0), [])
def mh_X12_learnsOne : MT := (yX12_learnsOne, cX12_learnsOne, 3, none, (13, 1, 2, 11), (0, 0, 0, 0), [])
def mh_X12_lesser : MT := (yX12_lesser, cX12_lesser, 2, (some .int), (13, 0, 2, 11), (0, 0, 0, 0), [])
def mh_X12_lies : MT := (yX12_lies, cX12_lies, 2, (some .int), (13, 1, 1, 11), (0, 0, 0, 0), [])
def mh_X12_line : MT := (yX12_line, cX12_line, 1, (some .boolean), (13, 1, 0, 11), (0, 0, 0, 0), [])
def mh_X12_looksAt : MT := (yX12_looksAt, cX12_looksAt, 3, (some .boolean), (13, 1, 2, 11), (0, 0, 0, 0), [])
def mh_X12_lyingAt : MT := (yX12_lyingAt, cX12_lyingAt, 4, (some .int), (13, 1, 1, 11), (0, 0, 0, 0), [])
def mh_X12_meansAnew : MT := (yX12_meansAnew, cX12_meansAnew, 5, (some .boolean), (13, 1, 1, 11), (0, 0, 0, 0), [])
def mh_X12_meantBy : MT := (yX12_meantBy, cX12_meantBy, 6, (some .int), (13, 1, 2, 11), (0, 0, 0, 0), [])
def mh_X12_name : MT := (yX12_name, cX12_name, 4, (some .int), (13, 1, 2, 11), (0, 0, 0, 0), [])
def mh_X12_namesOne : MT := (yX12_namesOne, cX12_namesOne, 3, none, (13, 1, 2, 11), (0, 0, 0, 0), [])
def mh_X12_news : MT := (yX12_news, cX12_news, 8, (some .int), (13, 1, 1, 11), (0, 0, 0, 0), [])
def mh_X12_next : MT := (yX12_next, cX12_next, 4, none, (13, 1, 0, 11), (0, 0, 0, 0), [])
def mh_X12_nots : MT := (yX12_nots, cX12_nots, 1, none, (13, 1, 0, 11), (0, 0, 0, 0), [])
def mh_X12_now : MT := (yX12_now, cX12_now, 4, (some .int), (13, 1, 1, 11), (0, 0, 0, 0), [])
def mh_X12_octet : MT := (yX12_octet, cX12_octet, 2, (some .int), (13, 1, 1, 11), (0, 0, 0, 0), [])
def mh_X12_odds : MT := (yX12_odds, cX12_odds, 6, (some .int), (13, 1, 3, 11), (0, 0, 0, 0), [])
def mh_X12_once : MT := (yX12_once, cX12_once, 5, (some .boolean), (13, 1, 4, 11), (0, 0, 0, 0), [])
def mh_X12_operand : MT := (yX12_operand, cX12_operand, 5, (some .boolean), (13, 1, 0, 11), (0, 0, 0, 0), [])
def mh_X12_peek : MT := (yX12_peek, cX12_peek, 1, (some .int), (13, 1, 0, 11), (0, 0, 0, 0), [])
def mh_X12_person : MT := (yX12_person, cX12_person, 3, (some .int), (13, 1, 2, 11), (0, 0, 0, 0), [])
def mh_X12_phrase : MT := (yX12_phrase, cX12_phrase, 3, (some .int), (13, 1, 1, 11), (0, 0, 0, 0), [])
def mh_X12_placeOf : MT := (yX12_placeOf, cX12_placeOf, 2, (some .int), (13, 1, 1, 11), (0, 0, 0, 0), [])
def mh_X12_point : MT := (yX12_point, cX12_point, 4, (some .int), (13, 1, 2, 11), (0, 0, 0, 0), [])
def mh_X12_pointsAt : MT := (yX12_pointsAt, cX12_pointsAt, 3, none, (13, 1, 2, 11), (0, 0, 0, 0), [])
def mh_X12_put : MT := (yX12_put, cX12_put, 3, (some .int), (13, 1, 2, 11), (0, 0, 0, 0), [])
def mh_X12_puts : MT := (yX12_puts, cX12_puts, 4, (some .boolean), (13, 1, 3, 11), (0, 0, 0, 0), [])
def mh_X12_putsDown : MT := (yX12_putsDown, cX12_putsDown, 3, none, (13, 1, 2, 11), (0, 0, 0, 0), [])
def mh_X12_readNew : MT := (yX12_readNew, cX12_readNew, 4, (some .boolean), (13, 1, 3, 11), (0, 0, 0, 0), [])
def mh_X12_readPerson : MT := (yX12_readPerson, cX12_readPerson, 2, (some .boolean), (13, 1, 0, 11), (0, 0, 0, 0), [])
def mh_X12_readThing : MT := (yX12_readThing, cX12_readThing, 2, (some .boolean), (13, 1, 0, 11), (0, 0, 0, 0), [])
def mh_X12_readTie : MT := (yX12_readTie, cX12_readTie, 5, (some .boolean), (13, 1, 3, 11), (0, 0, 0, 0), [])
def mh_X12_rest : MT := (yX12_rest, cX12_rest, 6, (some .int), (13, 1, 1, 11), (0, 0, 0, 0), [])
def mh_X12_rested : MT := (yX12_rested, cX12_rested, 2, (some .int), (13, 1, 1, 11), (0, 0, 0, 0), [])
def mh_X12_restore : MT := (yX12_restore, cX12_restore, 3, (some .boolean), (13, 1, 1, 11), (0, 0, 0, 0), [])
def mh_X12_said : MT := (yX12_said, cX12_said, 4, (some .int), (13, 1, 1, 11), (0, 0, 0, 0), [])
def mh_X12_say : MT := (yX12_say, cX12_say, 6, (some .int), (13, 1, 2, 11), (0, 0, 0, 0), [])
def mh_X12_saying : MT := (yX12_saying, cX12_saying, 1, (some .int), (13, 1, 0, 11), (0, 0, 0, 0), [])
def mh_X12_says : MT := (yX12_says, cX12_says, 3, none, (13, 1, 1, 11), (0, 0, 0, 0), [])
def mh_X12_saysAnew : MT := (yX12_saysAnew, cX12_saysAnew, 6, (some .boolean), (13, 1, 1, 11), (0, 0, 0, 0), [])
def mh_X12_sentence : MT := (yX12_sentence, cX12_sentence, 3, (some .int), (13, 1, 0, 11), (0, 0, 0, 0), [])
def mh_X12_show : MT := (yX12_show, cX12_show, 1, (some .int), (13, 1, 0, 11), (0, 0, 0, 0), [])
def mh_X12_sign : MT := (yX12_sign, cX12_sign, 2, (some .boolean), (13, 1, 1, 11), (0, 0, 0, 0), [])
def mh_X12_slip : MT := (yX12_slip, cX12_slip, 9, (some .int), (13, 1, 3, 11), (0, 0, 0, 0), [])
def mh_X12_spells : MT := (yX12_spells, cX12_spells, 4, none, (13, 1, 1, 11), (0, 0, 0, 0), [])
def mh_X12_spoken : MT := (yX12_spoken, cX12_spoken, 7, (some .int), (13, 1, 0, 11), (0, 0, 0, 0), [])
def mh_X12_surely : MT := (yX12_surely, cX12_surely, 1, (some .int), (13, 1, 0, 11), (0, 0, 0, 0), [])
def mh_X12_taken : MT := (yX12_taken, cX12_taken, 2, none, (13, 1, 1, 11), (0, 0, 0, 0), [])
def mh_X12_takes : MT := (yX12_takes, cX12_takes, 3, (some .boolean), (13, 1, 2, 11), (0, 0, 0, 0), [])
def mh_X12_takesMarks : MT := (yX12_takesMarks, cX12_takesMarks, 4, (some .boolean), (13, 1, 1, 11), (0, 0, 0, 0), [])
def mh_X12_takesName : MT := (yX12_takesName, cX12_takesName, 3, (some .boolean), (13, 1, 2, 11), (0, 0, 0, 0), [])
def mh_X12_thing : MT := (yX12_thing, cX12_thing, 3, (some .int), (13, 1, 2, 11), (0, 0, 0, 0), [])
def mh_X12_throwsIf : MT := (yX12_throwsIf, cX12_throwsIf, 2, (some .boolean), (13, 1, 1, 11), (0, 0, 0, 0), [])
def mh_X12_told : MT := (yX12_told, cX12_told, 2, (some .int), (13, 1, 1, 11), (0, 0, 0, 0), [])
def mh_X12_tries : MT := (yX12_tries, cX12_tries, 2, none, (13, 1, 0, 11), (0, 0, 0, 0), [])
def mh_X12_twin : MT := (yX12_twin, cX12_twin, 4, (some .int), (13, 1, 2, 11), (0, 0, 0, 0), [])
def mh_X12_twinsOf : MT := (yX12_twinsOf, cX12_twinsOf, 3, (some .int), (13, 1, 2, 11), (0, 0, 0, 0), [])
def mh_X12_undo : MT := (yX12_undo, cX12_undo, 2, (some .int), (13, 1, 0, 11), (0, 0, 0, 0), [])
def mh_X12_whyAsk : MT := (yX12_whyAsk, cX12_whyAsk, 4, (some .int), (13, 1, 3, 11), (0, 0, 0, 0), [])
def mh_X12_whyLearn : MT := (yX12_whyLearn, cX12_whyLearn, 3, (some .int), (13, 1, 2, 11), (0, 0, 0, 0), [])
def mh_X12_whyName : MT := (yX12_whyName, cX12_whyName, 3, (some .int), (13, 1, 2, 11), (0, 0, 0, 0), [])
def mh_X12_whyPoint : MT := (yX12_whyPoint, cX12_whyPoint, 3, (some .int), (13, 1, 2, 11), (0, 0, 0, 0), [])
def mh_X1_find : MT := (yX1_find, cX1_find, 5, (some .int), (2, 1, 1, 1), (0, 0, 0, 0), [])
def mh_X1_has : MT := (yX1_has, cX1_has, 3, (some .boolean), (2, 1, 2, 1), (0, 0, 0, 0), [])
def mh_X1_hasMarks : MT := (yX1_hasMarks, cX1_hasMarks, 2, (some .boolean), (2, 1, 1, 1), (0, 0, 0, 0), [])
def mh_X1_isForeign : MT := (yX1_isForeign, cX1_isForeign, 2, (some .boolean), (2, 1, 1, 1), (0, 0, 0, 0), [])
def mh_X1_nameOf : MT := (yX1_nameOf, cX1_nameOf, 3, (some .long), (2, 1, 2, 1), (0, 0, 0, 0), [])
def mh_X1_read : MT := (yX1_read, cX1_read, 4, (some .int), (2, 1, 1, 1), (0, 0, 0, 0), [])
def mh_X1_readLine : MT := (yX1_readLine, cX1_readLine, 3, none, (2, 1, 1, 1), (0, 0, 0, 0), [])
def mh_X1_readNew : MT := (yX1_readNew, cX1_readNew, 4, none, (2, 1, 2, 1), (0, 0, 0, 0), [])
def mh_X1_readPair : MT := (yX1_readPair, cX1_readPair, 6, none, (2, 1, 3, 1), (0, 0, 0, 0), [])
def mh_X1_readPerson : MT := (yX1_readPerson, cX1_readPerson, 3, none, (2, 1, 2, 1), (0, 0, 0, 0), [])
def mh_X1_readSetting : MT := (yX1_readSetting, cX1_readSetting, 3, none, (2, 1, 2, 1), (0, 0, 0, 0), [])
def mh_X1_toldHere : MT := (yX1_toldHere, cX1_toldHere, 4, (some .int), (2, 1, 2, 1), (0, 0, 0, 0), [])
def mh_X2_countFitting : MT := (yX2_countFitting, cX2_countFitting, 5, none, (3, 1, 3, 2), (0, 0, 0, 0), [])
def mh_X2_hear : MT := (yX2_hear, cX2_hear, 7, (some .int), (3, 1, 2, 2), (0, 0, 0, 0), [])
def mh_X2_isJustSo : MT := (yX2_isJustSo, cX2_isJustSo, 5, (some .boolean), (3, 0, 4, 2), (0, 0, 0, 0), [])
def mh_X2_isTold : MT := (yX2_isTold, cX2_isTold, 4, (some .boolean), (3, 0, 2, 2), (0, 0, 0, 0), [])
def mh_X2_mostTelling : MT := (yX2_mostTelling, cX2_mostTelling, 7, (some .int), (3, 1, 2, 2), (0, 0, 0, 0), [])
def mh_X3_draw : MT := (yX3_draw, cX3_draw, 2, (some .int), (4, 1, 1, 3), (0, 0, 0, 0), [])
def mh_X3_dropFirst : MT := (yX3_dropFirst, cX3_dropFirst, 3, none, (4, 0, 2, 3), (0, 0, 0, 0), [])
def mh_X3_live : MT := (yX3_live, cX3_live, 6, (some .int), (4, 1, 2, 3), (0, 0, 0, 0), [])
def mh_X3_takeTurn : MT := (yX3_takeTurn, cX3_takeTurn, 3, none, (4, 1, 2, 3), (0, 0, 0, 0), [])
def mh_X4_clear : MT := (yX4_clear, cX4_clear, 1, none, (5, 1, 0, 4), (0, 0, 0, 0), [])
def mh_X4_keep : MT := (yX4_keep, cX4_keep, 1, none, (5, 1, 0, 4), (0, 0, 0, 0), [])
def mh_X4_prepare : MT := (yX4_prepare, cX4_prepare, 4, none, (5, 1, 1, 4), (0, 0, 0, 0), [])
def mh_X4_slot : MT := (yX4_slot, cX4_slot, 2, (some .int), (5, 1, 1, 4), (0, 0, 0, 0), [])
def mh_X4_takeBack : MT := (yX4_takeBack, cX4_takeBack, 3, (some .int), (5, 1, 1, 4), (0, 0, 0, 0), [])
def mh_X5_hasTwins : MT := (yX5_hasTwins, cX5_hasTwins, 4, (some .boolean), (6, 0, 3, 99), (0, 0, 0, 0), [])
def mh_X5_hearersOf : MT := (yX5_hearersOf, cX5_hearersOf, 4, (some .int), (6, 0, 2, 99), (0, 0, 0, 0), [])
def mh_X5_hoursOfNews : MT := (yX5_hoursOfNews, cX5_hoursOfNews, 5, (some .int), (6, 0, 2, 99), (0, 0, 0, 0), [])
def mh_X5_isShorter : MT := (yX5_isShorter, cX5_isShorter, 2, (some .boolean), (6, 0, 2, 99), (0, 0, 0, 0), [])
def mh_X5_leastCant : MT := (yX5_leastCant, cX5_leastCant, 8, (some .int), (6, 0, 5, 99), (0, 0, 0, 0), [])
def mh_X5_leastCover : MT := (yX5_leastCover, cX5_leastCover, 6, (some .int), (6, 0, 2, 99), (0, 0, 0, 0), [])
def mh_X5_leastSaying : MT := (yX5_leastSaying, cX5_leastSaying, 8, (some .int), (6, 0, 3, 99), (0, 0, 0, 0), [])
def mh_X5_slips : MT := (yX5_slips, cX5_slips, 6, (some .int), (6, 0, 3, 99), (0, 0, 0, 0), [])
def mh_X5_toldBy : MT := (yX5_toldBy, cX5_toldBy, 4, (some .int), (6, 0, 2, 99), (0, 0, 0, 0), [])
def mh_X5_twinOf : MT := (yX5_twinOf, cX5_twinOf, 4, (some .int), (6, 0, 4, 99), (0, 0, 0, 0), [])
def mh_X6_firstSaid : MT := (yX6_firstSaid, cX6_firstSaid, 4, (some .int), (7, 1, 2, 5), (0, 0, 0, 0), [])
def mh_X6_giveMarks : MT := (yX6_giveMarks, cX6_giveMarks, 7, (some .boolean), (7, 1, 2, 5), (0, 0, 0, 0), [])
def mh_X6_havingMark : MT := (yX6_havingMark, cX6_havingMark, 5, (some .int), (7, 0, 3, 5), (0, 0, 0, 0), [])
def mh_X6_leastOwning : MT := (yX6_leastOwning, cX6_leastOwning, 4, (some .int), (7, 1, 2, 5), (0, 0, 0, 0), [])
def mh_X6_sayThings : MT := (yX6_sayThings, cX6_sayThings, 6, (some .boolean), (7, 1, 2, 5), (0, 0, 0, 0), [])
def mh_X6_settle : MT := (yX6_settle, cX6_settle, 8, (some .int), (7, 1, 2, 5), (0, 0, 0, 0), [])
def mh_X7_allCarried : MT := (yX7_allCarried, cX7_allCarried, 3, (some .int), (8, 1, 0, 6), (0, 0, 0, 0), [])
def mh_X7_allCoins : MT := (yX7_allCoins, cX7_allCoins, 3, (some .int), (8, 1, 0, 6), (0, 0, 0, 0), [])
def mh_X7_areTogether : MT := (yX7_areTogether, cX7_areTogether, 3, (some .boolean), (8, 1, 2, 6), (0, 0, 0, 0), [])
def mh_X7_begin : MT := (yX7_begin, cX7_begin, 3, none, (8, 1, 1, 6), (0, 0, 0, 0), [])
def mh_X7_callByName : MT := (yX7_callByName, cX7_callByName, 4, (some .int), (8, 1, 2, 6), (0, 0, 0, 0), [])
def mh_X7_carriedBy : MT := (yX7_carriedBy, cX7_carriedBy, 4, (some .int), (8, 1, 1, 6), (0, 0, 0, 0), [])
def mh_X7_copyFrom : MT := (yX7_copyFrom, cX7_copyFrom, 2, none, (8, 1, 1, 6), (0, 0, 0, 0), [])
def mh_X7_daysLeft : MT := (yX7_daysLeft, cX7_daysLeft, 1, (some .int), (8, 1, 0, 6), (0, 0, 0, 0), [])
def mh_X7_drop : MT := (yX7_drop, cX7_drop, 3, (some .int), (8, 1, 2, 6), (0, 0, 0, 0), [])
def mh_X7_fitting : MT := (yX7_fitting, cX7_fitting, 6, (some .int), (8, 1, 3, 6), (0, 0, 0, 0), [])
def mh_X7_has : MT := (yX7_has, cX7_has, 3, (some .boolean), (8, 1, 2, 6), (0, 0, 0, 0), [])
def mh_X7_isFast : MT := (yX7_isFast, cX7_isFast, 1, (some .boolean), (8, 1, 0, 6), (0, 0, 0, 0), [])
def mh_X7_isFitting : MT := (yX7_isFitting, cX7_isFitting, 4, (some .boolean), (8, 1, 3, 6), (0, 0, 0, 0), [])
def mh_X7_isLying : MT := (yX7_isLying, cX7_isLying, 2, (some .boolean), (8, 1, 1, 6), (0, 0, 0, 0), [])
def mh_X7_liesBefore : MT := (yX7_liesBefore, cX7_liesBefore, 3, (some .boolean), (8, 1, 2, 6), (0, 0, 0, 0), [])
def mh_X7_lyingAt : MT := (yX7_lyingAt, cX7_lyingAt, 4, (some .int), (8, 1, 1, 6), (0, 0, 0, 0), [])
def mh_X7_passDay : MT := (yX7_passDay, cX7_passDay, 2, none, (8, 1, 0, 6), (0, 0, 0, 0), [])
def mh_X7_passDays : MT := (yX7_passDays, cX7_passDays, 4, (some .int), (8, 1, 1, 6), (0, 0, 0, 0), [])
def mh_X7_placeOf : MT := (yX7_placeOf, cX7_placeOf, 3, (some .int), (8, 1, 1, 6), (0, 0, 0, 0), [])
def mh_X7_pointAt : MT := (yX7_pointAt, cX7_pointAt, 4, (some .int), (8, 1, 2, 6), (0, 0, 0, 0), [])
def mh_X7_request : MT := (yX7_request, cX7_request, 6, (some .int), (8, 1, 3, 6), (0, 0, 0, 0), [])
def mh_X7_study : MT := (yX7_study, cX7_study, 4, (some .int), (8, 1, 2, 6), (0, 0, 0, 0), [])
def mh_X7_walk : MT := (yX7_walk, cX7_walk, 3, (some .int), (8, 1, 2, 6), (0, 0, 0, 0), [])
def mh_X8_add : MT := (yX8_add, cX8_add, 4, none, (9, 1, 3, 7), (0, 0, 0, 0), [])
def mh_X8_holds : MT := (yX8_holds, cX8_holds, 5, (some .boolean), (9, 1, 3, 7), (0, 0, 0, 0), [])
def mh_X8_isSo : MT := (yX8_isSo, cX8_isSo, 3, (some .boolean), (9, 0, 3, 7), (0, 0, 0, 0), [])
def mh_X8_readAll : MT := (yX8_readAll, cX8_readAll, 5, none, (9, 1, 3, 7), (0, 0, 0, 0), [])
def mh_X8_readCondition : MT := (yX8_readCondition, cX8_readCondition, 5, none, (9, 1, 3, 7), (0, 0, 0, 0), [])
def mh_X8_readOne : MT := (yX8_readOne, cX8_readOne, 6, none, (9, 1, 3, 7), (0, 0, 0, 0), [])
def mh_X8_readPlain : MT := (yX8_readPlain, cX8_readPlain, 5, none, (9, 1, 3, 7), (0, 0, 0, 0), [])
def mh_X8_sortBehind : MT := (yX8_sortBehind, cX8_sortBehind, 1, (some .int), (9, 0, 1, 7), (0, 0, 0, 0), [])
def mh_X8_thingsIn : MT := (yX8_thingsIn, cX8_thingsIn, 6, (some .int), (9, 1, 1, 7), (0, 0, 0, 0), [])
def mh_X8_thingsOfPart : MT := (yX8_thingsOfPart, cX8_thingsOfPart, 5, (some .int), (9, 1, 2, 7), (0, 0, 0, 0), [])
def mh_X9_append : MT := (yX9_append, cX9_append, 3, none, (10, 1, 1, 8), (0, 0, 0, 0), [])
def mh_X9_at : MT := (yX9_at, cX9_at, 2, (some .int), (10, 1, 1, 8), (0, 0, 0, 0), [])
def PH2 : List MT := [mh_J3_checkIndex_8e157, mh_J6_bitCount_0f7a4, mh_J6_lowestOneBit_0f7a4, mh_J6_numberOfTrailingZeros_0f7a4, mh_J9_floorMod_7cf53, mh_J9_max_7cf53, mh_J9_min_7cf53, mh_X0_because, mh_X0_judge, mh_X0_liveDays, mh_X0_liveLine, mh_X0_read, mh_X0_readAct, mh_X0_readLine, mh_X0_readSaying, mh_X0_sortBehind, mh_X0_tell, mh_X10_behindBlanks, mh_X10_fail, mh_X10_isDigit, mh_X10_isLetter, mh_X10_isSpelled, mh_X10_isWord, mh_X10_open, mh_X10_plainWord, mh_X10_readRun, mh_X10_readToken, mh_X10_step, mh_X10_takeEnd, mh_X10_takeNumber, mh_X10_takeSign, mh_X10_wordIn, mh_X10_wordNumber, mh_X11_ask, mh_X11_bitAt, mh_X11_book, mh_X11_byteAt, mh_X11_cant, mh_X11_canting, mh_X11_city, mh_X11_closeText, mh_X11_count, mh_X11_cover, mh_X11_covering, mh_X11_days, mh_X11_drawn, mh_X11_end, mh_X11_fault, mh_X11_feed, mh_X11_firstBit, mh_X11_fits, mh_X11_go, mh_X11_greatestShared, mh_X11_image, mh_X11_kept, mh_X11_keptDays, mh_X11_learn, mh_X11_lies, mh_X11_name, mh_X11_news, mh_X11_now, mh_X11_odds, mh_X11_person, mh_X11_phrase, mh_X11_point, mh_X11_put, mh_X11_rest, mh_X11_rested, mh_X11_restore, mh_X11_said, mh_X11_say, mh_X11_saying, mh_X11_sentence, mh_X11_show, mh_X11_slip, mh_X11_spellByte, mh_X11_spellName, mh_X11_spellRoundabout, mh_X11_spoken, mh_X11_surely, mh_X11_thing, mh_X11_told, mh_X11_twin, mh_X11_undo, mh_X12_areApart, mh_X12_ask, mh_X12_asks, mh_X12_back, mh_X12_bad, mh_X12_behind, mh_X12_bitOf, mh_X12_bits, mh_X12_book, mh_X12_bookLine, mh_X12_byteAt, mh_X12_cant, mh_X12_canting, mh_X12_carriedBy, mh_X12_carriedSet, mh_X12_city, mh_X12_clears, mh_X12_code, mh_X12_count, mh_X12_cover, mh_X12_covering, mh_X12_day, mh_X12_days, mh_X12_does, mh_X12_draw, mh_X12_drawPerson, mh_X12_drawn, mh_X12_draws, mh_X12_end, mh_X12_fault, mh_X12_feed, mh_X12_find, mh_X12_firstOf, mh_X12_fits, mh_X12_fitting, mh_X12_four, mh_X12_fresh, mh_X12_go, mh_X12_goesOn, mh_X12_greater, mh_X12_hasAll, mh_X12_image, mh_X12_isCarried, mh_X12_isCover, mh_X12_isDigit, mh_X12_isFast, mh_X12_isFined, mh_X12_isFit, mh_X12_isIn, mh_X12_isLeaf, mh_X12_isName, mh_X12_isNear, mh_X12_isPerson, mh_X12_isPlace, mh_X12_isSaid, mh_X12_isSaying, mh_X12_isSign, mh_X12_isSmall, mh_X12_isSpoken, mh_X12_isThing, mh_X12_isWord, mh_X12_joins, mh_X12_keep, mh_X12_lays, mh_X12_leafOf, mh_X12_learn, mh_X12_learnsOne, mh_X12_lesser, mh_X12_lies, mh_X12_line, mh_X12_looksAt, mh_X12_lyingAt, mh_X12_meansAnew, mh_X12_meantBy, mh_X12_name, mh_X12_namesOne, mh_X12_news, mh_X12_next, mh_X12_nots, mh_X12_now, mh_X12_octet, mh_X12_odds, mh_X12_once, mh_X12_operand, mh_X12_peek, mh_X12_person, mh_X12_phrase, mh_X12_placeOf, mh_X12_point, mh_X12_pointsAt, mh_X12_put, mh_X12_puts, mh_X12_putsDown, mh_X12_readNew, mh_X12_readPerson, mh_X12_readThing, mh_X12_readTie, mh_X12_rest, mh_X12_rested, mh_X12_restore, mh_X12_said, mh_X12_say, mh_X12_saying, mh_X12_says, mh_X12_saysAnew, mh_X12_sentence, mh_X12_show, mh_X12_sign, mh_X12_slip, mh_X12_spells, mh_X12_spoken, mh_X12_surely, mh_X12_taken, mh_X12_takes, mh_X12_takesMarks, mh_X12_takesName, mh_X12_thing, mh_X12_throwsIf, mh_X12_told, mh_X12_tries, mh_X12_twin, mh_X12_twinsOf, mh_X12_undo, mh_X12_whyAsk, mh_X12_whyLearn, mh_X12_whyName, mh_X12_whyPoint, mh_X1_find, mh_X1_has, mh_X1_hasMarks, mh_X1_isForeign, mh_X1_nameOf, mh_X1_read, mh_X1_readLine, mh_X1_readNew, mh_X1_readPair, mh_X1_readPerson, mh_X1_readSetting, mh_X1_toldHere, mh_X2_countFitting, mh_X2_hear, mh_X2_isJustSo, mh_X2_isTold, mh_X2_mostTelling, mh_X3_draw, mh_X3_dropFirst, mh_X3_live, mh_X3_takeTurn, mh_X4_clear, mh_X4_keep, mh_X4_prepare, mh_X4_slot, mh_X4_takeBack, mh_X5_hasTwins, mh_X5_hearersOf, mh_X5_hoursOfNews, mh_X5_isShorter, mh_X5_leastCant, mh_X5_leastCover, mh_X5_leastSaying, mh_X5_slips, mh_X5_toldBy, mh_X5_twinOf, mh_X6_firstSaid, mh_X6_giveMarks, mh_X6_havingMark, mh_X6_leastOwning, mh_X6_sayThings, mh_X6_settle, mh_X7_allCarried, mh_X7_allCoins, mh_X7_areTogether, mh_X7_begin, mh_X7_callByName, mh_X7_carriedBy, mh_X7_copyFrom, mh_X7_daysLeft, mh_X7_drop, mh_X7_fitting, mh_X7_has, mh_X7_isFast, mh_X7_isFitting, mh_X7_isLying, mh_X7_liesBefore, mh_X7_lyingAt, mh_X7_passDay, mh_X7_passDays, mh_X7_placeOf, mh_X7_pointAt, mh_X7_request, mh_X7_study, mh_X7_walk, mh_X8_add, mh_X8_holds, mh_X8_isSo, mh_X8_readAll, mh_X8_readCondition, mh_X8_readOne, mh_X8_readPlain, mh_X8_sortBehind, mh_X8_thingsIn, mh_X8_thingsOfPart, mh_X9_append, mh_X9_at]
def OW2 : List String := ["NounFast", "NounFast$Book", "NounFast$City", "NounFast$Clue", "NounFast$Dice", "NounFast$History", "NounFast$Minds", "NounFast$Rest", "NounFast$Scene", "NounFast$Sentence", "NounFast$Tape", "NounFast$Text", "NounFastLaw", "NounFastModel", "java/io/Serializable", "java/lang/CharSequence", "java/lang/Comparable", "java/lang/Integer", "java/lang/Math", "java/lang/String", "java/lang/StringLatin1", "java/lang/StringUTF16", "java/lang/System", "java/lang/constant/Constable", "java/lang/constant/ConstantDesc", "jdk/internal/util/Preconditions"]
def rt2_0 : List (Nat × RES) := [(10, (0, 10, 0, 0)), (21, (0, 10, 1, 0)), (25, (2, 6, 10, 0)), (27, (2, 1, 9, 0)), (33, (0, 10, 2, 0)), (37, (0, 6, 0, 0)), (41, (0, 10, 3, 0)), (47, (0, 10, 4, 0)), (54, (0, 10, 5, 0)), (61, (0, 10, 6, 0)), (68, (0, 10, 7, 0)), (75, (0, 10, 8, 0)), (79, (0, 10, 9, 0)), (83, (2, 7, 6, 0)), (85, (0, 10, 10, 0)), (89, (0, 10, 11, 0)), (93, (0, 10, 12, 0)), (97, (0, 10, 13, 0)), (101, (0, 10, 14, 0)), (104, (0, 10, 15, 0)), (107, (0, 10, 16, 0)), (110, (0, 10, 17, 0)), (113, (0, 8, 1, 0)), (116, (4, 286, 0, 0)), (120, (4, 23, 0, 0)), (123, (4, 216, 0, 0)), (127, (4, 40, 0, 0)), (130, (0, 9, 9, 0)), (133, (0, 9, 10, 0)), (136, (4, 256, 0, 0)), (139, (4, 232, 0, 0)), (142, (4, 263, 0, 0)), (153, (4, 271, 0, 0)), (157, (0, 6, 2, 0)), (161, (0, 1, 2, 0)), (164, (0, 6, 3, 0)), (171, (0, 6, 4, 0)), (174, (0, 6, 5, 0)), (177, (0, 6, 6, 0)), (180, (4, 258, 0, 0)), (183, (4, 214, 0, 0)), (189, (4, 268, 0, 0)), (192, (0, 6, 7, 0)), (195, (4, 264, 0, 0)), (199, (4, 254, 0, 0)), (203, (4, 253, 0, 0)), (206, (0, 6, 8, 0)), (209, (0, 6, 9, 0)), (212, (0, 1, 0, 0)), (215, (4, 4, 0, 0)), (221, (4, 234, 0, 0)), (225, (4, 275, 0, 0)), (228, (4, 54, 0, 0)), (231, (4, 213, 0, 0)), (234, (4, 273, 0, 0)), (238, (4, 257, 0, 0)), (241, (4, 272, 0, 0)), (244, (4, 261, 0, 0)), (247, (4, 274, 0, 0)), (250, (4, 270, 0, 0)), (253, (4, 55, 0, 0)), (256, (4, 236, 0, 0)), (260, (4, 262, 0, 0)), (263, (4, 266, 0, 0)), (266, (4, 243, 0, 0)), (272, (4, 1, 0, 0)), (277, (4, 246, 0, 0)), (287, (4, 244, 0, 0)), (290, (4, 52, 0, 0)), (293, (4, 242, 0, 0)), (297, (4, 224, 0, 0)), (301, (0, 2, 1, 0)), (304, (0, 2, 2, 0)), (307, (4, 241, 0, 0)), (311, (4, 252, 0, 0)), (314, (0, 5, 0, 0)), (317, (4, 239, 0, 0)), (320, (4, 77, 0, 0)), (323, (4, 215, 0, 0)), (327, (4, 76, 0, 0)), (331, (0, 3, 0, 0)), (334, (4, 230, 0, 0)), (337, (4, 259, 0, 0)), (340, (4, 11, 0, 0)), (343, (4, 8, 0, 0)), (346, (4, 233, 0, 0)), (349, (4, 16, 0, 0)), (353, (4, 280, 0, 0)), (357, (4, 28, 0, 0)), (360, (0, 7, 5, 0)), (363, (4, 284, 0, 0)), (366, (4, 34, 0, 0)), (369, (4, 75, 0, 0)), (372, (4, 3, 0, 0))]
def rt2_1 : List (Nat × RES) := [(9, (0, 0, 0, 0)), (15, (0, 0, 1, 0)), (18, (0, 0, 2, 0)), (21, (0, 0, 3, 0)), (24, (0, 0, 4, 0)), (28, (0, 0, 5, 0)), (31, (0, 9, 6, 0)), (36, (4, 13, 0, 0)), (40, (4, 30, 0, 0)), (44, (4, 22, 0, 0)), (48, (4, 222, 0, 0)), (54, (4, 18, 0, 0)), (57, (4, 27, 0, 0)), (60, (4, 29, 0, 0)), (64, (4, 12, 0, 0)), (67, (4, 24, 0, 0)), (71, (4, 15, 0, 0)), (75, (4, 14, 0, 0)), (79, (4, 10, 0, 0)), (83, (0, 6, 7, 0)), (88, (4, 253, 0, 0)), (91, (4, 275, 0, 0)), (94, (4, 273, 0, 0)), (98, (4, 7, 0, 0)), (101, (4, 257, 0, 0)), (104, (4, 272, 0, 0)), (107, (4, 261, 0, 0)), (110, (4, 274, 0, 0)), (113, (4, 9, 0, 0)), (116, (4, 260, 0, 0)), (119, (4, 270, 0, 0))]
def rt2_2 : List (Nat × RES) := [(9, (0, 1, 0, 0)), (15, (0, 1, 1, 0)), (19, (0, 1, 2, 0)), (22, (0, 1, 3, 0)), (25, (0, 1, 4, 0)), (28, (0, 1, 5, 0)), (31, (0, 1, 6, 0)), (34, (0, 1, 7, 0)), (38, (0, 1, 8, 0)), (41, (4, 212, 0, 0)), (45, (0, 9, 6, 0)), (50, (4, 18, 0, 0)), (54, (0, 9, 8, 0)), (58, (4, 211, 0, 0)), (62, (4, 217, 0, 0)), (66, (4, 30, 0, 0)), (69, (4, 24, 0, 0)), (73, (4, 218, 0, 0)), (77, (4, 27, 0, 0)), (80, (4, 219, 0, 0)), (84, (4, 221, 0, 0)), (90, (4, 222, 0, 0)), (94, (4, 220, 0, 0)), (97, (4, 29, 0, 0)), (101, (4, 22, 0, 0))]
def rt2_3 : List (Nat × RES) := [(9, (0, 2, 0, 0)), (15, (0, 2, 1, 0)), (19, (0, 2, 2, 0)), (22, (4, 226, 0, 0)), (26, (0, 6, 6, 0)), (31, (4, 287, 0, 0)), (37, (0, 6, 0, 0)), (41, (0, 1, 0, 0)), (46, (4, 225, 0, 0)), (50, (4, 223, 0, 0)), (54, (4, 227, 0, 0)), (58, (0, 8, 1, 0)), (61, (4, 263, 0, 0)), (65, (4, 265, 0, 0)), (69, (4, 5, 0, 0))]
def rt2_4 : List (Nat × RES) := [(9, (0, 3, 0, 0)), (15, (11, 0, 0, 1103515245)), (16, (4, 260, 0, 0)), (22, (0, 6, 0, 0)), (26, (0, 1, 0, 0)), (32, (4, 231, 0, 0)), (36, (4, 269, 0, 0)), (39, (4, 228, 0, 0)), (43, (4, 275, 0, 0)), (47, (4, 257, 0, 0)), (50, (4, 272, 0, 0)), (53, (4, 229, 0, 0)), (56, (4, 274, 0, 0)), (59, (4, 258, 0, 0)), (62, (5, 49, 0, 0)), (65, (4, 261, 0, 0))]
def rt2_5 : List (Nat × RES) := [(9, (2, 6, 10, 0)), (11, (0, 4, 0, 0)), (17, (0, 4, 1, 0)), (21, (0, 4, 2, 0)), (24, (4, 4, 0, 0)), (30, (4, 235, 0, 0)), (34, (0, 6, 0, 0)), (41, (4, 259, 0, 0))]
def rt2_6 : List (Nat × RES) := [(9, (0, 6, 6, 0)), (15, (0, 6, 0, 0)), (19, (0, 1, 2, 0)), (24, (4, 271, 0, 0)), (28, (4, 268, 0, 0)), (31, (4, 240, 0, 0)), (37, (4, 262, 0, 0)), (41, (4, 1, 0, 0)), (46, (5, 49, 0, 0)), (49, (0, 1, 0, 0)), (52, (4, 237, 0, 0)), (56, (4, 246, 0, 0)), (60, (4, 245, 0, 0)), (64, (4, 238, 0, 0))]
def rt2_7 : List (Nat × RES) := [(9, (0, 5, 0, 0)), (15, (0, 5, 1, 0)), (18, (4, 268, 0, 0)), (24, (4, 249, 0, 0)), (28, (5, 49, 0, 0)), (31, (4, 251, 0, 0)), (35, (4, 248, 0, 0)), (38, (0, 6, 0, 0)), (42, (0, 1, 2, 0)), (47, (4, 250, 0, 0)), (51, (4, 247, 0, 0))]
def rt2_8 : List (Nat × RES) := [(9, (0, 6, 1, 0)), (15, (0, 6, 2, 0)), (18, (0, 6, 3, 0)), (21, (0, 6, 4, 0)), (24, (0, 6, 5, 0)), (27, (0, 6, 6, 0)), (30, (0, 6, 7, 0)), (34, (0, 6, 8, 0)), (37, (0, 6, 9, 0)), (40, (0, 6, 0, 0)), (44, (0, 1, 3, 0)), (47, (7, 0, 0, 0)), (53, (0, 1, 4, 0)), (54, (0, 1, 5, 0)), (55, (0, 1, 6, 0)), (56, (4, 212, 0, 0)), (60, (0, 1, 0, 0)), (63, (0, 1, 2, 0)), (66, (4, 265, 0, 0)), (70, (4, 255, 0, 0)), (73, (4, 268, 0, 0)), (77, (4, 262, 0, 0)), (81, (5, 49, 0, 0)), (84, (4, 1, 0, 0)), (89, (4, 267, 0, 0)), (92, (4, 264, 0, 0)), (96, (4, 214, 0, 0)), (100, (4, 2, 0, 0)), (103, (4, 269, 0, 0)), (106, (4, 6, 0, 0))]
def rt2_9 : List (Nat × RES) := [(9, (0, 7, 0, 0)), (15, (0, 7, 1, 0)), (18, (0, 7, 2, 0)), (21, (0, 7, 3, 0)), (24, (0, 7, 4, 0)), (28, (0, 7, 5, 0)), (31, (4, 279, 0, 0)), (35, (4, 22, 0, 0)), (41, (4, 27, 0, 0)), (44, (4, 276, 0, 0)), (48, (4, 281, 0, 0)), (51, (4, 24, 0, 0)), (55, (0, 9, 6, 0)), (58, (4, 18, 0, 0)), (62, (4, 280, 0, 0)), (65, (4, 30, 0, 0)), (68, (4, 282, 0, 0)), (71, (4, 283, 0, 0)), (75, (4, 222, 0, 0)), (81, (4, 29, 0, 0)), (85, (0, 6, 0, 0)), (91, (0, 1, 0, 0)), (94, (4, 285, 0, 0)), (98, (4, 277, 0, 0)), (102, (4, 266, 0, 0)), (105, (4, 271, 0, 0)), (108, (4, 268, 0, 0)), (111, (4, 246, 0, 0)), (117, (0, 1, 2, 0)), (120, (0, 6, 2, 0)), (123, (4, 1, 0, 0)), (128, (4, 278, 0, 0)), (132, (0, 6, 3, 0))]
def rt2_10 : List (Nat × RES) := [(9, (0, 8, 0, 0)), (15, (0, 8, 1, 0))]
def rt2_11 : List (Nat × RES) := [(9, (0, 9, 1, 0)), (15, (0, 9, 2, 0)), (18, (0, 9, 3, 0)), (22, (0, 9, 4, 0)), (26, (0, 9, 5, 0)), (29, (0, 9, 6, 0)), (32, (0, 9, 7, 0)), (35, (0, 9, 8, 0)), (39, (0, 9, 9, 0)), (42, (0, 9, 10, 0)), (45, (0, 9, 0, 0)), (49, (4, 17, 0, 0)), (53, (0, 8, 1, 0)), (58, (4, 6, 0, 0)), (64, (4, 26, 0, 0)), (67, (4, 27, 0, 0)), (70, (4, 287, 0, 0)), (73, (4, 20, 0, 0)), (77, (4, 19, 0, 0)), (80, (4, 25, 0, 0)), (83, (4, 32, 0, 0)), (88, (4, 31, 0, 0)), (101, (4, 21, 0, 0)), (109, (4, 18, 0, 0))]
def rt2_12 : List (Nat × RES) := [(26, (4, 48, 0, 0)), (30, (4, 114, 0, 0)), (31, (4, 46, 0, 0)), (35, (4, 112, 0, 0)), (36, (4, 39, 0, 0)), (40, (4, 99, 0, 0)), (41, (4, 47, 0, 0)), (44, (4, 113, 0, 0)), (50, (4, 200, 0, 0)), (53, (4, 169, 0, 0)), (54, (4, 57, 0, 0)), (58, (4, 152, 0, 0)), (59, (4, 60, 0, 0)), (62, (4, 163, 0, 0)), (63, (4, 51, 0, 0)), (66, (4, 121, 0, 0)), (67, (4, 33, 0, 0)), (70, (4, 85, 0, 0)), (71, (4, 58, 0, 0)), (74, (4, 158, 0, 0)), (75, (4, 64, 0, 0)), (78, (4, 172, 0, 0)), (79, (4, 65, 0, 0)), (82, (4, 174, 0, 0)), (83, (4, 56, 0, 0)), (86, (4, 149, 0, 0)), (87, (4, 44, 0, 0)), (90, (4, 106, 0, 0)), (91, (4, 83, 0, 0)), (94, (4, 206, 0, 0)), (95, (4, 50, 0, 0)), (98, (4, 117, 0, 0)), (99, (4, 70, 0, 0)), (102, (4, 185, 0, 0)), (103, (4, 71, 0, 0)), (106, (4, 186, 0, 0)), (107, (4, 82, 0, 0)), (110, (4, 204, 0, 0)), (114, (4, 192, 0, 0)), (115, (4, 42, 0, 0)), (118, (4, 103, 0, 0)), (119, (4, 43, 0, 0)), (122, (4, 104, 0, 0)), (123, (4, 78, 0, 0)), (126, (4, 194, 0, 0)), (127, (4, 79, 0, 0)), (130, (4, 195, 0, 0)), (131, (4, 73, 0, 0)), (134, (4, 190, 0, 0)), (135, (4, 37, 0, 0)), (139, (4, 95, 0, 0)), (140, (4, 38, 0, 0)), (143, (4, 96, 0, 0)), (144, (4, 66, 0, 0)), (147, (4, 181, 0, 0)), (148, (4, 67, 0, 0)), (151, (4, 182, 0, 0)), (152, (4, 59, 0, 0)), (155, (4, 160, 0, 0)), (156, (4, 63, 0, 0)), (159, (4, 170, 0, 0)), (160, (4, 36, 0, 0)), (163, (4, 94, 0, 0)), (164, (4, 45, 0, 0)), (167, (4, 110, 0, 0)), (168, (4, 61, 0, 0)), (171, (4, 165, 0, 0)), (172, (4, 35, 0, 0)), (175, (4, 92, 0, 0)), (176, (4, 81, 0, 0)), (179, (4, 202, 0, 0)), (180, (4, 72, 0, 0)), (183, (4, 189, 0, 0)), (184, (4, 69, 0, 0)), (187, (4, 184, 0, 0)), (188, (4, 53, 0, 0)), (191, (4, 125, 0, 0)), (192, (4, 68, 0, 0)), (195, (4, 183, 0, 0)), (196, (4, 41, 0, 0)), (199, (4, 102, 0, 0))]
def rt2_13 : List (Nat × RES) := [(1, (0, 11, 0, 0)), (7, (0, 11, 2, 0)), (10, (4, 119, 0, 0)), (14, (0, 11, 1, 0)), (18, (0, 11, 3, 0)), (21, (0, 11, 4, 0)), (24, (0, 11, 5, 0)), (27, (4, 90, 0, 0)), (37, (0, 11, 6, 0)), (41, (0, 11, 7, 0)), (44, (0, 11, 8, 0)), (47, (0, 11, 9, 0)), (51, (0, 11, 10, 0)), (54, (0, 11, 21, 0)), (57, (0, 11, 22, 0)), (60, (0, 11, 33, 0)), (63, (0, 11, 34, 0)), (66, (0, 11, 35, 0)), (69, (0, 11, 37, 0)), (72, (0, 11, 41, 0)), (75, (0, 11, 43, 0)), (78, (0, 11, 49, 0)), (82, (0, 11, 50, 0)), (85, (0, 11, 51, 0)), (88, (0, 11, 52, 0)), (91, (9, 0, 0, 482854658917)), (93, (9, 0, 0, 1835102827)), (95, (9, 0, 0, 499967946343)), (97, (9, 0, 0, 26995)), (99, (9, 0, 0, 123581014175598)), (101, (9, 0, 0, 28832984742848366)), (103, (9, 0, 0, 461414299507)), (105, (9, 0, 0, 1718185573)), (107, (9, 0, 0, 1835627621)), (109, (9, 0, 0, 2002872165)), (111, (9, 0, 0, 1717662580)), (113, (9, 0, 0, 1735353715)), (115, (9, 0, 0, 1634954099)), (117, (9, 0, 0, 474080961907)), (119, (9, 0, 0, 123623812527219)), (121, (9, 0, 0, 1886745715)), (123, (9, 0, 0, 119182682386035)), (125, (9, 0, 0, 6578553)), (127, (9, 0, 0, 28530)), (129, (9, 0, 0, 6385252)), (131, (9, 0, 0, 7237492)), (133, (9, 0, 0, 27973166868030820)), (135, (9, 0, 0, 1819242085)), (137, (9, 0, 0, 6840691)), (139, (9, 0, 0, 24948)), (141, (9, 0, 0, 2003399784)), (143, (9, 0, 0, 469786323827)), (145, (9, 0, 0, 474080961892)), (147, (9, 0, 0, 121450625394034)), (149, (4, 100, 0, 0)), (152, (4, 168, 0, 0)), (156, (0, 11, 12, 0)), (159, (0, 11, 13, 0)), (162, (0, 11, 11, 0)), (165, (4, 141, 0, 0)), (169, (4, 128, 0, 0)), (172, (0, 11, 14, 0)), (175, (0, 11, 17, 0)), (179, (0, 11, 15, 0)), (182, (0, 11, 16, 0)), (185, (4, 140, 0, 0)), (188, (4, 88, 0, 0)), (191, (4, 161, 0, 0)), (194, (4, 132, 0, 0)), (198, (0, 11, 18, 0)), (201, (4, 197, 0, 0)), (204, (4, 134, 0, 0)), (208, (4, 115, 0, 0)), (212, (4, 154, 0, 0)), (215, (0, 11, 20, 0)), (218, (4, 175, 0, 0)), (221, (4, 144, 0, 0)), (225, (4, 177, 0, 0)), (228, (4, 179, 0, 0)), (231, (4, 180, 0, 0)), (234, (4, 178, 0, 0)), (237, (4, 166, 0, 0)), (241, (4, 120, 0, 0)), (244, (4, 199, 0, 0)), (247, (4, 196, 0, 0)), (250, (0, 11, 19, 0)), (253, (4, 153, 0, 0)), (256, (4, 191, 0, 0)), (259, (0, 11, 23, 0)), (262, (4, 126, 0, 0)), (265, (4, 155, 0, 0)), (269, (4, 124, 0, 0)), (272, (4, 143, 0, 0)), (275, (4, 201, 0, 0)), (279, (4, 171, 0, 0)), (282, (4, 136, 0, 0)), (285, (4, 97, 0, 0)), (288, (4, 137, 0, 0)), (291, (4, 129, 0, 0)), (294, (4, 98, 0, 0)), (297, (4, 84, 0, 0)), (300, (4, 118, 0, 0)), (303, (4, 116, 0, 0)), (306, (4, 91, 0, 0)), (309, (4, 135, 0, 0)), (312, (4, 130, 0, 0)), (315, (4, 151, 0, 0)), (318, (4, 105, 0, 0)), (321, (4, 146, 0, 0)), (324, (4, 139, 0, 0)), (327, (4, 207, 0, 0)), (331, (4, 86, 0, 0)), (335, (4, 209, 0, 0)), (338, (4, 159, 0, 0)), (342, (4, 210, 0, 0)), (345, (4, 173, 0, 0)), (348, (4, 176, 0, 0)), (351, (4, 208, 0, 0)), (354, (4, 150, 0, 0)), (357, (4, 122, 0, 0)), (360, (0, 11, 27, 0)), (364, (0, 11, 24, 0)), (367, (4, 205, 0, 0)), (370, (4, 127, 0, 0)), (373, (0, 11, 28, 0)), (376, (0, 11, 25, 0)), (379, (4, 164, 0, 0)), (382, (4, 131, 0, 0)), (385, (4, 142, 0, 0)), (388, (0, 11, 32, 0)), (391, (0, 11, 30, 0)), (394, (11, 0, 0, 1000000)), (395, (4, 123, 0, 0)), (398, (0, 11, 31, 0)), (401, (0, 11, 29, 0)), (404, (0, 11, 26, 0)), (407, (4, 157, 0, 0)), (410, (4, 188, 0, 0)), (413, (4, 156, 0, 0)), (416, (0, 11, 36, 0)), (419, (0, 11, 38, 0)), (422, (9, 0, 0, 255)), (424, (4, 147, 0, 0)), (427, (4, 193, 0, 0)), (431, (9, 0, 0, 7628901)), (433, (4, 187, 0, 0)), (436, (9, 0, 0, 7302757)), (438, (0, 11, 39, 0)), (441, (11, 0, 0, 1103515245)), (442, (4, 108, 0, 0)), (445, (4, 109, 0, 0)), (448, (4, 111, 0, 0)), (451, (4, 203, 0, 0)), (454, (4, 87, 0, 0)), (457, (0, 11, 40, 0)), (460, (4, 198, 0, 0)), (463, (4, 93, 0, 0)), (466, (4, 107, 0, 0)), (470, (0, 11, 42, 0)), (473, (0, 11, 44, 0)), (476, (0, 11, 46, 0)), (479, (4, 101, 0, 0)), (482, (0, 11, 47, 0)), (485, (4, 148, 0, 0)), (488, (0, 11, 45, 0)), (491, (0, 11, 48, 0)), (494, (4, 162, 0, 0)), (497, (4, 145, 0, 0)), (500, (4, 89, 0, 0)), (503, (4, 167, 0, 0)), (506, (4, 133, 0, 0)), (509, (4, 138, 0, 0))]
def rt2_14 : List (Nat × RES) := []
def rt2_15 : List (Nat × RES) := []
def rt2_16 : List (Nat × RES) := []
def rt2_17 : List (Nat × RES) := [(264, (11, 0, 0, 65536)), (265, (11, 0, 0, 1431655765)), (266, (11, 0, 0, 858993459)), (267, (11, 0, 0, 252645135))]
def rt2_18 : List (Nat × RES) := []
def rt2_19 : List (Nat × RES) := []
def rt2_20 : List (Nat × RES) := []
def rt2_21 : List (Nat × RES) := []
def rt2_22 : List (Nat × RES) := []
def rt2_23 : List (Nat × RES) := []
def rt2_24 : List (Nat × RES) := []
def rt2_25 : List (Nat × RES) := []
def RB2 : List (List (Nat × RES)) := [rt2_0, rt2_1, rt2_2, rt2_3, rt2_4, rt2_5, rt2_6, rt2_7, rt2_8, rt2_9, rt2_10, rt2_11, rt2_12, rt2_13, rt2_14, rt2_15, rt2_16, rt2_17, rt2_18, rt2_19, rt2_20, rt2_21, rt2_22, rt2_23, rt2_24, rt2_25]
/-! the tables are right -/
def w_at (pos : Nat) (w : Cond) : Bool := decide (lw_tbl[pos]? = some w)
def h_at (pos : Nat) (w : Cond) : Bool := w_at pos w && goodWord w
theorem h_at_ok {pos : Nat} {w : Cond} (h : h_at pos w = true) : w ∈ BIG := by
  simp only [h_at, w_at, Bool.and_eq_true, decide_eq_true_eq] at h
  exact List.mem_filter.mpr ⟨List.mem_of_getElem? h.1, h.2⟩
def n_at (pos : Nat) (w : Cond) : Bool := w_at pos w && isNest w
theorem n_at_ok {pos : Nat} {w : Cond} (h : n_at pos w = true) : w ∈ NST := by
  simp only [n_at, w_at, Bool.and_eq_true, decide_eq_true_eq] at h
  exact List.mem_filter.mpr ⟨List.mem_of_getElem? h.1, h.2⟩
def m_chk (M : MT) (ps : Nat × Nat × Nat × Nat) : Bool := plainFor (mY M) && (h_at ps.1 (.code (mY M) (mC M) (mL M) (mR M)) && (h_at ps.2.1 (.initialized (mY M).cls) && (decide ((mY M).cls ≠ "java/lang/invoke/MethodHandle") && (decide ((mY M).cls ≠ "java/lang/invoke/VarHandle") && (decide ((parseMethodDescriptor (mY M).desc).map (fun d => d.parameters.length) = some (mA M)) &&
  ((match mK M with
  | 0 => h_at ps.2.2.1 (.static (mY M))
  | 1 => h_at ps.2.2.1 (.instanceMethod (mY M)) && (h_at ps.2.2.2 (.selects (mY M).cls (mY M) (mY M)) && (match vwCl[mCi M]? with | some r => decide (r.1 = (mY M).cls) | none => false))
  | _ => false) && (decide (mR M = none ∨ mR M = some .int ∨ mR M = some .boolean ∨ mR M = some .long) && (decide (OW2[mO M]? = some (mY M).cls) && Nat.ble (mK M) 1))))))))
abbrev mZ1 (M : MT) : Prop := MOK M ∧ mK M ≤ 1 ∧ OW2[mO M]? = some (mY M).cls
theorem m_chk_ok {M : MT} {ps : Nat × Nat × Nat × Nat} (h : m_chk M ps = true) : mZ1 M := by
  simp only [m_chk, Bool.and_eq_true, decide_eq_true_eq] at h
  obtain ⟨k1, k2, k3, k4, k5, k6, k7, k8, k9, k10⟩ := h
  have k10 := Nat.le_of_ble_eq_true k10
  refine ⟨⟨k1, h_at_ok k2, h_at_ok k3, ⟨k4, k5⟩, k6, fun hk => ?_, fun hk => ?_, fun hk => by omega, k8⟩, k10, k9⟩
  · rw [hk] at k7
    exact h_at_ok k7
  · rw [hk] at k7
    simp only [Bool.and_eq_true] at k7
    obtain ⟨a1, a2, a3⟩ := k7
    refine ⟨h_at_ok a1, h_at_ok a2, ?_⟩
    split at a3
    · rename_i r hr
      exact ⟨r, hr, of_decide_eq_true a3⟩
    · cases a3
def r_chk (own : String) (x : Nat × RES) (ps : List Nat) (host : String) : Bool := match x, ps with
  | (i, (0, ci, k, _)), [a] => (match vwCl[ci]? with | some q => decide (k < q.2.2) && h_at a (.fieldLink own i (q.2.1 k).1 (q.2.1 k).2.1 (q.2.1 k).2.2.1) | none => false)
  | (i, (1, ci, k, _)), [a] => (match vwCl[ci]? with | some q => decide (k < q.2.2) && n_at a (.fieldLinkNest own i (q.2.1 k).1 (q.2.1 k).2.1 (q.2.1 k).2.2.1 host) | none => false)
  | (i, (2, ci, n, _)), [a, a2, a3] => (match vwCl[ci]? with | some q => decide (q.2.2 = n) && (h_at a (.classLink own i q.1) && (h_at a2 (.instantiable q.1 n) && h_at a3 (.initialized q.1))) | none => false)
  | (i, (4, j, _, _)), [a] => (match PH2[j]? with | some M => h_at a (.methodLink own i (mY M)) | none => false)
  | (i, (5, j, _, _)), [a] => (match PH2[j]? with | some M => n_at a (.methodLinkNest own i (mY M) host) | none => false)
  | (i, (7, _, _, _)), [a] => h_at a (.methodLink own i arraycopyName)
  | (i, (9, _, _, v)), [a] => h_at a (.constantLong own i (Int64.ofInt v)) && (decide (-9223372036854775808 ≤ v) && decide (v < 9223372036854775808))
  | (i, (11, _, _, v)), [a] => h_at a (.constant own i (Int32.ofInt v)) && (decide (-2147483648 ≤ v) && decide (v < 2147483648))
  | _, _ => false
theorem r_chk_ok {own : String} {x : Nat × RES} {ps : List Nat} {host : String} (h : r_chk own x ps host = true) : ROK2 PH2 own x.1 x.2 := by
  unfold r_chk at h
  split at h
  · split at h
    · rename_i hq
      simp only [Bool.and_eq_true, decide_eq_true_eq] at h
      exact ⟨⟨_, hq, h.1, h_at_ok h.2⟩, fun h => by cases h⟩
    · cases h
  · split at h
    · rename_i hq
      simp only [Bool.and_eq_true, decide_eq_true_eq] at h
      exact ⟨⟨_, host, hq, h.1, n_at_ok h.2⟩, fun h => by cases h⟩
    · cases h
  · split at h
    · rename_i hq
      simp only [Bool.and_eq_true, decide_eq_true_eq] at h
      exact ⟨⟨_, hq, h.1, h_at_ok h.2.1, h_at_ok h.2.2.1, h_at_ok h.2.2.2⟩, fun h => by cases h⟩
    · cases h
  · split at h
    · rename_i hq
      exact ⟨⟨_, hq, h_at_ok h⟩, fun h => by cases h⟩
    · cases h
  · split at h
    · rename_i hq
      exact ⟨⟨_, host, hq, n_at_ok h⟩, fun h => by cases h⟩
    · cases h
  · exact ⟨h_at_ok h, fun h => by cases h⟩
  · simp only [Bool.and_eq_true, decide_eq_true_eq] at h
    exact ⟨⟨h_at_ok h.1, h.2.1, h.2.2⟩, fun h => by cases h⟩
  · simp only [Bool.and_eq_true, decide_eq_true_eq] at h
    exact ⟨trivial, fun _ => ⟨h_at_ok h.1, h.2.1, h.2.2⟩⟩
  · cases h
def r_all (own : String) : List (Nat × RES) → List (List Nat × String) → Bool
  | [], _ => true
  | x :: r, p :: q => r_chk own x p.1 p.2 && r_all own r q
  | _ :: _, [] => false
theorem r_all_ok {own : String} : ∀ {x : List (Nat × RES)} {ps : List (List Nat × String)}, r_all own x ps = true → ∀ q ∈ x, ROK2 PH2 own q.1 q.2 := by
  intro x
  induction x with
  | nil => intro ps _ q hq; cases hq
  | cons a r ih =>
    intro ps h q hq
    cases ps with
    | nil => cases h
    | cons p t =>
      simp only [r_all, Bool.and_eq_true] at h
      rcases List.mem_cons.mp hq with rfl | hq
      · exact r_chk_ok h.1
      · exact ih h.2 q hq

