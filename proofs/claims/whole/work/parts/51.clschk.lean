/-! ===== the class: its code tables are its bytecode ===== -/
set_option maxRecDepth 100000 in
theorem xkC_X0_beginAnew : ij_chk cX0_beginAnew xkT_X0_beginAnew = true := by decide +kernel
set_option maxRecDepth 100000 in
theorem xkC_X0_paintOn : ij_chk cX0_paintOn xkT_X0_paintOn = true := by decide +kernel
set_option maxRecDepth 100000 in
theorem xkC_X0_goOn : ij_chk cX0_goOn xkT_X0_goOn = true := by decide +kernel
set_option maxRecDepth 100000 in
theorem xkC_X0_goBack : ij_chk cX0_goBack xkT_X0_goBack = true := by decide +kernel
set_option maxRecDepth 100000 in
theorem xkC_X0_goAgain : ij_chk cX0_goAgain xkT_X0_goAgain = true := by decide +kernel
set_option maxRecDepth 100000 in
theorem xkC_X0_keep : ij_chk cX0_keep xkT_X0_keep = true := by decide +kernel
set_option maxRecDepth 100000 in
theorem xkC_X0_bringBack : ij_chk cX0_bringBack xkT_X0_bringBack = true := by decide +kernel
set_option maxRecDepth 100000 in
theorem xkC_X0_stepAhead : ij_chk cX0_stepAhead xkT_X0_stepAhead = true := by decide +kernel
set_option maxRecDepth 100000 in
theorem xkC_X0_turnOf : ij_chk cX0_turnOf xkT_X0_turnOf = true := by decide +kernel
set_option maxRecDepth 100000 in
theorem xkC_X1_begin : ij_chk cX1_begin xkT_X1_begin = true := by decide +kernel
set_option maxRecDepth 100000 in
theorem xkC_X1_choose : ij_chk cX1_choose xkT_X1_choose = true := by decide +kernel
set_option maxRecDepth 100000 in
theorem xkC_X1_rowOf : ij_chk cX1_rowOf xkT_X1_rowOf = true := by decide +kernel
set_option maxRecDepth 100000 in
theorem xkC_X1_lyingAcross : ij_chk cX1_lyingAcross xkT_X1_lyingAcross = true := by decide +kernel
set_option maxRecDepth 100000 in
theorem xkC_X1_forbiddenAt : ij_chk cX1_forbiddenAt xkT_X1_forbiddenAt = true := by decide +kernel
set_option maxRecDepth 100000 in
theorem xkC_X1_closesUp : ij_chk cX1_closesUp xkT_X1_closesUp = true := by decide +kernel
set_option maxRecDepth 100000 in
theorem xkC_X1_link : ij_chk cX1_link xkT_X1_link = true := by decide +kernel
set_option maxRecDepth 100000 in
theorem xkC_X1_hangsTogether : ij_chk cX1_hangsTogether xkT_X1_hangsTogether = true := by decide +kernel
set_option maxRecDepth 100000 in
theorem xkC_X1_isSmooth : ij_chk cX1_isSmooth xkT_X1_isSmooth = true := by decide +kernel
set_option maxRecDepth 100000 in
theorem xkC_X1_isNumberedAsMet : ij_chk cX1_isNumberedAsMet xkT_X1_isNumberedAsMet = true := by decide +kernel
set_option maxRecDepth 100000 in
theorem xkC_X1_ownLikenesses : ij_chk cX1_ownLikenesses xkT_X1_ownLikenesses = true := by decide +kernel
set_option maxRecDepth 100000 in
theorem xkC_X1_isLikeAsNoted : ij_chk cX1_isLikeAsNoted xkT_X1_isLikeAsNoted = true := by decide +kernel
set_option maxRecDepth 100000 in
theorem xkC_X1_handles : ij_chk cX1_handles xkT_X1_handles = true := by decide +kernel
set_option maxRecDepth 100000 in
theorem xkC_X1_noteSorts : ij_chk cX1_noteSorts xkT_X1_noteSorts = true := by decide +kernel
set_option maxRecDepth 100000 in
theorem xkC_X1_sortsLieApart : ij_chk cX1_sortsLieApart xkT_X1_sortsLieApart = true := by decide +kernel
set_option maxRecDepth 100000 in
theorem xkC_X1_groupOf : ij_chk cX1_groupOf xkT_X1_groupOf = true := by decide +kernel
set_option maxRecDepth 100000 in
theorem xkC_X1_setGroup : ij_chk cX1_setGroup xkT_X1_setGroup = true := by decide +kernel
set_option maxRecDepth 100000 in
theorem xkC_X1_note : ij_chk cX1_note xkT_X1_note = true := by decide +kernel
set_option maxRecDepth 100000 in
theorem xkC_X1_valueAt : ij_chk cX1_valueAt xkT_X1_valueAt = true := by decide +kernel
set_option maxRecDepth 100000 in
theorem xkC_X2_lay : ij_chk cX2_lay xkT_X2_lay = true := by decide +kernel
set_option maxRecDepth 100000 in
theorem xkC_X2_hasTile : ij_chk cX2_hasTile xkT_X2_hasTile = true := by decide +kernel
set_option maxRecDepth 100000 in
theorem xkC_X2_hasSide : ij_chk cX2_hasSide xkT_X2_hasSide = true := by decide +kernel
set_option maxRecDepth 100000 in
theorem xkC_X2_cornerBehind : ij_chk cX2_cornerBehind xkT_X2_cornerBehind = true := by decide +kernel
set_option maxRecDepth 100000 in
theorem xkC_X2_classOfSide : ij_chk cX2_classOfSide xkT_X2_classOfSide = true := by decide +kernel
set_option maxRecDepth 100000 in
theorem xkC_X2_beyond : ij_chk cX2_beyond xkT_X2_beyond = true := by decide +kernel
set_option maxRecDepth 100000 in
theorem xkC_X2_ringOfTile : ij_chk cX2_ringOfTile xkT_X2_ringOfTile = true := by decide +kernel
set_option maxRecDepth 100000 in
theorem xkC_X2_tilesOfRing : ij_chk cX2_tilesOfRing xkT_X2_tilesOfRing = true := by decide +kernel
set_option maxRecDepth 100000 in
theorem xkC_X2_waysTo : ij_chk cX2_waysTo xkT_X2_waysTo = true := by decide +kernel
set_option maxRecDepth 100000 in
theorem xkC_X2_isLesser : ij_chk cX2_isLesser xkT_X2_isLesser = true := by decide +kernel
set_option maxRecDepth 100000 in
theorem xkC_X2_lesserOf : ij_chk cX2_lesserOf xkT_X2_lesserOf = true := by decide +kernel
set_option maxRecDepth 100000 in
theorem xkC_X2_neighboursOf : ij_chk cX2_neighboursOf xkT_X2_neighboursOf = true := by decide +kernel
set_option maxRecDepth 100000 in
theorem xkC_X2_colourOf : ij_chk cX2_colourOf xkT_X2_colourOf = true := by decide +kernel
set_option maxRecDepth 100000 in
theorem xkC_X2_nameSide : ij_chk cX2_nameSide xkT_X2_nameSide = true := by decide +kernel
set_option maxRecDepth 100000 in
theorem xkC_X2_byName : ij_chk cX2_byName xkT_X2_byName = true := by decide +kernel
set_option maxRecDepth 100000 in
theorem xkC_X2_byNameFromEnd : ij_chk cX2_byNameFromEnd xkT_X2_byNameFromEnd = true := by decide +kernel
set_option maxRecDepth 100000 in
theorem xkC_X2_spell : ij_chk cX2_spell xkT_X2_spell = true := by decide +kernel
set_option maxRecDepth 100000 in
theorem xkC_X2_spelledAt : ij_chk cX2_spelledAt xkT_X2_spelledAt = true := by decide +kernel
set_option maxRecDepth 100000 in
theorem xkC_X2_sortClasses : ij_chk cX2_sortClasses xkT_X2_sortClasses = true := by decide +kernel
set_option maxRecDepth 100000 in
theorem xkC_X2_isOdd : ij_chk cX2_isOdd xkT_X2_isOdd = true := by decide +kernel
set_option maxRecDepth 100000 in
theorem xkC_X2_beginAtHome : ij_chk cX2_beginAtHome xkT_X2_beginAtHome = true := by decide +kernel
set_option maxRecDepth 100000 in
theorem xkC_X2_layRing : ij_chk cX2_layRing xkT_X2_layRing = true := by decide +kernel
set_option maxRecDepth 100000 in
theorem xkC_X2_takeBackRing : ij_chk cX2_takeBackRing xkT_X2_takeBackRing = true := by decide +kernel
set_option maxRecDepth 100000 in
theorem xkC_X2_numberBeyond : ij_chk cX2_numberBeyond xkT_X2_numberBeyond = true := by decide +kernel
set_option maxRecDepth 100000 in
theorem xkC_X2_addTile : ij_chk cX2_addTile xkT_X2_addTile = true := by decide +kernel
set_option maxRecDepth 100000 in
theorem xkC_X2_join : ij_chk cX2_join xkT_X2_join = true := by decide +kernel
set_option maxRecDepth 100000 in
theorem xkC_X2_setAcross : ij_chk cX2_setAcross xkT_X2_setAcross = true := by decide +kernel
set_option maxRecDepth 100000 in
theorem xkC_X2_joinRound : ij_chk cX2_joinRound xkT_X2_joinRound = true := by decide +kernel
set_option maxRecDepth 100000 in
theorem xkC_X3_read : ij_chk cX3_read xkT_X3_read = true := by decide +kernel
set_option maxRecDepth 100000 in
theorem xkC_X3_readCorners : ij_chk cX3_readCorners xkT_X3_readCorners = true := by decide +kernel
set_option maxRecDepth 100000 in
theorem xkC_X3_isFar : ij_chk cX3_isFar xkT_X3_isFar = true := by decide +kernel
set_option maxRecDepth 100000 in
theorem xkC_X3_antWithoutText : ij_chk cX3_antWithoutText xkT_X3_antWithoutText = true := by decide +kernel
set_option maxRecDepth 100000 in
theorem xkC_X3_readAnt : ij_chk cX3_readAnt xkT_X3_readAnt = true := by decide +kernel
set_option maxRecDepth 100000 in
theorem xkC_X3_takeToken : ij_chk cX3_takeToken xkT_X3_takeToken = true := by decide +kernel
set_option maxRecDepth 100000 in
theorem xkC_X3_takeWord : ij_chk cX3_takeWord xkT_X3_takeWord = true := by decide +kernel
set_option maxRecDepth 100000 in
theorem xkC_X3_takeNumber : ij_chk cX3_takeNumber xkT_X3_takeNumber = true := by decide +kernel
set_option maxRecDepth 100000 in
theorem xkC_X3_isWord : ij_chk cX3_isWord xkT_X3_isWord = true := by decide +kernel
set_option maxRecDepth 100000 in
theorem xkC_X3_isBlank : ij_chk cX3_isBlank xkT_X3_isBlank = true := by decide +kernel
set_option maxRecDepth 100000 in
theorem xkC_X3_isLetter : ij_chk cX3_isLetter xkT_X3_isLetter = true := by decide +kernel
set_option maxRecDepth 100000 in
theorem xkC_X3_isDigit : ij_chk cX3_isDigit xkT_X3_isDigit = true := by decide +kernel
set_option maxRecDepth 100000 in
theorem xkC_X4_list : ij_chk cX4_list xkT_X4_list = true := by decide +kernel
set_option maxRecDepth 100000 in
theorem xkC_X4_numberAt : ij_chk cX4_numberAt xkT_X4_numberAt = true := by decide +kernel
set_option maxRecDepth 100000 in
theorem xkC_X4_lapsOf : ij_chk cX4_lapsOf xkT_X4_lapsOf = true := by decide +kernel
set_option maxRecDepth 100000 in
theorem xkC_X4_leavesAlone : ij_chk cX4_leavesAlone xkT_X4_leavesAlone = true := by decide +kernel
set_option maxRecDepth 100000 in
theorem xkC_X4_pairUp : ij_chk cX4_pairUp xkT_X4_pairUp = true := by decide +kernel
set_option maxRecDepth 100000 in
theorem xkC_X4_partnerOf : ij_chk cX4_partnerOf xkT_X4_partnerOf = true := by decide +kernel
set_option maxRecDepth 100000 in
theorem xkC_X4_setPartners : ij_chk cX4_setPartners xkT_X4_setPartners = true := by decide +kernel
set_option maxRecDepth 100000 in
theorem xkC_X4_writeRow : ij_chk cX4_writeRow xkT_X4_writeRow = true := by decide +kernel
set_option maxRecDepth 100000 in
theorem xkC_X4_setLaps : ij_chk cX4_setLaps xkT_X4_setLaps = true := by decide +kernel
set_option maxRecDepth 100000 in
theorem xkC_X4_lap : ij_chk cX4_lap xkT_X4_lap = true := by decide +kernel
set_option maxRecDepth 100000 in
theorem xkC_X5_forget : ij_chk cX5_forget xkT_X5_forget = true := by decide +kernel
set_option maxRecDepth 100000 in
theorem xkC_X5_answer : ij_chk cX5_answer xkT_X5_answer = true := by decide +kernel
set_option maxRecDepth 100000 in
theorem xkC_X5_hasFirst : ij_chk cX5_hasFirst xkT_X5_hasFirst = true := by decide +kernel
set_option maxRecDepth 100000 in
theorem xkC_X5_firstAcross : ij_chk cX5_firstAcross xkT_X5_firstAcross = true := by decide +kernel
set_option maxRecDepth 100000 in
theorem xkC_X5_firstPlace : ij_chk cX5_firstPlace xkT_X5_firstPlace = true := by decide +kernel
set_option maxRecDepth 100000 in
theorem xkC_X5_makeKnown : ij_chk cX5_makeKnown xkT_X5_makeKnown = true := by decide +kernel
set_option maxRecDepth 100000 in
theorem xkC_X5_reckonTries : ij_chk cX5_reckonTries xkT_X5_reckonTries = true := by decide +kernel
set_option maxRecDepth 100000 in
theorem xkC_X5_draftsWith : ij_chk cX5_draftsWith xkT_X5_draftsWith = true := by decide +kernel
set_option maxRecDepth 100000 in
theorem xkC_X5_seek : ij_chk cX5_seek xkT_X5_seek = true := by decide +kernel
set_option maxRecDepth 100000 in
theorem xkC_X5_weigh : ij_chk cX5_weigh xkT_X5_weigh = true := by decide +kernel
set_option maxRecDepth 100000 in
theorem xkC_X5_keepFirst : ij_chk cX5_keepFirst xkT_X5_keepFirst = true := by decide +kernel
set_option maxRecDepth 100000 in
theorem xkC_X5_setAnswer : ij_chk cX5_setAnswer xkT_X5_setAnswer = true := by decide +kernel
set_option maxRecDepth 100000 in
theorem xkC_X6_term : ij_chk cX6_term xkT_X6_term = true := by decide +kernel
set_option maxRecDepth 100000 in
theorem xkC_X6_reckon : ij_chk cX6_reckon xkT_X6_reckon = true := by decide +kernel
set_option maxRecDepth 100000 in
theorem xkC_X6_beginDivisor : ij_chk cX6_beginDivisor xkT_X6_beginDivisor = true := by decide +kernel
set_option maxRecDepth 100000 in
theorem xkC_X6_addCorner : ij_chk cX6_addCorner xkT_X6_addCorner = true := by decide +kernel
set_option maxRecDepth 100000 in
theorem xkC_X6_dividePartByOnes : ij_chk cX6_dividePartByOnes xkT_X6_dividePartByOnes = true := by decide +kernel
set_option maxRecDepth 100000 in
theorem xkC_X6_divide : ij_chk cX6_divide xkT_X6_divide = true := by decide +kernel
set_option maxRecDepth 100000 in
theorem xkC_X7_clear : ij_chk cX7_clear xkT_X7_clear = true := by decide +kernel
set_option maxRecDepth 100000 in
theorem xkC_X7_copyFrom : ij_chk cX7_copyFrom xkT_X7_copyFrom = true := by decide +kernel
set_option maxRecDepth 100000 in
theorem xkC_X7_paintOn : ij_chk cX7_paintOn xkT_X7_paintOn = true := by decide +kernel
set_option maxRecDepth 100000 in
theorem xkC_X7_setPaint : ij_chk cX7_setPaint xkT_X7_setPaint = true := by decide +kernel
set_option maxRecDepth 100000 in
theorem xkC_X8_hasRoom : ij_chk cX8_hasRoom xkT_X8_hasRoom = true := by decide +kernel
set_option maxRecDepth 100000 in
theorem xkC_X8_put : ij_chk cX8_put xkT_X8_put = true := by decide +kernel
set_option maxRecDepth 100000 in
theorem xkC_X8_byteAt : ij_chk cX8_byteAt xkT_X8_byteAt = true := by decide +kernel
set_option maxRecDepth 100000 in
theorem xkC_X9_forget : ij_chk cX9_forget xkT_X9_forget = true := by decide +kernel
set_option maxRecDepth 100000 in
theorem xkC_X9_endingAt : ij_chk cX9_endingAt xkT_X9_endingAt = true := by decide +kernel
set_option maxRecDepth 100000 in
theorem xkC_X9_comingHome : ij_chk cX9_comingHome xkT_X9_comingHome = true := by decide +kernel
set_option maxRecDepth 100000 in
theorem xkC_X9_ringsTogether : ij_chk cX9_ringsTogether xkT_X9_ringsTogether = true := by decide +kernel
set_option maxRecDepth 100000 in
theorem xkC_X9_allWalks : ij_chk cX9_allWalks xkT_X9_allWalks = true := by decide +kernel
set_option maxRecDepth 100000 in
theorem xkC_X9_endsAt : ij_chk cX9_endsAt xkT_X9_endsAt = true := by decide +kernel
set_option maxRecDepth 100000 in
theorem xkC_X9_walkTo : ij_chk cX9_walkTo xkT_X9_walkTo = true := by decide +kernel
set_option maxRecDepth 100000 in
theorem xkC_X9_walkOneMore : ij_chk cX9_walkOneMore xkT_X9_walkOneMore = true := by decide +kernel
set_option maxRecDepth 100000 in
theorem xkC_X10_feed : ij_chk cX10_feed xkT_X10_feed = true := by decide +kernel
set_option maxRecDepth 100000 in
theorem xkC_X10_board : ij_chk cX10_board xkT_X10_board = true := by decide +kernel
set_option maxRecDepth 100000 in
theorem xkC_X10_fault : ij_chk cX10_fault xkT_X10_fault = true := by decide +kernel
set_option maxRecDepth 100000 in
theorem xkC_X10_count : ij_chk cX10_count xkT_X10_count = true := by decide +kernel
set_option maxRecDepth 100000 in
theorem xkC_X10_corner : ij_chk cX10_corner xkT_X10_corner = true := by decide +kernel
set_option maxRecDepth 100000 in
theorem xkC_X10_tile : ij_chk cX10_tile xkT_X10_tile = true := by decide +kernel
set_option maxRecDepth 100000 in
theorem xkC_X10_across : ij_chk cX10_across xkT_X10_across = true := by decide +kernel
set_option maxRecDepth 100000 in
theorem xkC_X10_name : ij_chk cX10_name xkT_X10_name = true := by decide +kernel
set_option maxRecDepth 100000 in
theorem xkC_X10_ways : ij_chk cX10_ways xkT_X10_ways = true := by decide +kernel
set_option maxRecDepth 100000 in
theorem xkC_X10_ring : ij_chk cX10_ring xkT_X10_ring = true := by decide +kernel
set_option maxRecDepth 100000 in
theorem xkC_X10_growth : ij_chk cX10_growth xkT_X10_growth = true := by decide +kernel
set_option maxRecDepth 100000 in
theorem xkC_X10_walks : ij_chk cX10_walks xkT_X10_walks = true := by decide +kernel
set_option maxRecDepth 100000 in
theorem xkC_X10_home : ij_chk cX10_home xkT_X10_home = true := by decide +kernel
set_option maxRecDepth 100000 in
theorem xkC_X10_far : ij_chk cX10_far xkT_X10_far = true := by decide +kernel
set_option maxRecDepth 100000 in
theorem xkC_X10_walk : ij_chk cX10_walk xkT_X10_walk = true := by decide +kernel
set_option maxRecDepth 100000 in
theorem xkC_X10_move : ij_chk cX10_move xkT_X10_move = true := by decide +kernel
set_option maxRecDepth 100000 in
theorem xkC_X10_order : ij_chk cX10_order xkT_X10_order = true := by decide +kernel
set_option maxRecDepth 100000 in
theorem xkC_X10_back : ij_chk cX10_back xkT_X10_back = true := by decide +kernel
set_option maxRecDepth 100000 in
theorem xkC_X10_apart : ij_chk cX10_apart xkT_X10_apart = true := by decide +kernel
set_option maxRecDepth 100000 in
theorem xkC_X10_side : ij_chk cX10_side xkT_X10_side = true := by decide +kernel
set_option maxRecDepth 100000 in
theorem xkC_X10_closed : ij_chk cX10_closed xkT_X10_closed = true := by decide +kernel
set_option maxRecDepth 100000 in
theorem xkC_X10_first : ij_chk cX10_first xkT_X10_first = true := by decide +kernel
set_option maxRecDepth 100000 in
theorem xkC_X10_steps : ij_chk cX10_steps xkT_X10_steps = true := by decide +kernel
set_option maxRecDepth 100000 in
theorem xkC_X10_ant : ij_chk cX10_ant xkT_X10_ant = true := by decide +kernel
set_option maxRecDepth 100000 in
theorem xkC_X10_undo : ij_chk cX10_undo xkT_X10_undo = true := by decide +kernel
set_option maxRecDepth 100000 in
theorem xkC_X10_redo : ij_chk cX10_redo xkT_X10_redo = true := by decide +kernel
set_option maxRecDepth 100000 in
theorem xkC_X10_image : ij_chk cX10_image xkT_X10_image = true := by decide +kernel
set_option maxRecDepth 100000 in
theorem xkC_X10_restore : ij_chk cX10_restore xkT_X10_restore = true := by decide +kernel
set_option maxRecDepth 100000 in
theorem xkC_X10_layAnew : ij_chk cX10_layAnew xkT_X10_layAnew = true := by decide +kernel
set_option maxRecDepth 100000 in
theorem xkC_X10_countedChange : ij_chk cX10_countedChange xkT_X10_countedChange = true := by decide +kernel
set_option maxRecDepth 100000 in
theorem xkC_X10_needTile : ij_chk cX10_needTile xkT_X10_needTile = true := by decide +kernel
set_option maxRecDepth 100000 in
theorem xkC_X10_needSide : ij_chk cX10_needSide xkT_X10_needSide = true := by decide +kernel
set_option maxRecDepth 100000 in
theorem xkC_X10_needWalkSteps : ij_chk cX10_needWalkSteps xkT_X10_needWalkSteps = true := by decide +kernel
set_option maxRecDepth 100000 in
theorem xkC_X10_needClosedSize : ij_chk cX10_needClosedSize xkT_X10_needClosedSize = true := by decide +kernel
set_option maxRecDepth 100000 in
theorem xkC_X10_figure : ij_chk cX10_figure xkT_X10_figure = true := by decide +kernel
set_option maxRecDepth 100000 in
theorem xkC_X10_commonDivisor : ij_chk cX10_commonDivisor xkT_X10_commonDivisor = true := by decide +kernel
set_option maxRecDepth 100000 in
theorem xkC_X10_modulo : ij_chk cX10_modulo xkT_X10_modulo = true := by decide +kernel
set_option maxRecDepth 100000 in
theorem xkC_J9_floorMod_7cf53 : ij_chk cJ9_floorMod_7cf53 xkT_J9_floorMod_7cf53 = true := by decide +kernel
set_option maxRecDepth 100000 in
theorem xkC_J9_min_7cf53 : ij_chk cJ9_min_7cf53 xkT_J9_min_7cf53 = true := by decide +kernel
set_option maxRecDepth 100000 in
theorem xkC_J7_fill_53178 : ij_chk cJ7_fill_53178 xkT_J7_fill_53178 = true := by decide +kernel
set_option maxRecDepth 100000 in
theorem xkC_J7_fill_d0a16 : ij_chk cJ7_fill_d0a16 xkT_J7_fill_d0a16 = true := by decide +kernel
set_option maxRecDepth 100000 in
theorem xkC_X0_init : ij_chk cX0_init xkT_X0_init = true := by decide +kernel
set_option maxRecDepth 100000 in
theorem xkC_X1_init : ij_chk cX1_init xkT_X1_init = true := by decide +kernel
set_option maxRecDepth 100000 in
theorem xkC_X2_init : ij_chk cX2_init xkT_X2_init = true := by decide +kernel
set_option maxRecDepth 100000 in
theorem xkC_X3_init : ij_chk cX3_init xkT_X3_init = true := by decide +kernel
set_option maxRecDepth 100000 in
theorem xkC_X4_init : ij_chk cX4_init xkT_X4_init = true := by decide +kernel
set_option maxRecDepth 100000 in
theorem xkC_X5_init : ij_chk cX5_init xkT_X5_init = true := by decide +kernel
set_option maxRecDepth 100000 in
theorem xkC_X6_init : ij_chk cX6_init xkT_X6_init = true := by decide +kernel
set_option maxRecDepth 100000 in
theorem xkC_X7_init : ij_chk cX7_init xkT_X7_init = true := by decide +kernel
set_option maxRecDepth 100000 in
theorem xkC_X8_init : ij_chk cX8_init xkT_X8_init = true := by decide +kernel
set_option maxRecDepth 100000 in
theorem xkC_X9_init : ij_chk cX9_init xkT_X9_init = true := by decide +kernel
set_option maxRecDepth 100000 in
theorem xkC_X10_init : ij_chk cX10_init xkT_X10_init = true := by decide +kernel
