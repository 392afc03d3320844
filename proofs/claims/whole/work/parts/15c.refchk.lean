/-! ===== the reference: its code tables are its bytecode ===== -/
set_option maxRecDepth 100000 in
theorem rkC_thrown : ij_chk cX11_thrown rkT_thrown = true := by decide +kernel
set_option maxRecDepth 100000 in
theorem rkC_right : ij_chk cX11_right rkT_right = true := by decide +kernel
set_option maxRecDepth 100000 in
theorem rkC_copies : ij_chk cX11_copies rkT_copies = true := by decide +kernel
set_option maxRecDepth 100000 in
theorem rkC_feed : ij_chk cX11_feed rkT_feed = true := by decide +kernel
set_option maxRecDepth 100000 in
theorem rkC_puts : ij_chk cX11_puts rkT_puts = true := by decide +kernel
set_option maxRecDepth 100000 in
theorem rkC_byteAt : ij_chk cX11_byteAt rkT_byteAt = true := by decide +kernel
set_option maxRecDepth 100000 in
theorem rkC_isLetter : ij_chk cX11_isLetter rkT_isLetter = true := by decide +kernel
set_option maxRecDepth 100000 in
theorem rkC_isDigit : ij_chk cX11_isDigit rkT_isDigit = true := by decide +kernel
set_option maxRecDepth 100000 in
theorem rkC_steps0 : ij_chk cX11_steps0 rkT_steps0 = true := by decide +kernel
set_option maxRecDepth 100000 in
theorem rkC_letters : ij_chk cX11_letters rkT_letters = true := by decide +kernel
set_option maxRecDepth 100000 in
theorem rkC_wrong : ij_chk cX11_wrong rkT_wrong = true := by decide +kernel
set_option maxRecDepth 100000 in
theorem rkC_isGood : ij_chk cX11_isGood rkT_isGood = true := by decide +kernel
set_option maxRecDepth 100000 in
theorem rkC_need : ij_chk cX11_need rkT_need = true := by decide +kernel
set_option maxRecDepth 100000 in
theorem rkC_isCorners : ij_chk cX11_isCorners rkT_isCorners = true := by decide +kernel
set_option maxRecDepth 100000 in
theorem rkC_isAnt : ij_chk cX11_isAnt rkT_isAnt = true := by decide +kernel
set_option maxRecDepth 100000 in
theorem rkC_readsCorners : ij_chk cX11_readsCorners rkT_readsCorners = true := by decide +kernel
set_option maxRecDepth 100000 in
theorem rkC_readsAnt : ij_chk cX11_readsAnt rkT_readsAnt = true := by decide +kernel
set_option maxRecDepth 100000 in
theorem rkC_isBoard : ij_chk cX11_isBoard rkT_isBoard = true := by decide +kernel
set_option maxRecDepth 100000 in
theorem rkC_board : ij_chk cX11_board rkT_board = true := by decide +kernel
set_option maxRecDepth 100000 in
theorem rkC_fault : ij_chk cX11_fault rkT_fault = true := by decide +kernel
set_option maxRecDepth 100000 in
theorem rkC_power : ij_chk cX11_power rkT_power = true := by decide +kernel
set_option maxRecDepth 100000 in
theorem rkC_angles : ij_chk cX11_angles rkT_angles = true := by decide +kernel
set_option maxRecDepth 100000 in
theorem rkC_classes : ij_chk cX11_classes rkT_classes = true := by decide +kernel
set_option maxRecDepth 100000 in
theorem rkC_turns : ij_chk cX11_turns rkT_turns = true := by decide +kernel
set_option maxRecDepth 100000 in
theorem rkC_spot : ij_chk cX11_spot rkT_spot = true := by decide +kernel
set_option maxRecDepth 100000 in
theorem rkC_isHere : ij_chk cX11_isHere rkT_isHere = true := by decide +kernel
set_option maxRecDepth 100000 in
theorem rkC_found : ij_chk cX11_found rkT_found = true := by decide +kernel
set_option maxRecDepth 100000 in
theorem rkC_comes : ij_chk cX11_comes rkT_comes = true := by decide +kernel
set_option maxRecDepth 100000 in
theorem rkC_rings : ij_chk cX11_rings rkT_rings = true := by decide +kernel
set_option maxRecDepth 100000 in
theorem rkC_lays : ij_chk cX11_lays rkT_lays = true := by decide +kernel
set_option maxRecDepth 100000 in
theorem rkC_isTile : ij_chk cX11_isTile rkT_isTile = true := by decide +kernel
set_option maxRecDepth 100000 in
theorem rkC_isSide : ij_chk cX11_isSide rkT_isSide = true := by decide +kernel
set_option maxRecDepth 100000 in
theorem rkC_count : ij_chk cX11_count rkT_count = true := by decide +kernel
set_option maxRecDepth 100000 in
theorem rkC_corner : ij_chk cX11_corner rkT_corner = true := by decide +kernel
set_option maxRecDepth 100000 in
theorem rkC_tile : ij_chk cX11_tile rkT_tile = true := by decide +kernel
set_option maxRecDepth 100000 in
theorem rkC_across : ij_chk cX11_across rkT_across = true := by decide +kernel
set_option maxRecDepth 100000 in
theorem rkC_names : ij_chk cX11_names rkT_names = true := by decide +kernel
set_option maxRecDepth 100000 in
theorem rkC_name : ij_chk cX11_name rkT_name = true := by decide +kernel
set_option maxRecDepth 100000 in
theorem rkC_ways : ij_chk cX11_ways rkT_ways = true := by decide +kernel
set_option maxRecDepth 100000 in
theorem rkC_ring : ij_chk cX11_ring rkT_ring = true := by decide +kernel
set_option maxRecDepth 100000 in
theorem rkC_divides : ij_chk cX11_divides rkT_divides = true := by decide +kernel
set_option maxRecDepth 100000 in
theorem rkC_growth : ij_chk cX11_growth rkT_growth = true := by decide +kernel
set_option maxRecDepth 100000 in
theorem rkC_walks0 : ij_chk cX11_walks0 rkT_walks0 = true := by decide +kernel
set_option maxRecDepth 100000 in
theorem rkC_isLong : ij_chk cX11_isLong rkT_isLong = true := by decide +kernel
set_option maxRecDepth 100000 in
theorem rkC_walks : ij_chk cX11_walks rkT_walks = true := by decide +kernel
set_option maxRecDepth 100000 in
theorem rkC_home : ij_chk cX11_home rkT_home = true := by decide +kernel
set_option maxRecDepth 100000 in
theorem rkC_far : ij_chk cX11_far rkT_far = true := by decide +kernel
set_option maxRecDepth 100000 in
theorem rkC_leads : ij_chk cX11_leads rkT_leads = true := by decide +kernel
set_option maxRecDepth 100000 in
theorem rkC_walk : ij_chk cX11_walk rkT_walk = true := by decide +kernel
set_option maxRecDepth 100000 in
theorem rkC_move : ij_chk cX11_move rkT_move = true := by decide +kernel
set_option maxRecDepth 100000 in
theorem rkC_order : ij_chk cX11_order rkT_order = true := by decide +kernel
set_option maxRecDepth 100000 in
theorem rkC_backOf : ij_chk cX11_backOf rkT_backOf = true := by decide +kernel
set_option maxRecDepth 100000 in
theorem rkC_back : ij_chk cX11_back rkT_back = true := by decide +kernel
set_option maxRecDepth 100000 in
theorem rkC_apart : ij_chk cX11_apart rkT_apart = true := by decide +kernel
set_option maxRecDepth 100000 in
theorem rkC_side : ij_chk cX11_side rkT_side = true := by decide +kernel
set_option maxRecDepth 100000 in
theorem rkC_lists : ij_chk cX11_lists rkT_lists = true := by decide +kernel
set_option maxRecDepth 100000 in
theorem rkC_go : ij_chk cX11_go rkT_go = true := by decide +kernel
set_option maxRecDepth 100000 in
theorem rkC_round : ij_chk cX11_round rkT_round = true := by decide +kernel
set_option maxRecDepth 100000 in
theorem rkC_isRound : ij_chk cX11_isRound rkT_isRound = true := by decide +kernel
set_option maxRecDepth 100000 in
theorem rkC_numbers : ij_chk cX11_numbers rkT_numbers = true := by decide +kernel
set_option maxRecDepth 100000 in
theorem rkC_beside : ij_chk cX11_beside rkT_beside = true := by decide +kernel
set_option maxRecDepth 100000 in
theorem rkC_isSmooth : ij_chk cX11_isSmooth rkT_isSmooth = true := by decide +kernel
set_option maxRecDepth 100000 in
theorem rkC_takes : ij_chk cX11_takes rkT_takes = true := by decide +kernel
set_option maxRecDepth 100000 in
theorem rkC_seeks : ij_chk cX11_seeks rkT_seeks = true := by decide +kernel
set_option maxRecDepth 100000 in
theorem rkC_handles : ij_chk cX11_handles rkT_handles = true := by decide +kernel
set_option maxRecDepth 100000 in
theorem rkC_isFirstBy : ij_chk cX11_isFirstBy rkT_isFirstBy = true := by decide +kernel
set_option maxRecDepth 100000 in
theorem rkC_closed : ij_chk cX11_closed rkT_closed = true := by decide +kernel
set_option maxRecDepth 100000 in
theorem rkC_first : ij_chk cX11_first rkT_first = true := by decide +kernel
set_option maxRecDepth 100000 in
theorem rkC_goes : ij_chk cX11_goes rkT_goes = true := by decide +kernel
set_option maxRecDepth 100000 in
theorem rkC_steps : ij_chk cX11_steps rkT_steps = true := by decide +kernel
set_option maxRecDepth 100000 in
theorem rkC_ant : ij_chk cX11_ant rkT_ant = true := by decide +kernel
set_option maxRecDepth 100000 in
theorem rkC_undo : ij_chk cX11_undo rkT_undo = true := by decide +kernel
set_option maxRecDepth 100000 in
theorem rkC_redo : ij_chk cX11_redo rkT_redo = true := by decide +kernel
set_option maxRecDepth 100000 in
theorem rkC_image : ij_chk cX11_image rkT_image = true := by decide +kernel
set_option maxRecDepth 100000 in
theorem rkC_restore : ij_chk cX11_restore rkT_restore = true := by decide +kernel
