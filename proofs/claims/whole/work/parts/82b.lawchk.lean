/-! ===== the law: its code tables are its bytecode ===== -/
set_option maxRecDepth 100000 in
theorem lkC_law_0 : ij_chk cL_law lkT_law_0 = true := by decide +kernel
set_option maxRecDepth 100000 in
theorem lkC_law_1 : ij_chk cL_law lkT_law_1 = true := by decide +kernel
set_option maxRecDepth 100000 in
theorem lkC_law_2 : ij_chk cL_law lkT_law_2 = true := by decide +kernel
set_option maxRecDepth 100000 in
theorem lkC_law_3 : ij_chk cL_law lkT_law_3 = true := by decide +kernel
set_option maxRecDepth 100000 in
theorem lkC_law_4 : ij_chk cL_law lkT_law_4 = true := by decide +kernel
set_option maxRecDepth 100000 in
theorem lkC_law_5 : ij_chk cL_law lkT_law_5 = true := by decide +kernel
set_option maxRecDepth 100000 in
theorem lkC_law_6 : ij_chk cL_law lkT_law_6 = true := by decide +kernel
set_option maxRecDepth 100000 in
theorem lkC_law_7 : ij_chk cL_law lkT_law_7 = true := by decide +kernel
set_option maxRecDepth 100000 in
theorem lkC_law_8 : ij_chk cL_law lkT_law_8 = true := by decide +kernel
set_option maxRecDepth 100000 in
theorem lkC_law_9 : ij_chk cL_law lkT_law_9 = true := by decide +kernel
set_option maxRecDepth 100000 in
theorem lkC_law_10 : ij_chk cL_law lkT_law_10 = true := by decide +kernel
set_option maxRecDepth 100000 in
theorem lkC_law_11 : ij_chk cL_law lkT_law_11 = true := by decide +kernel
set_option maxRecDepth 100000 in
theorem lkC_law_12 : ij_chk cL_law lkT_law_12 = true := by decide +kernel
set_option maxRecDepth 100000 in
theorem lkC_law_13 : ij_chk cL_law lkT_law_13 = true := by decide +kernel
set_option maxRecDepth 100000 in
theorem lkC_law_14 : ij_chk cL_law lkT_law_14 = true := by decide +kernel
set_option maxRecDepth 100000 in
theorem lkC_law_15 : ij_chk cL_law lkT_law_15 = true := by decide +kernel
set_option maxRecDepth 100000 in
theorem lkC_law_16 : ij_chk cL_law lkT_law_16 = true := by decide +kernel
set_option maxRecDepth 100000 in
theorem lkC_law_17 : ij_chk cL_law lkT_law_17 = true := by decide +kernel
set_option maxRecDepth 100000 in
theorem lkC_law_18 : ij_chk cL_law lkT_law_18 = true := by decide +kernel
set_option maxRecDepth 100000 in
theorem lkC_law_19 : ij_chk cL_law lkT_law_19 = true := by decide +kernel
set_option maxRecDepth 100000 in
theorem lkC_law_20 : ij_chk cL_law lkT_law_20 = true := by decide +kernel
set_option maxRecDepth 100000 in
theorem lkC_law_21 : ij_chk cL_law lkT_law_21 = true := by decide +kernel
set_option maxRecDepth 100000 in
theorem lkC_law_22 : ij_chk cL_law lkT_law_22 = true := by decide +kernel
set_option maxRecDepth 100000 in
theorem lkC_law_23 : ij_chk cL_law lkT_law_23 = true := by decide +kernel
set_option maxRecDepth 100000 in
theorem lkC_law_24 : ij_chk cL_law lkT_law_24 = true := by decide +kernel
set_option maxRecDepth 100000 in
theorem lkC_law_25 : ij_chk cL_law lkT_law_25 = true := by decide +kernel
set_option maxRecDepth 100000 in
theorem lkC_law_26 : ij_chk cL_law lkT_law_26 = true := by decide +kernel
theorem lkD_law : ∀ t ∈ lkB_law, ij_chk cL_law t.2 = true := List.forall_mem_cons.mpr ⟨lkC_law_0, List.forall_mem_cons.mpr ⟨lkC_law_1, List.forall_mem_cons.mpr ⟨lkC_law_2, List.forall_mem_cons.mpr ⟨lkC_law_3, List.forall_mem_cons.mpr ⟨lkC_law_4, List.forall_mem_cons.mpr ⟨lkC_law_5, List.forall_mem_cons.mpr ⟨lkC_law_6, List.forall_mem_cons.mpr ⟨lkC_law_7, List.forall_mem_cons.mpr ⟨lkC_law_8, List.forall_mem_cons.mpr ⟨lkC_law_9, List.forall_mem_cons.mpr ⟨lkC_law_10, List.forall_mem_cons.mpr ⟨lkC_law_11, List.forall_mem_cons.mpr ⟨lkC_law_12, List.forall_mem_cons.mpr ⟨lkC_law_13, List.forall_mem_cons.mpr ⟨lkC_law_14, List.forall_mem_cons.mpr ⟨lkC_law_15, List.forall_mem_cons.mpr ⟨lkC_law_16, List.forall_mem_cons.mpr ⟨lkC_law_17, List.forall_mem_cons.mpr ⟨lkC_law_18, List.forall_mem_cons.mpr ⟨lkC_law_19, List.forall_mem_cons.mpr ⟨lkC_law_20, List.forall_mem_cons.mpr ⟨lkC_law_21, List.forall_mem_cons.mpr ⟨lkC_law_22, List.forall_mem_cons.mpr ⟨lkC_law_23, List.forall_mem_cons.mpr ⟨lkC_law_24, List.forall_mem_cons.mpr ⟨lkC_law_25, List.forall_mem_cons.mpr ⟨lkC_law_26, fun _ h => nomatch h⟩⟩⟩⟩⟩⟩⟩⟩⟩⟩⟩⟩⟩⟩⟩⟩⟩⟩⟩⟩⟩⟩⟩⟩⟩⟩⟩
set_option maxRecDepth 100000 in
theorem lkC_board_0 : ij_chk cL_board lkT_board_0 = true := by decide +kernel
theorem lkD_board : ∀ t ∈ lkB_board, ij_chk cL_board t.2 = true := List.forall_mem_cons.mpr ⟨lkC_board_0, fun _ h => nomatch h⟩
set_option maxRecDepth 100000 in
theorem lkC_count_0 : ij_chk cL_count lkT_count_0 = true := by decide +kernel
theorem lkD_count : ∀ t ∈ lkB_count, ij_chk cL_count t.2 = true := List.forall_mem_cons.mpr ⟨lkC_count_0, fun _ h => nomatch h⟩
set_option maxRecDepth 100000 in
theorem lkC_corner_0 : ij_chk cL_corner lkT_corner_0 = true := by decide +kernel
theorem lkD_corner : ∀ t ∈ lkB_corner, ij_chk cL_corner t.2 = true := List.forall_mem_cons.mpr ⟨lkC_corner_0, fun _ h => nomatch h⟩
set_option maxRecDepth 100000 in
theorem lkC_tile_0 : ij_chk cL_tile lkT_tile_0 = true := by decide +kernel
theorem lkD_tile : ∀ t ∈ lkB_tile, ij_chk cL_tile t.2 = true := List.forall_mem_cons.mpr ⟨lkC_tile_0, fun _ h => nomatch h⟩
set_option maxRecDepth 100000 in
theorem lkC_across_0 : ij_chk cL_across lkT_across_0 = true := by decide +kernel
theorem lkD_across : ∀ t ∈ lkB_across, ij_chk cL_across t.2 = true := List.forall_mem_cons.mpr ⟨lkC_across_0, fun _ h => nomatch h⟩
set_option maxRecDepth 100000 in
theorem lkC_name_0 : ij_chk cL_name lkT_name_0 = true := by decide +kernel
theorem lkD_name : ∀ t ∈ lkB_name, ij_chk cL_name t.2 = true := List.forall_mem_cons.mpr ⟨lkC_name_0, fun _ h => nomatch h⟩
set_option maxRecDepth 100000 in
theorem lkC_ways_0 : ij_chk cL_ways lkT_ways_0 = true := by decide +kernel
theorem lkD_ways : ∀ t ∈ lkB_ways, ij_chk cL_ways t.2 = true := List.forall_mem_cons.mpr ⟨lkC_ways_0, fun _ h => nomatch h⟩
set_option maxRecDepth 100000 in
theorem lkC_ring_0 : ij_chk cL_ring lkT_ring_0 = true := by decide +kernel
theorem lkD_ring : ∀ t ∈ lkB_ring, ij_chk cL_ring t.2 = true := List.forall_mem_cons.mpr ⟨lkC_ring_0, fun _ h => nomatch h⟩
set_option maxRecDepth 100000 in
theorem lkC_growth_0 : ij_chk cL_growth lkT_growth_0 = true := by decide +kernel
theorem lkD_growth : ∀ t ∈ lkB_growth, ij_chk cL_growth t.2 = true := List.forall_mem_cons.mpr ⟨lkC_growth_0, fun _ h => nomatch h⟩
set_option maxRecDepth 100000 in
theorem lkC_walks_0 : ij_chk cL_walks lkT_walks_0 = true := by decide +kernel
theorem lkD_walks : ∀ t ∈ lkB_walks, ij_chk cL_walks t.2 = true := List.forall_mem_cons.mpr ⟨lkC_walks_0, fun _ h => nomatch h⟩
set_option maxRecDepth 100000 in
theorem lkC_home_0 : ij_chk cL_home lkT_home_0 = true := by decide +kernel
theorem lkD_home : ∀ t ∈ lkB_home, ij_chk cL_home t.2 = true := List.forall_mem_cons.mpr ⟨lkC_home_0, fun _ h => nomatch h⟩
set_option maxRecDepth 100000 in
theorem lkC_far_0 : ij_chk cL_far lkT_far_0 = true := by decide +kernel
theorem lkD_far : ∀ t ∈ lkB_far, ij_chk cL_far t.2 = true := List.forall_mem_cons.mpr ⟨lkC_far_0, fun _ h => nomatch h⟩
set_option maxRecDepth 100000 in
theorem lkC_walk_0 : ij_chk cL_walk lkT_walk_0 = true := by decide +kernel
theorem lkD_walk : ∀ t ∈ lkB_walk, ij_chk cL_walk t.2 = true := List.forall_mem_cons.mpr ⟨lkC_walk_0, fun _ h => nomatch h⟩
set_option maxRecDepth 100000 in
theorem lkC_move_0 : ij_chk cL_move lkT_move_0 = true := by decide +kernel
theorem lkD_move : ∀ t ∈ lkB_move, ij_chk cL_move t.2 = true := List.forall_mem_cons.mpr ⟨lkC_move_0, fun _ h => nomatch h⟩
set_option maxRecDepth 100000 in
theorem lkC_order_0 : ij_chk cL_order lkT_order_0 = true := by decide +kernel
theorem lkD_order : ∀ t ∈ lkB_order, ij_chk cL_order t.2 = true := List.forall_mem_cons.mpr ⟨lkC_order_0, fun _ h => nomatch h⟩
set_option maxRecDepth 100000 in
theorem lkC_back_0 : ij_chk cL_back lkT_back_0 = true := by decide +kernel
theorem lkD_back : ∀ t ∈ lkB_back, ij_chk cL_back t.2 = true := List.forall_mem_cons.mpr ⟨lkC_back_0, fun _ h => nomatch h⟩
set_option maxRecDepth 100000 in
theorem lkC_apart_0 : ij_chk cL_apart lkT_apart_0 = true := by decide +kernel
theorem lkD_apart : ∀ t ∈ lkB_apart, ij_chk cL_apart t.2 = true := List.forall_mem_cons.mpr ⟨lkC_apart_0, fun _ h => nomatch h⟩
set_option maxRecDepth 100000 in
theorem lkC_side_0 : ij_chk cL_side lkT_side_0 = true := by decide +kernel
theorem lkD_side : ∀ t ∈ lkB_side, ij_chk cL_side t.2 = true := List.forall_mem_cons.mpr ⟨lkC_side_0, fun _ h => nomatch h⟩
set_option maxRecDepth 100000 in
theorem lkC_closed_0 : ij_chk cL_closed lkT_closed_0 = true := by decide +kernel
theorem lkD_closed : ∀ t ∈ lkB_closed, ij_chk cL_closed t.2 = true := List.forall_mem_cons.mpr ⟨lkC_closed_0, fun _ h => nomatch h⟩
set_option maxRecDepth 100000 in
theorem lkC_first_0 : ij_chk cL_first lkT_first_0 = true := by decide +kernel
theorem lkD_first : ∀ t ∈ lkB_first, ij_chk cL_first t.2 = true := List.forall_mem_cons.mpr ⟨lkC_first_0, fun _ h => nomatch h⟩
set_option maxRecDepth 100000 in
theorem lkC_steps_0 : ij_chk cL_steps lkT_steps_0 = true := by decide +kernel
theorem lkD_steps : ∀ t ∈ lkB_steps, ij_chk cL_steps t.2 = true := List.forall_mem_cons.mpr ⟨lkC_steps_0, fun _ h => nomatch h⟩
set_option maxRecDepth 100000 in
theorem lkC_ant_0 : ij_chk cL_ant lkT_ant_0 = true := by decide +kernel
theorem lkD_ant : ∀ t ∈ lkB_ant, ij_chk cL_ant t.2 = true := List.forall_mem_cons.mpr ⟨lkC_ant_0, fun _ h => nomatch h⟩
