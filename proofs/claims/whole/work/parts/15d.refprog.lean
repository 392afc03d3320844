/-! ===== the reference as a program of the pure picture ===== -/
def rk_tb : Nat → List (Nat × Instr × Nat) := ij_nth [] [rkT_thrown, rkT_right, rkT_copies, rkT_feed, rkT_puts, rkT_byteAt, rkT_isLetter, rkT_isDigit, rkT_steps0, rkT_letters, rkT_wrong, rkT_isGood, rkT_need, rkT_isCorners, rkT_isAnt, rkT_readsCorners, rkT_readsAnt, rkT_isBoard, rkT_board, rkT_fault, rkT_power, rkT_angles, rkT_classes, rkT_turns, rkT_spot, rkT_isHere, rkT_found, rkT_comes, rkT_rings, rkT_lays, rkT_isTile, rkT_isSide, rkT_count, rkT_corner, rkT_tile, rkT_across, rkT_names, rkT_name, rkT_ways, rkT_ring, rkT_divides, rkT_growth, rkT_walks0, rkT_isLong, rkT_walks, rkT_home, rkT_far, rkT_leads, rkT_walk, rkT_move, rkT_order, rkT_backOf, rkT_back, rkT_apart, rkT_side, rkT_lists, rkT_go, rkT_round, rkT_isRound, rkT_numbers, rkT_beside, rkT_isSmooth, rkT_takes, rkT_seeks, rkT_handles, rkT_isFirstBy, rkT_closed, rkT_first, rkT_goes, rkT_steps, rkT_ant, rkT_undo, rkT_redo, rkT_image, rkT_restore]
def rk_mb : Nat → ByteArray := ij_nth ⟨#[]⟩ [cX11_thrown, cX11_right, cX11_copies, cX11_feed, cX11_puts, cX11_byteAt, cX11_isLetter, cX11_isDigit, cX11_steps0, cX11_letters, cX11_wrong, cX11_isGood, cX11_need, cX11_isCorners, cX11_isAnt, cX11_readsCorners, cX11_readsAnt, cX11_isBoard, cX11_board, cX11_fault, cX11_power, cX11_angles, cX11_classes, cX11_turns, cX11_spot, cX11_isHere, cX11_found, cX11_comes, cX11_rings, cX11_lays, cX11_isTile, cX11_isSide, cX11_count, cX11_corner, cX11_tile, cX11_across, cX11_names, cX11_name, cX11_ways, cX11_ring, cX11_divides, cX11_growth, cX11_walks0, cX11_isLong, cX11_walks, cX11_home, cX11_far, cX11_leads, cX11_walk, cX11_move, cX11_order, cX11_backOf, cX11_back, cX11_apart, cX11_side, cX11_lists, cX11_go, cX11_round, cX11_isRound, cX11_numbers, cX11_beside, cX11_isSmooth, cX11_takes, cX11_seeks, cX11_handles, cX11_isFirstBy, cX11_closed, cX11_first, cX11_goes, cX11_steps, cX11_ant, cX11_undo, cX11_redo, cX11_image, cX11_restore]
def rk_my : Nat → MethodName := ij_nth yX11_thrown [yX11_thrown, yX11_right, yX11_copies, yX11_feed, yX11_puts, yX11_byteAt, yX11_isLetter, yX11_isDigit, yX11_steps0, yX11_letters, yX11_wrong, yX11_isGood, yX11_need, yX11_isCorners, yX11_isAnt, yX11_readsCorners, yX11_readsAnt, yX11_isBoard, yX11_board, yX11_fault, yX11_power, yX11_angles, yX11_classes, yX11_turns, yX11_spot, yX11_isHere, yX11_found, yX11_comes, yX11_rings, yX11_lays, yX11_isTile, yX11_isSide, yX11_count, yX11_corner, yX11_tile, yX11_across, yX11_names, yX11_name, yX11_ways, yX11_ring, yX11_divides, yX11_growth, yX11_walks0, yX11_isLong, yX11_walks, yX11_home, yX11_far, yX11_leads, yX11_walk, yX11_move, yX11_order, yX11_backOf, yX11_back, yX11_apart, yX11_side, yX11_lists, yX11_go, yX11_round, yX11_isRound, yX11_numbers, yX11_beside, yX11_isSmooth, yX11_takes, yX11_seeks, yX11_handles, yX11_isFirstBy, yX11_closed, yX11_first, yX11_goes, yX11_steps, yX11_ant, yX11_undo, yX11_redo, yX11_image, yX11_restore]
def rk_ml : Nat → Nat := ij_nth 0 [1, 3, 4, 6, 3, 2, 1, 1, 2, 9, 2, 1, 2, 1, 1, 1, 1, 3, 3, 1, 8, 6, 3, 8, 4, 3, 2, 5, 7, 6, 2, 2, 2, 2, 5, 3, 4, 3, 2, 2, 4, 4, 5, 3, 3, 2, 13, 6, 7, 3, 4, 5, 2, 4, 2, 5, 3, 5, 3, 6, 4, 3, 5, 3, 8, 6, 3, 4, 4, 3, 2, 1, 1, 1, 1]
def rk_mr : Nat → Option FieldType := ij_nth none [some .int, some .boolean, none, some .int, none, some .int, some .boolean, some .boolean, none, some .long, none, some .boolean, none, some .boolean, some .boolean, none, none, some .boolean, some .int, some .int, some .long, none, none, none, some .int, some .boolean, some .int, none, some .boolean, none, some .boolean, some .boolean, some .int, some .int, some .int, some .int, some .int, some .int, some .long, some .int, none, some .long, none, some .boolean, some .long, some .long, some .long, some .int, some .int, some .int, some .int, some .int, some .int, some .int, some .int, none, some .int, some .int, some .boolean, some .int, some .int, some .boolean, none, some .boolean, some .int, some .boolean, some .int, some .int, some .boolean, some .int, some .int, some .boolean, some .boolean, none, some .boolean]
def rk_ms : Nat → Bool := ij_nth false [false, false, false, false, false, false, true, true, false, true, false, false, false, false, false, false, false, false, false, false, true, false, false, false, false, false, false, false, false, false, false, false, false, false, false, false, false, false, false, false, false, false, false, false, false, false, false, false, false, false, false, false, false, false, false, false, false, false, false, false, false, false, false, false, false, false, false, false, false, false, false, false, false, false, false]
def rk_mn : Nat → Nat := ij_nth 0 [0, 2, 2, 5, 1, 1, 1, 1, 0, 7, 1, 0, 1, 0, 0, 0, 0, 0, 1, 0, 3, 0, 0, 2, 0, 1, 0, 3, 3, 0, 1, 1, 1, 1, 2, 2, 1, 2, 1, 1, 1, 1, 1, 2, 2, 1, 2, 2, 3, 2, 1, 1, 1, 2, 1, 1, 2, 2, 1, 1, 0, 0, 0, 1, 0, 2, 2, 3, 0, 1, 1, 0, 0, 0, 0]
def rk_pfl : List (Nat × Nat) := [(7, 1), (13, 2), (16, 3), (20, 4), (23, 5), (26, 8), (29, 9), (32, 19), (35, 20), (38, 23), (41, 24), (44, 25), (47, 26), (50, 27), (53, 28), (56, 29), (59, 30), (63, 31), (66, 32), (69, 33), (72, 34), (75, 35), (78, 36), (81, 37), (84, 38), (87, 40), (90, 41), (93, 42), (96, 43), (99, 44), (102, 45), (105, 46), (108, 47), (111, 48), (114, 49), (117, 50), (120, 51), (123, 64), (126, 65), (129, 66), (132, 68), (135, 69), (138, 70), (141, 71), (147, 0), (150, 6), (157, 10), (160, 11), (167, 13), (170, 16), (174, 15), (177, 12), (187, 14), (190, 7), (207, 17), (210, 18), (240, 67), (258, 39), (274, 21), (293, 22), (300, 59), (303, 60), (306, 61), (309, 62), (344, 53), (347, 52), (359, 55), (365, 57), (371, 56), (374, 58), (380, 54), (399, 63)]
def rk_pll : List (Nat × Int64) := [(244, 2), (246, 756605797), (248, 2147478481), (254, 2069758680), (256, 2147463361), (261, 1000003), (263, 31), (265, 8191), (324, 1000000000000000), (326, -1), (335, 7)]
def rk_pil : List (Nat × Int32) := [(383, 300000)]
def rk_pml : List (Nat × Nat) := [(144, 29), (153, 4), (163, 5), (180, 6), (184, 7), (193, 11), (197, 8), (200, 10), (203, 9), (213, 1), (217, 13), (220, 12), (224, 15), (227, 17), (230, 14), (233, 16), (236, 2), (250, 20), (267, 24), (271, 25), (277, 23), (281, 26), (284, 27), (288, 21), (291, 22), (296, 28), (312, 31), (315, 30), (318, 36), (321, 40), (328, 43), (332, 42), (337, 47), (341, 51), (350, 56), (353, 57), (356, 59), (362, 60), (368, 61), (377, 55), (384, 58), (387, 62), (390, 65), (393, 63), (396, 64), (402, 68)]
def rk_ftl : List Nat := [0, 0, 0, 3, 3, 3, 0, 0, 0, 3, 0, 0, 0, 0, 0, 0, 1, 0, 0, 3, 3, 0, 0, 3, 3, 3, 3, 3, 3, 3, 3, 3, 3, 3, 3, 3, 3, 3, 3, 0, 3, 3, 3, 3, 3, 3, 3, 3, 3, 3, 3, 3, 0, 0, 0, 0, 0, 0, 2, 0, 0, 0, 0, 0, 3, 3, 3, 2, 3, 3, 3, 3]
def rk_fwl : List Bool := [true, true, true, false, false, false, true, true, true, false, true, true, true, true, true, true, true, true, true, false, false, true, true, false, false, false, false, false, false, false, false, false, false, false, false, false, false, false, false, true, false, false, false, false, false, false, false, false, false, false, false, false, true, true, true, true, true, true, true, true, true, true, true, true, false, false, false, true, false, false, false, false]
def rk_dc : Nat → Nat → Option (Instr × Nat) := fun j pc => ij_look (rk_tb j) pc
def rk_P : ij_P := (rk_dc, fun _ i => (ij_look rk_pfl i).map (fun k => (11, k)), fun _ i => ij_look rk_pll i, fun _ i => ij_look rk_pil i, fun _ k => ij_nth 9 rk_ftl k, fun _ k => ij_nth false rk_fwl k, fun _ => 11, rk_ml)
def rk_M : ij_M := (fun _ i => ij_look rk_pml i, rk_ms, rk_mn, rk_mr)
def rk_K : ij_Ks := [.inl 11, .inr (0, 8), .inr (0, 8), .inr (0, 200), .inr (0, 3), .inr (0, 8), .inr (0, 8), .inr (0, 16000), .inr (0, 2000), .inr (0, 2000), .inr (0, 2000), .inr (0, 2000), .inr (0, 2000), .inr (0, 2000), .inr (1, 2000), .inr (1, 16000), .inr (1, 16000), .inr (1, 8), .inr (1, 8), .inr (1, 64), .inr (1, 64), .inr (0, 8192), .inr (0, 8), .inr (0, 2000), .inr (1, 61), .inr (1, 61), .inr (1, 61), .inr (1, 2000), .inr (1, 2000), .inr (0, 480), .inr (0, 8), .inr (0, 8), .inr (0, 6), .inr (0, 6), .inr (0, 8), .inr (0, 2000), .inr (0, 1000), .inr (0, 1000), .inr (0, 5), .inr (0, 2000), .inr (0, 1000), .inr (0, 1000)]
def rk_Rf : Nat → Nat := fun k => match k with
  | 3 => 1
  | 4 => 2
  | 5 => 3
  | 9 => 4
  | 19 => 5
  | 20 => 6
  | 23 => 7
  | 24 => 8
  | 25 => 9
  | 26 => 10
  | 27 => 11
  | 28 => 12
  | 29 => 13
  | 30 => 14
  | 31 => 15
  | 32 => 16
  | 33 => 17
  | 34 => 18
  | 35 => 19
  | 36 => 20
  | 37 => 21
  | 38 => 22
  | 40 => 23
  | 41 => 24
  | 42 => 25
  | 43 => 26
  | 44 => 27
  | 45 => 28
  | 46 => 29
  | 47 => 30
  | 48 => 31
  | 49 => 32
  | 50 => 33
  | 51 => 34
  | 64 => 35
  | 65 => 36
  | 66 => 37
  | 68 => 38
  | 69 => 39
  | 70 => 40
  | 71 => 41
  | _ => 0
/-- where the reference keeps its rows: field k of place 0 is at place rk_Rf k -/
def rk_R : Nat → Nat → Nat := fun p k => match p with
  | 0 => rk_Rf k
  | _ => 0
