theorem Ln1 : (-1 : Int32).toInt = -1 := by decide
theorem LLn1 : (-1 : Int64).toInt = -1 := by decide
theorem Ln100 : (-100 : Int32).toInt = -100 := by decide
theorem Ln2 : (-2 : Int32).toInt = -2 := by decide
theorem Ln3 : (-3 : Int32).toInt = -3 := by decide
theorem Ln4 : (-4 : Int32).toInt = -4 := by decide
theorem Ln5 : (-5 : Int32).toInt = -5 := by decide
theorem L0 : (0 : Int32).toInt = 0 := by decide
theorem LL0 : (0 : Int64).toInt = 0 := by decide
theorem L1 : (1 : Int32).toInt = 1 := by decide
theorem LL1 : (1 : Int64).toInt = 1 := by decide
theorem L10 : (10 : Int32).toInt = 10 := by decide
theorem L1000000 : (1000000 : Int32).toInt = 1000000 := by decide
theorem L10059 : (10059 : Int32).toInt = 10059 := by decide
theorem L1024 : (1024 : Int32).toInt = 1024 := by decide
theorem L103 : (103 : Int32).toInt = 103 := by decide
theorem L119 : (119 : Int32).toInt = 119 := by decide
theorem L12 : (12 : Int32).toInt = 12 := by decide
theorem L126 : (126 : Int32).toInt = 126 := by decide
theorem L14 : (14 : Int32).toInt = 14 := by decide
theorem L1431655765 : (1431655765 : Int32).toInt = 1431655765 := by decide
theorem L15 : (15 : Int32).toInt = 15 := by decide
theorem L16 : (16 : Int32).toInt = 16 := by decide
theorem L2 : (2 : Int32).toInt = 2 := by decide
theorem LL2 : (2 : Int64).toInt = 2 := by decide
theorem L20 : (20 : Int32).toInt = 20 := by decide
theorem L200 : (200 : Int32).toInt = 200 := by decide
theorem LL200 : (200 : Int64).toInt = 200 := by decide
theorem L24 : (24 : Int32).toInt = 24 := by decide
theorem L252645135 : (252645135 : Int32).toInt = 252645135 := by decide
theorem L255 : (255 : Int32).toInt = 255 := by decide
theorem L3 : (3 : Int32).toInt = 3 := by decide
theorem LL3 : (3 : Int64).toInt = 3 := by decide
theorem L30 : (30 : Int32).toInt = 30 := by decide
theorem L31 : (31 : Int32).toInt = 31 := by decide
theorem L4 : (4 : Int32).toInt = 4 := by decide
theorem L40 : (40 : Int32).toInt = 40 := by decide
theorem L4095 : (4095 : Int32).toInt = 4095 := by decide
theorem L4096 : (4096 : Int32).toInt = 4096 := by decide
theorem L4097 : (4097 : Int32).toInt = 4097 := by decide
theorem L48 : (48 : Int32).toInt = 48 := by decide
theorem LL48 : (48 : Int64).toInt = 48 := by decide
theorem L5 : (5 : Int32).toInt = 5 := by decide
theorem L57 : (57 : Int32).toInt = 57 := by decide
theorem LL57 : (57 : Int64).toInt = 57 := by decide
theorem L58 : (58 : Int32).toInt = 58 := by decide
theorem L59 : (59 : Int32).toInt = 59 := by decide
theorem L6 : (6 : Int32).toInt = 6 := by decide
theorem LL6 : (6 : Int64).toInt = 6 := by decide
theorem L60 : (60 : Int32).toInt = 60 := by decide
theorem LL60 : (60 : Int64).toInt = 60 := by decide
theorem L63 : (63 : Int32).toInt = 63 := by decide
theorem L64 : (64 : Int32).toInt = 64 := by decide
theorem L65 : (65 : Int32).toInt = 65 := by decide
theorem L65535 : (65535 : Int32).toInt = 65535 := by decide
theorem L7 : (7 : Int32).toInt = 7 := by decide
theorem L76 : (76 : Int32).toInt = 76 := by decide
theorem L8 : (8 : Int32).toInt = 8 := by decide
theorem LL8 : (8 : Int64).toInt = 8 := by decide
theorem L80 : (80 : Int32).toInt = 80 := by decide
theorem L858993459 : (858993459 : Int32).toInt = 858993459 := by decide
theorem L9 : (9 : Int32).toInt = 9 := by decide
theorem LL9 : (9 : Int64).toInt = 9 := by decide
theorem L97 : (97 : Int32).toInt = 97 := by decide
theorem L99 : (99 : Int32).toInt = 99 := by decide
theorem LL99 : (99 : Int64).toInt = 99 := by decide
theorem L9999 : (9999 : Int32).toInt = 9999 := by decide
theorem LL9999 : (9999 : Int64).toInt = 9999 := by decide
def wX8_append : List (Nat × Nat) := [(1, 1), (2, 999)]
def wX11_sign : List (Nat × Nat) := [(1, 1), (2, 999)]
def wX11_end : List (Nat × Nat) := [(1, 1)]
def wX8_cornerLetter : List (Nat × Nat) := [(1, 2)]
def wX8_digit : List (Nat × Nat) := [(1, 2)]
def wX8_longDigits : List (Nat × Nat) := [(1, 2)]
def wX8_skip : List (Nat × Nat) := [(1, 2)]
def wX8_marked : List (Nat × Nat) := [(1, 2)]
def wX8_readHedge : List (Nat × Nat) := [(1, 2), (1, 5), (6, 999), (7, 999), (8, 999), (9, 999), (10, 999), (11, 999), (12, 999), (13, 999)]
def wX8_readCorner : List (Nat × Nat) := [(1, 2), (1, 4), (4, 999), (5, 999)]
def wX8_readLine : List (Nat × Nat) := [(1, 2), (1, 4), (1, 5), (4, 999), (5, 999), (6, 999), (7, 999), (8, 999), (9, 999), (10, 999), (11, 999), (12, 999), (13, 999)]
def wX8_readLines : List (Nat × Nat) := [(1, 2), (1, 3), (1, 4), (1, 5), (3, 0), (3, 1), (4, 999), (5, 999), (6, 999), (7, 999), (8, 999), (9, 999), (10, 999), (11, 999), (12, 999), (13, 999)]
def wX11_land : List (Nat × Nat) := [(1, 1), (1, 2), (1, 3), (1, 4), (1, 5), (3, 0), (3, 1), (4, 999), (5, 999), (6, 999), (7, 999), (8, 999), (9, 999), (10, 999), (11, 999), (12, 999), (13, 999), (20, 0)]
def wX11_setDigit : List (Nat × Nat) := [(11, 999)]
def wX11_setDigit_i1 : List (Nat × Nat) := [(12, 999)]
def wX11_setNights : List (Nat × Nat) := [(3, 2)]
def wX11_setFrost : List (Nat × Nat) := [(3, 3)]
def wX11_set : List (Nat × Nat) := [(3, 2), (3, 3), (11, 999), (12, 999)]
def wX11_sheet : List (Nat × Nat) := [(8, 999)]
def wX7_remember : List (Nat × Nat) := [(20, 0), (20, 1), (21, 999), (22, 999), (23, 999), (24, 999)]
def wX6_step : List (Nat × Nat) := [(16, 0), (16, 1), (17, 999)]
def wX11_walk : List (Nat × Nat) := [(16, 0), (16, 1), (17, 999), (20, 0), (20, 1), (21, 999), (22, 999), (23, 999), (24, 999)]
def wX11_rest : List (Nat × Nat) := [(16, 1), (20, 0)]
def wX7_takeBack : List (Nat × Nat) := [(16, 0), (16, 1), (17, 999), (20, 0), (20, 1)]
def wX11_undo : List (Nat × Nat) := [(16, 0), (16, 1), (17, 999), (20, 0), (20, 1)]
def wX6_beginAt : List (Nat × Nat) := [(16, 0), (16, 1), (17, 999)]
def wX11_go : List (Nat × Nat) := [(16, 0), (16, 1), (17, 999), (20, 0)]
def wX9_lay : List (Nat × Nat) := [(58, 0), (58, 1), (58, 2), (59, 999)]
def wX9_schedule : List (Nat × Nat) := [(60, 999), (61, 999)]
def wX5_clear : List (Nat × Nat) := [(14, 1)]
def wX5_add : List (Nat × Nat) := [(14, 1), (15, 999)]
def wX5_tell : List (Nat × Nat) := [(14, 1), (15, 999)]
def wX9_lay_i1 : List (Nat × Nat) := [(62, 0), (62, 1), (62, 2), (63, 999)]
def wX9_schedule_i1 : List (Nat × Nat) := [(64, 999), (65, 999)]
def wX11_tour : List (Nat × Nat) := [(1, 1), (14, 1), (15, 999), (58, 0), (58, 1), (58, 2), (59, 999), (60, 999), (61, 999), (62, 0), (62, 1), (62, 2), (63, 999), (64, 999), (65, 999)]
def wX6_copyFrom : List (Nat × Nat) := [(18, 0), (18, 1), (19, 999)]
def wX6_step_i1 : List (Nat × Nat) := [(18, 0), (18, 1), (19, 999)]
def wX11_look : List (Nat × Nat) := [(14, 1), (15, 999), (18, 0), (18, 1), (19, 999)]
def wX11_scheduleBoth : List (Nat × Nat) := [(60, 999), (61, 999), (64, 999), (65, 999)]
def wX11_meets : List (Nat × Nat) := [(14, 1), (15, 999), (60, 999), (61, 999), (64, 999), (65, 999)]
def wX11_apart : List (Nat × Nat) := [(60, 999), (61, 999), (64, 999), (65, 999)]
def wX6_toNextDay : List (Nat × Nat) := [(16, 1)]
def wX11_season : List (Nat × Nat) := [(14, 1), (15, 999), (16, 0), (16, 1), (17, 999), (20, 0)]
def wX11_odd : List (Nat × Nat) := [(14, 1), (15, 999)]
def wX11_men : List (Nat × Nat) := [(14, 1), (15, 999)]
def wX4_leastTrail : List (Nat × Nat) := [(14, 1), (15, 999)]
def wX11_trail : List (Nat × Nat) := [(14, 1), (15, 999)]
def wX4_sortEnds : List (Nat × Nat) := [(27, 999), (28, 999)]
def wX4_cheapestTurns : List (Nat × Nat) := [(27, 999), (28, 999)]
def wX11_round : List (Nat × Nat) := [(14, 1), (15, 999), (27, 999), (28, 999)]
def wX4_tellPairs : List (Nat × Nat) := [(14, 1), (15, 999)]
def wX3_put : List (Nat × Nat) := []
def wX4_leastGrass : List (Nat × Nat) := [(14, 1), (15, 999)]
def wX11_closed : List (Nat × Nat) := [(14, 1), (15, 999)]
def wX11_open : List (Nat × Nat) := [(14, 1), (15, 999)]
def wX3_fillWithForever : List (Nat × Nat) := []
def wX3_put_i1 : List (Nat × Nat) := []
def wX10_extend : List (Nat × Nat) := []
def wX10_explore : List (Nat × Nat) := [(31, 1)]
def wX11_mostWorth : List (Nat × Nat) := [(14, 1), (15, 999), (31, 1)]
def wX11_most : List (Nat × Nat) := [(14, 1), (15, 999), (31, 1)]
def wX11_home : List (Nat × Nat) := [(14, 1), (15, 999), (31, 1)]
def wX11_soon : List (Nat × Nat) := [(14, 1), (15, 999), (31, 1)]
def wX1_layPaths : List (Nat × Nat) := [(39, 999), (40, 999), (41, 999), (42, 999), (43, 999), (44, 999), (45, 999), (46, 999), (47, 999), (48, 999)]
def wX1_shortenPaths : List (Nat × Nat) := [(39, 999), (40, 999), (41, 999), (42, 999), (43, 999), (44, 999), (45, 999), (46, 999), (47, 999), (48, 999)]
def wX1_numberInPart : List (Nat × Nat) := [(36, 999), (37, 999)]
def wX1_prepare : List (Nat × Nat) := [(34, 1), (34, 2), (35, 999), (36, 999), (37, 999), (39, 999), (40, 999), (41, 999), (42, 999), (43, 999), (44, 999), (45, 999), (46, 999), (47, 999), (48, 999)]
def wX3_put_i2 : List (Nat × Nat) := []
def wX1_fewestMinutes : List (Nat × Nat) := []
def wX1_tellLeastOrder : List (Nat × Nat) := [(14, 1), (15, 999)]
def wX11_gates : List (Nat × Nat) := [(14, 1), (15, 999), (34, 1), (34, 2), (35, 999), (36, 999), (37, 999), (39, 999), (40, 999), (41, 999), (42, 999), (43, 999), (44, 999), (45, 999), (46, 999), (47, 999), (48, 999)]
def wX0_hear : List (Nat × Nat) := [(51, 0), (53, 999), (54, 999)]
def wX11_heard : List (Nat × Nat) := [(51, 0), (53, 999), (54, 999)]
def wX11_forget : List (Nat × Nat) := [(51, 0)]
def wX0_findWays : List (Nat × Nat) := [(51, 1)]
def wX11_lands : List (Nat × Nat) := [(14, 1), (15, 999), (51, 1)]
def wX11_sure : List (Nat × Nat) := [(14, 1), (15, 999), (51, 1)]
def wX0_mostLeft : List (Nat × Nat) := [(55, 999)]
def wX11_next : List (Nat × Nat) := [(14, 1), (15, 999), (51, 1), (55, 999)]
def wX11_lies : List (Nat × Nat) := [(14, 1), (15, 999)]
def wX11_quarrel : List (Nat × Nat) := [(14, 1), (15, 999)]
def wX6_copyFrom_i1 : List (Nat × Nat) := [(66, 0), (66, 1), (67, 999)]
def wX6_copyFrom_i2 : List (Nat × Nat) := [(68, 0), (68, 1), (69, 999)]
def wX6_copyFrom_i3 : List (Nat × Nat) := [(70, 0), (70, 1), (71, 999)]
def wX11_keep : List (Nat × Nat) := [(57, 999), (66, 0), (66, 1), (67, 999), (68, 0), (68, 1), (69, 999), (70, 0), (70, 1), (71, 999)]
def wX6_copyFrom_i4 : List (Nat × Nat) := [(16, 0), (16, 1), (17, 999)]
def wX6_copyFrom_i5 : List (Nat × Nat) := [(16, 0), (16, 1), (17, 999)]
def wX6_copyFrom_i6 : List (Nat × Nat) := [(16, 0), (16, 1), (17, 999)]
def wX11_again : List (Nat × Nat) := [(16, 0), (16, 1), (17, 999), (20, 0)]
def wX12_sign : List (Nat × Nat) := [(72, 0), (72, 21), (84, 999)]
def wX12_end : List (Nat × Nat) := [(72, 0), (72, 21)]
def wX12_begins : List (Nat × Nat) := [(72, 21), (72, 22), (72, 23)]
def wX12_cornerBut : List (Nat × Nat) := [(72, 22)]
def wX12_digit : List (Nat × Nat) := [(72, 22)]
def wX12_number : List (Nat × Nat) := [(72, 22)]
def wX12_takes : List (Nat × Nat) := [(72, 22)]
def wX12_readsHedge : List (Nat × Nat) := [(72, 22), (72, 25), (72, 26), (76, 999), (77, 999), (78, 999), (79, 999), (80, 999), (81, 999), (82, 999), (83, 999)]
def wX12_readsCorner : List (Nat × Nat) := [(72, 22), (72, 24), (74, 999), (75, 999)]
def wX12_land : List (Nat × Nat) := [(72, 0), (72, 3), (72, 6), (72, 14), (72, 21), (72, 22), (72, 23), (72, 24), (72, 25), (72, 26), (72, 27), (74, 999), (75, 999), (76, 999), (77, 999), (78, 999), (79, 999), (80, 999), (81, 999), (82, 999), (83, 999)]
def wX12_refuse : List (Nat × Nat) := [(72, 0)]
def wX12_hedge : List (Nat × Nat) := [(72, 0)]
def wX12_grass : List (Nat × Nat) := [(72, 0)]
def wX12_set : List (Nat × Nat) := [(72, 0), (72, 15), (72, 16), (81, 999), (82, 999)]
def wX12_sheet : List (Nat × Nat) := [(72, 0), (78, 999)]
def wX12_putsBy : List (Nat × Nat) := [(72, 27), (85, 999), (86, 999), (87, 999), (88, 999)]
def wX12_walks : List (Nat × Nat) := [(72, 17), (72, 18), (83, 999)]
def wX12_walk : List (Nat × Nat) := [(72, 0), (72, 17), (72, 18), (72, 27), (83, 999), (85, 999), (86, 999), (87, 999), (88, 999)]
def wX12_rest : List (Nat × Nat) := [(72, 0), (72, 18), (72, 27)]
def wX12_undo : List (Nat × Nat) := [(72, 0), (72, 17), (72, 18), (72, 27), (83, 999)]
def wX12_go : List (Nat × Nat) := [(72, 0), (72, 17), (72, 18), (72, 27), (83, 999)]
def wX12_can : List (Nat × Nat) := [(72, 0)]
def wX12_enters : List (Nat × Nat) := [(72, 1), (73, 999)]
def wX12_tour : List (Nat × Nat) := [(72, 0), (72, 1), (72, 21), (72, 22), (72, 23), (72, 24), (73, 999), (89, 999), (90, 999), (91, 999), (92, 999)]
def wX12_putsWalker : List (Nat × Nat) := [(72, 36), (72, 37), (93, 999)]
def wX12_putsBack : List (Nat × Nat) := [(72, 17), (72, 18), (83, 999)]
def wX12_look : List (Nat × Nat) := [(72, 0), (72, 1), (72, 17), (72, 18), (72, 36), (72, 37), (73, 999), (83, 999), (93, 999)]
def wX12_cornerOf : List (Nat × Nat) := [(72, 39)]
def wX12_meetsBy : List (Nat × Nat) := [(72, 39)]
def wX12_meets : List (Nat × Nat) := [(72, 0), (72, 1), (72, 39), (73, 999)]
def wX12_apart : List (Nat × Nat) := [(72, 0), (72, 39)]
def wX12_sleeps : List (Nat × Nat) := [(72, 18)]
def wX12_season : List (Nat × Nat) := [(72, 0), (72, 1), (72, 17), (72, 18), (72, 27), (73, 999), (83, 999)]
def wX12_odd : List (Nat × Nat) := [(72, 0), (72, 1), (73, 999)]
def wX12_parts : List (Nat × Nat) := [(94, 999)]
def wX12_men : List (Nat × Nat) := [(72, 0), (72, 1), (73, 999), (94, 999)]
def wX12_canTrail : List (Nat × Nat) := [(94, 999)]
def wX12_trail : List (Nat × Nat) := [(72, 0), (72, 1), (73, 999), (94, 999)]
def wX12_hangTogether : List (Nat × Nat) := [(94, 999)]
def wX12_isEven : List (Nat × Nat) := [(95, 999)]
def wX12_round : List (Nat × Nat) := [(72, 0), (72, 1), (73, 999), (94, 999), (95, 999)]
def wX12_couples : List (Nat × Nat) := [(72, 42), (72, 45), (72, 46), (96, 999), (97, 999)]
def wX12_couplesR : List (Nat × Nat) := [(72, 42), (72, 45), (72, 46), (96, 999), (97, 999)]
def wX12_couplesN : List (Nat × Nat) := [(72, 42), (72, 45), (72, 46), (96, 999), (97, 999)]
def wX12_pairsBy : List (Nat × Nat) := [(72, 1), (72, 42), (72, 45), (72, 46), (73, 999), (94, 999), (96, 999), (97, 999)]
def wX12_closed : List (Nat × Nat) := [(72, 0), (72, 1), (72, 42), (72, 45), (72, 46), (73, 999), (94, 999), (96, 999), (97, 999)]
def wX12_open : List (Nat × Nat) := [(72, 0), (72, 1), (72, 42), (72, 45), (72, 46), (73, 999), (94, 999), (96, 999), (97, 999)]
def wX12_laysOut : List (Nat × Nat) := [(98, 999)]
def wX12_mostBy : List (Nat × Nat) := [(72, 1), (73, 999), (98, 999)]
def wX12_most : List (Nat × Nat) := [(72, 0), (72, 1), (73, 999), (98, 999)]
def wX12_home : List (Nat × Nat) := [(72, 0), (72, 1), (73, 999), (98, 999)]
def wX12_soon : List (Nat × Nat) := [(72, 0), (72, 1), (73, 999), (98, 999)]
def wX12_bridges : List (Nat × Nat) := [(72, 0), (94, 999)]
def wX12_reach : List (Nat × Nat) := [(72, 0), (94, 999)]
def wX12_shortens : List (Nat × Nat) := [(99, 999)]
def wX12_measures : List (Nat × Nat) := [(99, 999)]
def wX12_laysOutGates : List (Nat × Nat) := [(98, 999), (99, 999)]
def wX12_comesTo : List (Nat × Nat) := [(101, 999)]
def wX12_goesThrough : List (Nat × Nat) := [(100, 999), (101, 999)]
def wX12_gates : List (Nat × Nat) := [(72, 0), (72, 1), (73, 999), (98, 999), (99, 999), (100, 999), (101, 999)]
def wX12_heard : List (Nat × Nat) := [(72, 0), (72, 51), (102, 999), (103, 999)]
def wX12_forget : List (Nat × Nat) := [(72, 0), (72, 51)]
def wX12_lands : List (Nat × Nat) := [(72, 0), (72, 1), (73, 999)]
def wX12_sure : List (Nat × Nat) := [(72, 0), (72, 1), (73, 999)]
def wX12_next : List (Nat × Nat) := [(72, 0), (72, 1), (73, 999), (104, 999)]
def wX12_lies : List (Nat × Nat) := [(72, 0), (72, 1), (73, 999)]
def wX12_quarrel : List (Nat × Nat) := [(72, 0), (72, 1), (73, 999)]
def wX12_keep : List (Nat × Nat) := [(72, 0), (105, 999), (106, 999)]
def wX12_again : List (Nat × Nat) := [(72, 0), (72, 17), (72, 18), (72, 27), (83, 999)]
def wX12_count : List (Nat × Nat) := [(72, 0)]
def wX12_row : List (Nat × Nat) := [(72, 0)]
