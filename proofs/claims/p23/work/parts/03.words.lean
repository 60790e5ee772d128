abbrev mj_M : Type := Nat → Nat → Int32
abbrev mj_K : Type := Nat → Int32 → mj_M → Prop
abbrev mj_D : Type := (Nat × List (Option Nat)) ⊕ (Nat × Nat)
abbrev mj_I : Type := Instr × Nat × Nat × List Nat
-- written by a program (wip/p23/gen/tab.py): methods, shapes, words
abbrev k2_has : Nat := 0
abbrev k2_add : Nat := 1
abbrev k2_isStreet : Nat := 2
abbrev k2_waiting : Nat := 3
abbrev k2_places : Nat := 4
abbrev k2_setAlarms : Nat := 5
abbrev k2_copyFrom : Nat := 6
abbrev k0_has : Nat := 7
abbrev k0_add : Nat := 8
abbrev k0_announceClosings : Nat := 9
abbrev k0_rateAsItIs : Nat := 10
abbrev k0_isClosed : Nat := 11
abbrev k0_roomBehind : Nat := 12
abbrev k0_isOpenTo : Nat := 13
abbrev k0_carries : Nat := 14
abbrev k0_goesForth : Nat := 15
abbrev k0_goesBack : Nat := 16
abbrev k0_copyFrom : Nat := 17
abbrev k1_has : Nat := 18
abbrev k1_add : Nat := 19
abbrev k1_isWaiting : Nat := 20
abbrev k1_isInside : Nat := 21
abbrev k1_isKnowing : Nat := 22
abbrev k1_isAnyInside : Nat := 23
abbrev k1_firstForTrain : Nat := 24
abbrev k1_isAhead : Nat := 25
abbrev k1_copyFrom : Nat := 26
abbrev k4_has : Nat := 27
abbrev k4_add : Nat := 28
abbrev k4_isThere : Nat := 29
abbrev k4_isOneAt : Nat := 30
abbrev k4_copyFrom : Nat := 31
abbrev k5_distance : Nat := 32
abbrev k5_next : Nat := 33
abbrev k5_reckon : Nat := 34
abbrev k5_cell : Nat := 35
abbrev k5_clean : Nat := 36
abbrev k5_lay : Nat := 37
abbrev k5_join : Nat := 38
abbrev k5_choose : Nat := 39
abbrev k5_copyFrom : Nat := 40
abbrev k3_copyFrom : Nat := 41
abbrev k3_reckonWays : Nat := 42
abbrev k3_distance : Nat := 43
abbrev k3_nextLink : Nat := 44
abbrev k3_waitingFor : Nat := 45
abbrev k3_comeFromOutside : Nat := 46
abbrev k3_alight : Nat := 47
abbrev k3_goOutAtGoal : Nat := 48
abbrev k3_orderToClear : Nat := 49
abbrev k3_takeNearestStreet : Nat := 50
abbrev k3_passSecond : Nat := 51
abbrev k3_arrive : Nat := 52
abbrev k3_serve : Nat := 53
abbrev k3_goAboard : Nat := 54
abbrev k3_chooseNextLinks : Nat := 55
abbrev k3_beginOn : Nat := 56
abbrev k3_lineUp : Nat := 57
abbrev k3_lineUpPerson : Nat := 58
abbrev k3_beginTogether : Nat := 59
abbrev k3_sizeOfReadyParty : Nat := 60
abbrev k3_hasPlaceFor : Nat := 61
abbrev k3_begin : Nat := 62
abbrev k6_room : Nat := 63
abbrev k6_link : Nat := 64
abbrev k6_close : Nat := 65
abbrev k6_announce : Nat := 66
abbrev k6_turn : Nat := 67
abbrev k6_stop : Nat := 68
abbrev k6_meter : Nat := 69
abbrev k6_enter : Nat := 70
abbrev k6_train : Nat := 71
abbrev k6_clear : Nat := 72
abbrev k6_pass : Nat := 73
abbrev k6_now : Nat := 74
abbrev k6_ofRoom : Nat := 75
abbrev k6_ofLink : Nat := 76
abbrev k6_person : Nat := 77
abbrev k6_ofTrain : Nat := 78
abbrev k6_foretell : Nat := 79
abbrev k6_clears : Nat := 80
abbrev k6_alone : Nat := 81
abbrev k6_aloneAnew : Nat := 82
abbrev k6_needRange : Nat := 83
abbrev k6_needFit : Nat := 84
abbrev k6_needPlace : Nat := 85
abbrev k6_needRoom : Nat := 86
abbrev k6_needLink : Nat := 87
abbrev k6_needPerson : Nat := 88
abbrev k6_needTrain : Nat := 89
abbrev k6_tryAllWays : Nat := 90
abbrev k7_from : Nat := 91
abbrev k7_to : Nat := 92
abbrev k7_distance : Nat := 93
abbrev k7_next : Nat := 94
abbrev k7_many : Nat := 95
abbrev k7_places : Nat := 96
abbrev k7_out : Nat := 97
abbrev k7_come : Nat := 98
abbrev k7_board : Nat := 99
abbrev k7_isAhead : Nat := 100
abbrev k7_serve : Nat := 101
abbrev k7_second : Nat := 102
abbrev k7_clear : Nat := 103
abbrev k7_copy : Nat := 104
abbrev k7_foretold : Nat := 105
abbrev k7_isClear : Nat := 106
abbrev k7_isSame : Nat := 107
abbrev k7_isEntered : Nat := 108
abbrev k7_isTrain : Nat := 109
abbrev k7_isLink : Nat := 110
abbrev k7_isBegun : Nat := 111
abbrev k7_holds : Nat := 112
def mj_N : Nat := 113
def mj_yT : List MethodName := [yX2_has, yX2_add, yX2_isStreet, yX2_waiting, yX2_places, yX2_setAlarms, yX2_copyFrom, yX0_has, yX0_add, yX0_announceClosings, yX0_rateAsItIs, yX0_isClosed, yX0_roomBehind, yX0_isOpenTo, yX0_carries, yX0_goesForth, yX0_goesBack, yX0_copyFrom, yX1_has, yX1_add, yX1_isWaiting, yX1_isInside, yX1_isKnowing, yX1_isAnyInside, yX1_firstForTrain, yX1_isAhead, yX1_copyFrom, yX4_has, yX4_add, yX4_isThere, yX4_isOneAt, yX4_copyFrom, yX5_distance, yX5_next, yX5_reckon, yX5_cell, yX5_clean, yX5_lay, yX5_join, yX5_choose, yX5_copyFrom, yX3_copyFrom, yX3_reckonWays, yX3_distance, yX3_nextLink, yX3_waitingFor, yX3_comeFromOutside, yX3_alight, yX3_goOutAtGoal, yX3_orderToClear, yX3_takeNearestStreet, yX3_passSecond, yX3_arrive, yX3_serve, yX3_goAboard, yX3_chooseNextLinks, yX3_beginOn, yX3_lineUp, yX3_lineUpPerson, yX3_beginTogether, yX3_sizeOfReadyParty, yX3_hasPlaceFor, yX3_begin, yX6_room, yX6_link, yX6_close, yX6_announce, yX6_turn, yX6_stop, yX6_meter, yX6_enter, yX6_train, yX6_clear, yX6_pass, yX6_now, yX6_ofRoom, yX6_ofLink, yX6_person, yX6_ofTrain, yX6_foretell, yX6_clears, yX6_alone, yX6_aloneAnew, yX6_needRange, yX6_needFit, yX6_needPlace, yX6_needRoom, yX6_needLink, yX6_needPerson, yX6_needTrain, yX6_tryAllWays, yL_from, yL_to, yL_distance, yL_next, yL_many, yL_places, yL_out, yL_come, yL_board, yL_isAhead, yL_serve, yL_second, yL_clear, yL_copy, yL_foretold, yL_isClear, yL_isSame, yL_isEntered, yL_isTrain, yL_isLink, yL_isBegun, yL_holds]
def mj_cT : List ByteArray := [cX2_has, cX2_add, cX2_isStreet, cX2_waiting, cX2_places, cX2_setAlarms, cX2_copyFrom, cX0_has, cX0_add, cX0_announceClosings, cX0_rateAsItIs, cX0_isClosed, cX0_roomBehind, cX0_isOpenTo, cX0_carries, cX0_goesForth, cX0_goesBack, cX0_copyFrom, cX1_has, cX1_add, cX1_isWaiting, cX1_isInside, cX1_isKnowing, cX1_isAnyInside, cX1_firstForTrain, cX1_isAhead, cX1_copyFrom, cX4_has, cX4_add, cX4_isThere, cX4_isOneAt, cX4_copyFrom, cX5_distance, cX5_next, cX5_reckon, cX5_cell, cX5_clean, cX5_lay, cX5_join, cX5_choose, cX5_copyFrom, cX3_copyFrom, cX3_reckonWays, cX3_distance, cX3_nextLink, cX3_waitingFor, cX3_comeFromOutside, cX3_alight, cX3_goOutAtGoal, cX3_orderToClear, cX3_takeNearestStreet, cX3_passSecond, cX3_arrive, cX3_serve, cX3_goAboard, cX3_chooseNextLinks, cX3_beginOn, cX3_lineUp, cX3_lineUpPerson, cX3_beginTogether, cX3_sizeOfReadyParty, cX3_hasPlaceFor, cX3_begin, cX6_room, cX6_link, cX6_close, cX6_announce, cX6_turn, cX6_stop, cX6_meter, cX6_enter, cX6_train, cX6_clear, cX6_pass, cX6_now, cX6_ofRoom, cX6_ofLink, cX6_person, cX6_ofTrain, cX6_foretell, cX6_clears, cX6_alone, cX6_aloneAnew, cX6_needRange, cX6_needFit, cX6_needPlace, cX6_needRoom, cX6_needLink, cX6_needPerson, cX6_needTrain, cX6_tryAllWays, cL_from, cL_to, cL_distance, cL_next, cL_many, cL_places, cL_out, cL_come, cL_board, cL_isAhead, cL_serve, cL_second, cL_clear, cL_copy, cL_foretold, cL_isClear, cL_isSame, cL_isEntered, cL_isTrain, cL_isLink, cL_isBegun, cL_holds]
def mj_nT : List Nat := [2, 4, 2, 2, 3, 3, 3, 2, 7, 3, 2, 2, 4, 3, 3, 2, 2, 3, 2, 7, 2, 2, 2, 2, 5, 5, 3, 2, 6, 2, 3, 3, 5, 5, 6, 4, 4, 6, 9, 9, 3, 2, 1, 2, 2, 4, 6, 7, 3, 3, 8, 2, 3, 5, 3, 2, 4, 4, 4, 6, 7, 7, 5, 4, 7, 4, 2, 3, 4, 4, 7, 7, 1, 3, 1, 3, 3, 3, 3, 4, 2, 2, 4, 3, 1, 1, 2, 2, 2, 2, 10, 4, 10, 11, 10, 6, 4, 4, 4, 12, 6, 18, 9, 10, 4, 14, 4, 14, 8, 13, 9, 11, 14]
def mj_rT : List (Option FieldType) := [some .boolean, some .int, some .boolean, some .int, some .int, none, none, some .boolean, some .int, some .int, some .int, some .boolean, some .int, some .boolean, some .boolean, some .boolean, some .boolean, none, some .boolean, some .int, some .boolean, some .boolean, some .boolean, some .boolean, some .int, some .boolean, none, some .boolean, some .int, some .boolean, some .boolean, none, some .int, some .int, none, some .int, none, none, none, none, none, none, none, some .int, some .int, some .int, some .int, some .int, none, some .int, some .boolean, none, none, none, none, none, none, none, none, none, some .int, some .boolean, none, some .int, some .int, some .boolean, some .int, some .boolean, some .boolean, some .int, some .int, some .int, some .int, some .int, some .int, some .int, some .int, some .int, some .int, some .int, some .int, some .int, some .int, none, none, none, none, none, none, none, some .int, some .int, some .int, some .int, some .int, some .int, some .int, none, none, none, some .boolean, none, none, some .int, none, some .int, some .boolean, some .boolean, some .boolean, some .boolean, some .boolean, some .boolean, some .boolean]
def mj_lT : List Nat := [0, 0, 0, 0, 0, 0, 2, 0, 0, 0, 0, 0, 0, 0, 0, 0, 0, 2, 0, 0, 0, 0, 0, 0, 0, 0, 2, 0, 0, 0, 0, 2, 0, 0, 0, 0, 0, 0, 0, 0, 2, 2, 0, 0, 0, 0, 0, 0, 0, 0, 0, 0, 0, 0, 0, 0, 0, 0, 0, 0, 0, 0, 0, 2, 2, 2, 2, 2, 2, 2, 2, 2, 2, 2, 2, 2, 2, 2, 2, 2, 2, 2, 2, 2, 2, 2, 2, 2, 2, 2, 2, 9, 1, 1, 1, 1, 1, 1, 1, 1, 1, 3, 1, 1, 8, 1, 1, 9, 9, 9, 9, 9, 9]
def mj_hT : List Nat := [1, 1, 2, 2, 2, 3, 1, 1, 1, 1, 2, 2, 2, 1, 1, 1, 1, 1, 1, 1, 2, 2, 2, 3, 3, 2, 1, 1, 1, 2, 3, 1, 2, 2, 4, 1, 1, 3, 1, 3, 1, 2, 5, 3, 3, 4, 4, 5, 3, 6, 3, 6, 4, 4, 2, 4, 5, 4, 3, 4, 3, 3, 3, 6, 6, 6, 6, 6, 6, 3, 5, 6, 7, 7, 1, 3, 5, 4, 3, 7, 7, 4, 16, 1, 1, 1, 2, 2, 2, 2, 3, 1, 1, 2, 3, 1, 2, 1, 2, 1, 1, 3, 4, 3, 1, 5, 1, 17, 6, 7, 7, 7, 18]
def mj_mT : List Nat := [0, 0, 0, 0, 0, 0, 0, 0, 0, 0, 0, 0, 0, 0, 0, 0, 0, 0, 0, 0, 0, 0, 0, 0, 0, 0, 0, 0, 0, 0, 0, 0, 0, 0, 0, 0, 0, 0, 0, 0, 0, 0, 0, 0, 0, 0, 0, 0, 0, 0, 0, 0, 0, 0, 0, 0, 0, 0, 0, 0, 0, 0, 0, 3, 7, 1, 0, 2, 2, 2, 6, 9, 0, 1, 0, 2, 2, 2, 2, 2, 0, 1, 1, 1, 1, 1, 1, 1, 1, 1, 0, 0, 0, 0, 0, 0, 0, 0, 0, 0, 0, 0, 1, 0, 0, 105, 0, 400, 20, 20, 40, 100, 30000]
def mj_xT : List Nat := [2, 2, 2, 2, 2, 2, 2, 0, 0, 0, 0, 0, 0, 0, 0, 0, 0, 0, 1, 1, 1, 1, 1, 1, 1, 1, 1, 4, 4, 4, 4, 4, 5, 5, 5, 5, 5, 5, 5, 5, 5, 3, 3, 3, 3, 3, 3, 3, 3, 3, 3, 3, 3, 3, 3, 3, 3, 3, 3, 3, 3, 3, 3, 6, 6, 6, 6, 6, 6, 6, 6, 6, 6, 6, 6, 6, 6, 6, 6, 6, 6, 6, 6, 6, 6, 6, 6, 6, 6, 6, 6, 7, 7, 7, 7, 7, 7, 7, 7, 7, 7, 7, 7, 7, 7, 7, 7, 7, 7, 7, 7, 7, 7]
def mj_aT : List Nat := [1, 2, 1, 1, 2, 0, 1, 1, 5, 0, 1, 1, 3, 2, 2, 1, 1, 1, 1, 5, 1, 1, 1, 0, 1, 3, 1, 1, 4, 1, 1, 1, 3, 3, 2, 3, 1, 4, 2, 4, 1, 1, 0, 1, 1, 1, 4, 3, 1, 0, 1, 0, 0, 1, 2, 0, 1, 1, 2, 2, 2, 3, 2, 2, 5, 2, 0, 1, 2, 2, 5, 5, 0, 1, 0, 2, 2, 2, 2, 2, 0, 1, 1, 3, 1, 1, 1, 1, 1, 1, 6, 3, 6, 6, 4, 4, 4, 3, 4, 5, 5, 6, 5, 4, 3, 7, 2, 7, 7, 8, 5, 5, 1]
def mj_RT : List String := [RX0, RX1, RX2, RX3, RX4, RX5, RX6, RL]
def mj_FL : List (Nat × Nat × Nat × Nat) := [(0, 9, 0, 2), (0, 15, 0, 3), (0, 18, 0, 4), (0, 21, 0, 5), (0, 24, 0, 6), (0, 27, 0, 7), (0, 30, 0, 8), (0, 33, 0, 9), (0, 37, 0, 10), (0, 40, 0, 11), (0, 43, 0, 12), (0, 46, 0, 0), (0, 67, 0, 1), (1, 9, 1, 1), (1, 15, 1, 2), (1, 18, 1, 3), (1, 21, 1, 4), (1, 24, 1, 5), (1, 27, 1, 6), (1, 30, 1, 7), (1, 34, 1, 0), (2, 9, 2, 1), (2, 15, 2, 2), (2, 18, 2, 3), (2, 21, 2, 4), (2, 24, 2, 5), (2, 27, 2, 6), (2, 31, 2, 0), (3, 12, 3, 0), (3, 21, 3, 1), (3, 28, 3, 2), (3, 35, 3, 3), (3, 42, 3, 4), (3, 46, 3, 6), (3, 50, 3, 7), (3, 69, 3, 5), (3, 73, 2, 0), (3, 84, 1, 4), (3, 87, 1, 2), (3, 90, 1, 3), (3, 102, 1, 0), (3, 112, 1, 7), (3, 116, 2, 1), (3, 119, 0, 1), (3, 123, 2, 4), (3, 146, 1, 1), (3, 149, 2, 5), (3, 164, 4, 0), (3, 171, 0, 0), (3, 172, 0, 9), (3, 181, 1, 6), (3, 182, 2, 3), (3, 188, 4, 1), (3, 191, 4, 2), (3, 194, 4, 5), (3, 204, 4, 3), (3, 207, 4, 4), (3, 220, 3, 9), (3, 223, 3, 8), (3, 230, 0, 2), (3, 246, 1, 5), (3, 258, 0, 3), (3, 261, 0, 7), (3, 264, 0, 8), (3, 267, 0, 5), (4, 9, 4, 1), (4, 15, 4, 2), (4, 18, 4, 3), (4, 21, 4, 4), (4, 24, 4, 5), (4, 27, 4, 6), (4, 30, 4, 0), (5, 9, 5, 0), (5, 15, 5, 1), (5, 32, 0, 0), (5, 38, 0, 3), (5, 45, 0, 4), (5, 58, 0, 5), (6, 10, 6, 0), (6, 16, 6, 1), (6, 23, 3, 0), (6, 27, 2, 0), (6, 51, 3, 1), (6, 55, 0, 0), (6, 64, 0, 9), (6, 72, 0, 2), (6, 76, 0, 11), (6, 79, 0, 12), (6, 82, 0, 6), (6, 89, 2, 1), (6, 90, 3, 2), (6, 94, 1, 0), (6, 101, 3, 3), (6, 105, 4, 0), (6, 123, 3, 5), (6, 130, 2, 3), (6, 133, 2, 6), (6, 136, 2, 4), (6, 139, 2, 5), (6, 142, 0, 7), (6, 145, 0, 8), (6, 157, 1, 1), (6, 160, 1, 2), (6, 163, 1, 3), (6, 172, 1, 7), (6, 175, 1, 6), (6, 179, 4, 5), (6, 182, 4, 6), (6, 188, 4, 3), (6, 202, 1, 4), (6, 243, 0, 5)]
def mj_ML : List (Nat × Nat × Nat) := [(0, 50, 7), (0, 54, 13), (0, 58, 14), (0, 61, 15), (0, 64, 16), (1, 38, 18), (1, 42, 21), (1, 45, 20), (2, 35, 0), (2, 48, 3), (3, 53, 6), (3, 57, 17), (3, 60, 26), (3, 63, 31), (3, 66, 40), (3, 76, 34), (3, 80, 18), (3, 93, 32), (3, 97, 20), (3, 100, 33), (3, 103, 44), (3, 107, 19), (3, 111, 0), (3, 126, 48), (3, 136, 4), (3, 139, 46), (3, 143, 2), (3, 152, 42), (3, 155, 21), (3, 158, 50), (3, 161, 52), (3, 165, 53), (3, 168, 55), (3, 175, 56), (3, 178, 5), (3, 185, 29), (3, 197, 24), (3, 200, 54), (3, 210, 27), (3, 211, 22), (3, 214, 11), (3, 217, 57), (3, 226, 59), (3, 229, 7), (3, 231, 58), (3, 235, 25), (3, 239, 60), (3, 242, 61), (3, 249, 62), (3, 252, 10), (3, 255, 12), (4, 34, 27), (4, 38, 29), (5, 18, 35), (5, 28, 36), (5, 41, 37), (5, 48, 38), (5, 52, 39), (5, 55, 12), (6, 19, 83), (6, 33, 85), (6, 37, 1), (6, 41, 42), (6, 44, 86), (6, 48, 84), (6, 58, 8), (6, 61, 87), (6, 68, 9), (6, 85, 2), (6, 97, 46), (6, 108, 30), (6, 111, 47), (6, 115, 28), (6, 117, 49), (6, 120, 51), (6, 126, 3), (6, 148, 45), (6, 151, 10), (6, 154, 88), (6, 166, 44), (6, 169, 22), (6, 176, 89), (6, 185, 29), (6, 191, 41), (6, 195, 23), (6, 199, 43), (6, 205, 90), (6, 223, 0), (6, 231, 7), (6, 234, 18), (6, 237, 27), (6, 240, 12), (7, 9, 92), (7, 15, 93), (7, 18, 95), (7, 22, 97), (7, 26, 100), (7, 30, 96), (7, 34, 98), (7, 38, 99), (7, 42, 94), (7, 45, 101), (7, 49, 104), (7, 52, 103), (7, 56, 106), (7, 60, 102), (7, 64, 74), (7, 70, 75), (7, 74, 76), (7, 77, 77), (7, 80, 81), (7, 84, 82), (7, 87, 78), (7, 90, 80), (7, 93, 105), (7, 97, 79), (7, 100, 70), (7, 104, 71), (7, 108, 65), (7, 112, 66), (7, 115, 69), (7, 118, 67), (7, 122, 68), (7, 125, 91), (7, 129, 63), (7, 133, 64), (7, 137, 111), (7, 141, 108), (7, 145, 73), (7, 148, 109), (7, 152, 110), (7, 156, 72), (7, 158, 107)]
def mj_Sh0 : List mj_D := [.inl (3, [some 1, some 8, some 20, some 28, some 35, none, some 38, some 39, none, none]), .inl (2, [none, some 2, some 3, some 4, some 5, some 6, some 7]), .inr (0, 10), .inr (0, 10), .inr (0, 10), .inr (0, 10), .inr (0, 10), .inr (1, 10), .inl (0, [none, none, some 9, some 10, some 11, some 12, some 13, some 14, some 15, some 16, some 17, some 18, some 19]), .inr (0, 14), .inr (0, 14), .inr (0, 14), .inr (0, 14), .inr (0, 14), .inr (0, 14), .inr (0, 14), .inr (1, 14), .inr (1, 14), .inr (1, 14), .inr (1, 14), .inl (1, [none, some 21, some 22, some 23, some 24, some 25, some 26, some 27]), .inr (0, 120), .inr (0, 120), .inr (0, 120), .inr (0, 120), .inr (0, 120), .inr (0, 120), .inr (1, 120), .inl (4, [none, some 29, some 30, some 31, some 32, some 33, some 34]), .inr (0, 12), .inr (0, 12), .inr (0, 12), .inr (0, 12), .inr (0, 12), .inr (0, 12), .inl (5, [some 36, some 37]), .inr (0, 400), .inr (0, 400), .inr (0, 120), .inr (0, 120)]
def mj_Sh1 : List mj_D := [.inr (0, 64), .inr (0, 55), .inr (0, 30), .inr (0, 18), .inr (0, 12)]
def mj_Sh2 : List mj_D := [.inl (6, [some 1, some 41]), .inl (3, [some 2, some 9, some 21, some 29, some 36, none, some 39, some 40, none, none]), .inl (2, [none, some 3, some 4, some 5, some 6, some 7, some 8]), .inr (0, 10), .inr (0, 10), .inr (0, 10), .inr (0, 10), .inr (0, 10), .inr (1, 10), .inl (0, [none, none, some 10, some 11, some 12, some 13, some 14, some 15, some 16, some 17, some 18, some 19, some 20]), .inr (0, 14), .inr (0, 14), .inr (0, 14), .inr (0, 14), .inr (0, 14), .inr (0, 14), .inr (0, 14), .inr (1, 14), .inr (1, 14), .inr (1, 14), .inr (1, 14), .inl (1, [none, some 22, some 23, some 24, some 25, some 26, some 27, some 28]), .inr (0, 120), .inr (0, 120), .inr (0, 120), .inr (0, 120), .inr (0, 120), .inr (0, 120), .inr (1, 120), .inl (4, [none, some 30, some 31, some 32, some 33, some 34, some 35]), .inr (0, 12), .inr (0, 12), .inr (0, 12), .inr (0, 12), .inr (0, 12), .inr (0, 12), .inl (5, [some 37, some 38]), .inr (0, 400), .inr (0, 400), .inr (0, 120), .inr (0, 120), .inl (3, [some 42, some 49, some 61, some 69, some 76, none, some 79, some 80, none, none]), .inl (2, [none, some 43, some 44, some 45, some 46, some 47, some 48]), .inr (0, 10), .inr (0, 10), .inr (0, 10), .inr (0, 10), .inr (0, 10), .inr (1, 10), .inl (0, [none, none, some 50, some 51, some 52, some 53, some 54, some 55, some 56, some 57, some 58, some 59, some 60]), .inr (0, 14), .inr (0, 14), .inr (0, 14), .inr (0, 14), .inr (0, 14), .inr (0, 14), .inr (0, 14), .inr (1, 14), .inr (1, 14), .inr (1, 14), .inr (1, 14), .inl (1, [none, some 62, some 63, some 64, some 65, some 66, some 67, some 68]), .inr (0, 120), .inr (0, 120), .inr (0, 120), .inr (0, 120), .inr (0, 120), .inr (0, 120), .inr (1, 120), .inl (4, [none, some 70, some 71, some 72, some 73, some 74, some 75]), .inr (0, 12), .inr (0, 12), .inr (0, 12), .inr (0, 12), .inr (0, 12), .inr (0, 12), .inl (5, [some 77, some 78]), .inr (0, 400), .inr (0, 400), .inr (0, 120), .inr (0, 120)]
def mj_Sh3 : List mj_D := [.inr (0, 64), .inr (0, 55), .inr (0, 30), .inr (0, 18), .inr (0, 12), .inr (0, 8)]
def mj_Sh4 : List mj_D := [.inr (0, 64), .inr (0, 55), .inr (0, 30), .inr (0, 18), .inr (0, 12), .inr (0, 64)]
def mj_Sh5 : List mj_D := [.inr (0, 64), .inr (0, 55), .inr (0, 30), .inr (0, 18), .inr (0, 12), .inr (0, 64), .inr (0, 55)]
def mj_Sh6 : List mj_D := [.inr (0, 64), .inr (0, 55), .inr (0, 30), .inr (0, 18), .inr (0, 12), .inr (0, 64), .inr (0, 55), .inr (0, 30)]
def mj_Sh7 : List mj_D := [.inr (0, 64), .inr (0, 55), .inr (0, 30), .inr (0, 18), .inr (0, 12), .inr (0, 64), .inr (0, 55), .inr (0, 30), .inr (0, 18)]
def mj_Sh8 : List mj_D := [.inr (0, 64), .inr (0, 55), .inr (0, 30), .inr (0, 18), .inr (0, 12), .inr (0, 64), .inr (0, 55), .inr (0, 30), .inr (0, 18), .inr (0, 12)]
def mj_Sh9 : List mj_D := [.inl (6, [some 1, some 41]), .inl (3, [some 2, some 9, some 21, some 29, some 36, none, some 39, some 40, none, none]), .inl (2, [none, some 3, some 4, some 5, some 6, some 7, some 8]), .inr (0, 10), .inr (0, 10), .inr (0, 10), .inr (0, 10), .inr (0, 10), .inr (1, 10), .inl (0, [none, none, some 10, some 11, some 12, some 13, some 14, some 15, some 16, some 17, some 18, some 19, some 20]), .inr (0, 14), .inr (0, 14), .inr (0, 14), .inr (0, 14), .inr (0, 14), .inr (0, 14), .inr (0, 14), .inr (1, 14), .inr (1, 14), .inr (1, 14), .inr (1, 14), .inl (1, [none, some 22, some 23, some 24, some 25, some 26, some 27, some 28]), .inr (0, 120), .inr (0, 120), .inr (0, 120), .inr (0, 120), .inr (0, 120), .inr (0, 120), .inr (1, 120), .inl (4, [none, some 30, some 31, some 32, some 33, some 34, some 35]), .inr (0, 12), .inr (0, 12), .inr (0, 12), .inr (0, 12), .inr (0, 12), .inr (0, 12), .inl (5, [some 37, some 38]), .inr (0, 400), .inr (0, 400), .inr (0, 120), .inr (0, 120), .inl (3, [some 42, some 49, some 61, some 69, some 76, none, some 79, some 80, none, none]), .inl (2, [none, some 43, some 44, some 45, some 46, some 47, some 48]), .inr (0, 10), .inr (0, 10), .inr (0, 10), .inr (0, 10), .inr (0, 10), .inr (1, 10), .inl (0, [none, none, some 50, some 51, some 52, some 53, some 54, some 55, some 56, some 57, some 58, some 59, some 60]), .inr (0, 14), .inr (0, 14), .inr (0, 14), .inr (0, 14), .inr (0, 14), .inr (0, 14), .inr (0, 14), .inr (1, 14), .inr (1, 14), .inr (1, 14), .inr (1, 14), .inl (1, [none, some 62, some 63, some 64, some 65, some 66, some 67, some 68]), .inr (0, 120), .inr (0, 120), .inr (0, 120), .inr (0, 120), .inr (0, 120), .inr (0, 120), .inr (1, 120), .inl (4, [none, some 70, some 71, some 72, some 73, some 74, some 75]), .inr (0, 12), .inr (0, 12), .inr (0, 12), .inr (0, 12), .inr (0, 12), .inr (0, 12), .inl (5, [some 77, some 78]), .inr (0, 400), .inr (0, 400), .inr (0, 120), .inr (0, 120), .inr (0, 64), .inr (0, 55), .inr (0, 30), .inr (0, 18), .inr (0, 12)]
def mj_pFL : List Nat := [117, 120, 123, 125, 129, 131, 134, 137, 140, 141, 143, 111, 116, 181, 184, 187, 190, 193, 195, 198, 178, 73, 76, 77, 80, 83, 86, 70, 269, 271, 273, 275, 277, 280, 281, 278, 72, 191, 185, 188, 179, 199, 74, 115, 81, 182, 84, 226, 114, 139, 196, 78, 228, 230, 237, 232, 235, 283, 282, 119, 194, 122, 133, 136, 127, 227, 229, 231, 234, 236, 239, 224, 262, 263, 113, 121, 124, 126, 305, 306, 270, 71, 272, 112, 138, 118, 142, 144, 130, 75, 274, 180, 276, 225, 279, 79, 87, 82, 85, 132, 135, 183, 186, 189, 200, 197, 238, 240, 233, 192, 128]
def mj_pML : List Nat := [441, 445, 449, 453, 457, 548, 856, 606, 526, 686, 832, 836, 840, 844, 848, 422, 535, 760, 544, 620, 616, 531, 539, 540, 670, 706, 549, 755, 657, 756, 585, 589, 612, 632, 682, 593, 602, 607, 611, 624, 628, 636, 649, 640, 641, 645, 653, 661, 678, 665, 669, 597, 701, 461, 429, 433, 464, 468, 437, 324, 395, 414, 418, 477, 501, 505, 718, 728, 522, 527, 697, 702, 707, 751, 581, 775, 780, 784, 789, 795, 796, 817, 823, 828, 852, 801, 809, 481, 722, 793, 821, 812, 562, 559, 574, 515, 568, 571, 512, 553, 556, 565, 860, 744, 863, 550, 767, 771, 776, 785, 797, 805, 813, 824, 857, 866, 518, 693, 714, 724, 732, 736, 740, 315, 320, 473, 312, 509, 577, 690, 711, 747, 764]
def mj_pC : List Nat := [484, 417, 525, 689, 673, 685, 835, 444, 508, 731, 668, 631, 440, 448, 452, 456, 460, 839, 538, 534, 547, 660, 627, 855, 605, 648, 843, 600, 710, 596, 700, 847, 763, 623, 425, 463, 432, 436, 467, 471, 851, 831, 421, 804, 619, 783, 530, 705, 543, 754, 759, 584, 588, 592, 610, 615, 635, 639, 644, 652, 656, 664, 681, 323, 476, 717, 727, 739, 743, 735, 521, 696, 750, 580, 770, 774, 779, 788, 816, 869, 827, 800, 808, 326, 503, 397, 480, 721, 792, 820, 811, 317, 564, 561, 558, 576, 573, 517, 514, 555, 570, 567, 552, 746, 862, 859, 865, 766, 511, 692, 713, 314, 49]
def mj_kV : List Nat := [0, 1, 2, 3, 4, 5, 6, 7, 8, 9, 10, 11, 12, 13, 14, 15, 16, 17, 18, 19, 20, 21, 22, 23, 24, 25, 26, 27, 28, 29, 30, 31, 32, 33, 34, 36, 37, 38, 39, 40, 41, 42, 43, 44, 45, 46, 47, 48, 49, 50, 51, 52, 53, 54, 55, 56, 57, 58, 59, 60, 61, 62, 63, 64, 65, 66, 67, 68, 69, 70, 71, 72, 73, 74, 75, 76, 77, 78, 79, 80, 81, 82, 86, 87, 88, 89]
def mj_kS : List Nat := [35, 83, 84, 85, 90, 91, 92, 93, 94, 95, 96, 97, 98, 99, 100, 101, 102, 103, 104, 105, 106, 107, 108, 109, 110, 111, 112]
def mj_pI : List Nat := [482, 415, 523, 687, 671, 683, 833, 442, 506, 729, 666, 629, 438, 447, 451, 455, 459, 837, 536, 532, 545, 658, 625, 853, 603, 646, 841, 598, 708, 594, 698, 845, 761, 621, 423, 431, 435, 466, 470, 849, 829, 419, 802, 617, 781, 528, 703, 542, 752, 758, 582, 587, 591, 609, 614, 634, 638, 643, 651, 655, 663, 680, 321, 474, 715, 725, 737, 741, 733, 519, 694, 748, 578, 768, 772, 777, 786, 814, 867, 825, 798, 806, 479, 720, 791, 819]
def mj_pE : List Nat := [483, 416, 524, 688, 672, 684, 834, 443, 507, 730, 667, 630, 439, 3, 4, 5, 6, 838, 537, 533, 546, 659, 626, 854, 604, 647, 842, 599, 709, 595, 699, 846, 762, 622, 424, 1, 2, 7, 8, 850, 830, 420, 803, 618, 782, 529, 704, 10, 753, 23, 583, 11, 12, 13, 14, 15, 16, 17, 18, 19, 20, 21, 322, 475, 716, 726, 738, 742, 734, 520, 695, 749, 579, 769, 773, 778, 787, 815, 868, 826, 799, 807, 9, 22, 24, 25]
def mj_pS : List Nat := [462, 325, 502, 396, 810, 316, 563, 560, 557, 575, 572, 516, 513, 554, 569, 566, 551, 745, 861, 858, 864, 765, 510, 691, 712, 313, 48]
def mj_pN : List Nat := [30, 31, 29, 28, 32, 33, 27, 26]
def mj_pL0 : List Nat := [145, 147, 149, 151, 153, 155, 157, 159, 161, 163, 165, 167, 169]
def mj_pL1 : List Nat := [201, 203, 205, 207, 209, 211, 213, 215]
def mj_pL2 : List Nat := [88, 90, 92, 94, 96, 98, 100]
def mj_pL3 : List Nat := [284, 286, 288, 290, 292, 294, 296, 298, 300, 302]
def mj_pL4 : List Nat := [241, 243, 245, 247, 249, 251, 253]
def mj_pL5 : List Nat := [264, 266]
def mj_pL6 : List Nat := [307, 309]
theorem mj_g_code (y : MethodName) (b : ByteArray) (n : Nat) (r : Option FieldType) : goodWord (.code y b n r) = true := rfl
/-- the words that every method of the claim may use: the good ones of the tables -/
def mj_G : List Cond := lw_tbl.filter goodWord
theorem mj_inG {w : Cond} (h : w ∈ lw_tbl) (g : goodWord w = true) : w ∈ mj_G := List.mem_filter.mpr ⟨h, g⟩
def mj_y (k : Nat) : MethodName := mj_yT.getD k yX2_has
def mj_c (k : Nat) : ByteArray := mj_cT.getD k cX2_has
def mj_n (k : Nat) : Nat := mj_nT.getD k 0
def mj_r (k : Nat) : Option FieldType := mj_rT.getD k none
def mj_lv (k : Nat) : Nat := mj_lT.getD k 0
def mj_ht (k : Nat) : Nat := mj_hT.getD k 1000
def mj_mc (k : Nat) : Nat := mj_mT.getD k 0
def mj_oc (k : Nat) : Nat := mj_xT.getD k 0
def mj_ar (k : Nat) : Nat := mj_aT.getD k 0
def mj_R (x : Nat) : String := mj_RT.getD x RX0
def mj_o (k : Nat) : String := mj_R (mj_oc k)
def mj_Sh (lv : Nat) : List mj_D := match lv with
  | 0 => mj_Sh0
  | 1 => mj_Sh1
  | 2 => mj_Sh2
  | 3 => mj_Sh3
  | 4 => mj_Sh4
  | 5 => mj_Sh5
  | 6 => mj_Sh6
  | 7 => mj_Sh7
  | 8 => mj_Sh8
  | _ => mj_Sh9
def mj_q (ci : Nat) : vw_C := mj_cl.getD ci (RX0, TX0, 13)
def mj_ty0 (ci : Nat) : Nat → FieldType := match ci with
  | 0 => tyX0
  | 1 => tyX1
  | 2 => tyX2
  | 3 => tyX3
  | 4 => tyX4
  | 5 => tyX5
  | _ => tyX6
def mj_ws (k : Nat) : List Cond := .code (mj_y k) (mj_c k) (mj_n k) (mj_r k) :: mj_G
def mj_rm (k d : Nat) : Room := { frames := 2 * d + 20, cells := mj_mc k, slots := 64 * mj_mc k, locals := 40 * d + 300 }
theorem mj_w0 : lw_tbl[484]? = some (Cond.code yX2_has cX2_has 2 (some .boolean)) := by decide +kernel
theorem mj_w1 : lw_tbl[417]? = some (Cond.code yX2_add cX2_add 4 (some .int)) := by decide +kernel
theorem mj_w2 : lw_tbl[525]? = some (Cond.code yX2_isStreet cX2_isStreet 2 (some .boolean)) := by decide +kernel
theorem mj_w3 : lw_tbl[689]? = some (Cond.code yX2_waiting cX2_waiting 2 (some .int)) := by decide +kernel
theorem mj_w4 : lw_tbl[673]? = some (Cond.code yX2_places cX2_places 3 (some .int)) := by decide +kernel
theorem mj_w5 : lw_tbl[685]? = some (Cond.code yX2_setAlarms cX2_setAlarms 3 (none)) := by decide +kernel
theorem mj_w6 : lw_tbl[835]? = some (Cond.code yX2_copyFrom cX2_copyFrom 3 (none)) := by decide +kernel
theorem mj_w7 : lw_tbl[444]? = some (Cond.code yX0_has cX0_has 2 (some .boolean)) := by decide +kernel
theorem mj_w8 : lw_tbl[508]? = some (Cond.code yX0_add cX0_add 7 (some .int)) := by decide +kernel
theorem mj_w9 : lw_tbl[731]? = some (Cond.code yX0_announceClosings cX0_announceClosings 3 (some .int)) := by decide +kernel
theorem mj_w10 : lw_tbl[668]? = some (Cond.code yX0_rateAsItIs cX0_rateAsItIs 2 (some .int)) := by decide +kernel
theorem mj_w11 : lw_tbl[631]? = some (Cond.code yX0_isClosed cX0_isClosed 2 (some .boolean)) := by decide +kernel
theorem mj_w12 : lw_tbl[440]? = some (Cond.code yX0_roomBehind cX0_roomBehind 4 (some .int)) := by decide +kernel
theorem mj_w13 : lw_tbl[448]? = some (Cond.code yX0_isOpenTo cX0_isOpenTo 3 (some .boolean)) := by decide +kernel
theorem mj_w14 : lw_tbl[452]? = some (Cond.code yX0_carries cX0_carries 3 (some .boolean)) := by decide +kernel
theorem mj_w15 : lw_tbl[456]? = some (Cond.code yX0_goesForth cX0_goesForth 2 (some .boolean)) := by decide +kernel
theorem mj_w16 : lw_tbl[460]? = some (Cond.code yX0_goesBack cX0_goesBack 2 (some .boolean)) := by decide +kernel
theorem mj_w17 : lw_tbl[839]? = some (Cond.code yX0_copyFrom cX0_copyFrom 3 (none)) := by decide +kernel
theorem mj_w18 : lw_tbl[538]? = some (Cond.code yX1_has cX1_has 2 (some .boolean)) := by decide +kernel
theorem mj_w19 : lw_tbl[534]? = some (Cond.code yX1_add cX1_add 7 (some .int)) := by decide +kernel
theorem mj_w20 : lw_tbl[547]? = some (Cond.code yX1_isWaiting cX1_isWaiting 2 (some .boolean)) := by decide +kernel
theorem mj_w21 : lw_tbl[660]? = some (Cond.code yX1_isInside cX1_isInside 2 (some .boolean)) := by decide +kernel
theorem mj_w22 : lw_tbl[627]? = some (Cond.code yX1_isKnowing cX1_isKnowing 2 (some .boolean)) := by decide +kernel
theorem mj_w23 : lw_tbl[855]? = some (Cond.code yX1_isAnyInside cX1_isAnyInside 2 (some .boolean)) := by decide +kernel
theorem mj_w24 : lw_tbl[605]? = some (Cond.code yX1_firstForTrain cX1_firstForTrain 5 (some .int)) := by decide +kernel
theorem mj_w25 : lw_tbl[648]? = some (Cond.code yX1_isAhead cX1_isAhead 5 (some .boolean)) := by decide +kernel
theorem mj_w26 : lw_tbl[843]? = some (Cond.code yX1_copyFrom cX1_copyFrom 3 (none)) := by decide +kernel
theorem mj_w27 : lw_tbl[600]? = some (Cond.code yX4_has cX4_has 2 (some .boolean)) := by decide +kernel
theorem mj_w28 : lw_tbl[710]? = some (Cond.code yX4_add cX4_add 6 (some .int)) := by decide +kernel
theorem mj_w29 : lw_tbl[596]? = some (Cond.code yX4_isThere cX4_isThere 2 (some .boolean)) := by decide +kernel
theorem mj_w30 : lw_tbl[700]? = some (Cond.code yX4_isOneAt cX4_isOneAt 3 (some .boolean)) := by decide +kernel
theorem mj_w31 : lw_tbl[847]? = some (Cond.code yX4_copyFrom cX4_copyFrom 3 (none)) := by decide +kernel
theorem mj_w32 : lw_tbl[763]? = some (Cond.code yX5_distance cX5_distance 5 (some .int)) := by decide +kernel
theorem mj_w33 : lw_tbl[623]? = some (Cond.code yX5_next cX5_next 5 (some .int)) := by decide +kernel
theorem mj_w34 : lw_tbl[425]? = some (Cond.code yX5_reckon cX5_reckon 6 (none)) := by decide +kernel
theorem mj_w35 : lw_tbl[463]? = some (Cond.code yX5_cell cX5_cell 4 (some .int)) := by decide +kernel
theorem mj_w36 : lw_tbl[432]? = some (Cond.code yX5_clean cX5_clean 4 (none)) := by decide +kernel
theorem mj_w37 : lw_tbl[436]? = some (Cond.code yX5_lay cX5_lay 6 (none)) := by decide +kernel
theorem mj_w38 : lw_tbl[467]? = some (Cond.code yX5_join cX5_join 9 (none)) := by decide +kernel
theorem mj_w39 : lw_tbl[471]? = some (Cond.code yX5_choose cX5_choose 9 (none)) := by decide +kernel
theorem mj_w40 : lw_tbl[851]? = some (Cond.code yX5_copyFrom cX5_copyFrom 3 (none)) := by decide +kernel
theorem mj_w41 : lw_tbl[831]? = some (Cond.code yX3_copyFrom cX3_copyFrom 2 (none)) := by decide +kernel
theorem mj_w42 : lw_tbl[421]? = some (Cond.code yX3_reckonWays cX3_reckonWays 1 (none)) := by decide +kernel
theorem mj_w43 : lw_tbl[804]? = some (Cond.code yX3_distance cX3_distance 2 (some .int)) := by decide +kernel
theorem mj_w44 : lw_tbl[619]? = some (Cond.code yX3_nextLink cX3_nextLink 2 (some .int)) := by decide +kernel
theorem mj_w45 : lw_tbl[783]? = some (Cond.code yX3_waitingFor cX3_waitingFor 4 (some .int)) := by decide +kernel
theorem mj_w46 : lw_tbl[530]? = some (Cond.code yX3_comeFromOutside cX3_comeFromOutside 6 (some .int)) := by decide +kernel
theorem mj_w47 : lw_tbl[705]? = some (Cond.code yX3_alight cX3_alight 7 (some .int)) := by decide +kernel
theorem mj_w48 : lw_tbl[543]? = some (Cond.code yX3_goOutAtGoal cX3_goOutAtGoal 3 (none)) := by decide +kernel
theorem mj_w49 : lw_tbl[754]? = some (Cond.code yX3_orderToClear cX3_orderToClear 3 (some .int)) := by decide +kernel
theorem mj_w50 : lw_tbl[759]? = some (Cond.code yX3_takeNearestStreet cX3_takeNearestStreet 8 (some .boolean)) := by decide +kernel
theorem mj_w51 : lw_tbl[584]? = some (Cond.code yX3_passSecond cX3_passSecond 2 (none)) := by decide +kernel
theorem mj_w52 : lw_tbl[588]? = some (Cond.code yX3_arrive cX3_arrive 3 (none)) := by decide +kernel
theorem mj_w53 : lw_tbl[592]? = some (Cond.code yX3_serve cX3_serve 5 (none)) := by decide +kernel
theorem mj_w54 : lw_tbl[610]? = some (Cond.code yX3_goAboard cX3_goAboard 3 (none)) := by decide +kernel
theorem mj_w55 : lw_tbl[615]? = some (Cond.code yX3_chooseNextLinks cX3_chooseNextLinks 2 (none)) := by decide +kernel
theorem mj_w56 : lw_tbl[635]? = some (Cond.code yX3_beginOn cX3_beginOn 4 (none)) := by decide +kernel
theorem mj_w57 : lw_tbl[639]? = some (Cond.code yX3_lineUp cX3_lineUp 4 (none)) := by decide +kernel
theorem mj_w58 : lw_tbl[644]? = some (Cond.code yX3_lineUpPerson cX3_lineUpPerson 4 (none)) := by decide +kernel
theorem mj_w59 : lw_tbl[652]? = some (Cond.code yX3_beginTogether cX3_beginTogether 6 (none)) := by decide +kernel
theorem mj_w60 : lw_tbl[656]? = some (Cond.code yX3_sizeOfReadyParty cX3_sizeOfReadyParty 7 (some .int)) := by decide +kernel
theorem mj_w61 : lw_tbl[664]? = some (Cond.code yX3_hasPlaceFor cX3_hasPlaceFor 7 (some .boolean)) := by decide +kernel
theorem mj_w62 : lw_tbl[681]? = some (Cond.code yX3_begin cX3_begin 5 (none)) := by decide +kernel
theorem mj_w63 : lw_tbl[323]? = some (Cond.code yX6_room cX6_room 4 (some .int)) := by decide +kernel
theorem mj_w64 : lw_tbl[476]? = some (Cond.code yX6_link cX6_link 7 (some .int)) := by decide +kernel
theorem mj_w65 : lw_tbl[717]? = some (Cond.code yX6_close cX6_close 4 (some .boolean)) := by decide +kernel
theorem mj_w66 : lw_tbl[727]? = some (Cond.code yX6_announce cX6_announce 2 (some .int)) := by decide +kernel
theorem mj_w67 : lw_tbl[739]? = some (Cond.code yX6_turn cX6_turn 3 (some .boolean)) := by decide +kernel
theorem mj_w68 : lw_tbl[743]? = some (Cond.code yX6_stop cX6_stop 4 (some .boolean)) := by decide +kernel
theorem mj_w69 : lw_tbl[735]? = some (Cond.code yX6_meter cX6_meter 4 (some .int)) := by decide +kernel
theorem mj_w70 : lw_tbl[521]? = some (Cond.code yX6_enter cX6_enter 7 (some .int)) := by decide +kernel
theorem mj_w71 : lw_tbl[696]? = some (Cond.code yX6_train cX6_train 7 (some .int)) := by decide +kernel
theorem mj_w72 : lw_tbl[750]? = some (Cond.code yX6_clear cX6_clear 1 (some .int)) := by decide +kernel
theorem mj_w73 : lw_tbl[580]? = some (Cond.code yX6_pass cX6_pass 3 (some .int)) := by decide +kernel
theorem mj_w74 : lw_tbl[770]? = some (Cond.code yX6_now cX6_now 1 (some .int)) := by decide +kernel
theorem mj_w75 : lw_tbl[774]? = some (Cond.code yX6_ofRoom cX6_ofRoom 3 (some .int)) := by decide +kernel
theorem mj_w76 : lw_tbl[779]? = some (Cond.code yX6_ofLink cX6_ofLink 3 (some .int)) := by decide +kernel
theorem mj_w77 : lw_tbl[788]? = some (Cond.code yX6_person cX6_person 3 (some .int)) := by decide +kernel
theorem mj_w78 : lw_tbl[816]? = some (Cond.code yX6_ofTrain cX6_ofTrain 3 (some .int)) := by decide +kernel
theorem mj_w79 : lw_tbl[869]? = some (Cond.code yX6_foretell cX6_foretell 4 (some .int)) := by decide +kernel
theorem mj_w80 : lw_tbl[827]? = some (Cond.code yX6_clears cX6_clears 2 (some .int)) := by decide +kernel
theorem mj_w81 : lw_tbl[800]? = some (Cond.code yX6_alone cX6_alone 2 (some .int)) := by decide +kernel
theorem mj_w82 : lw_tbl[808]? = some (Cond.code yX6_aloneAnew cX6_aloneAnew 4 (some .int)) := by decide +kernel
theorem mj_w83 : lw_tbl[326]? = some (Cond.code yX6_needRange cX6_needRange 3 (none)) := by decide +kernel
theorem mj_w84 : lw_tbl[503]? = some (Cond.code yX6_needFit cX6_needFit 1 (none)) := by decide +kernel
theorem mj_w85 : lw_tbl[397]? = some (Cond.code yX6_needPlace cX6_needPlace 1 (none)) := by decide +kernel
theorem mj_w86 : lw_tbl[480]? = some (Cond.code yX6_needRoom cX6_needRoom 2 (none)) := by decide +kernel
theorem mj_w87 : lw_tbl[721]? = some (Cond.code yX6_needLink cX6_needLink 2 (none)) := by decide +kernel
theorem mj_w88 : lw_tbl[792]? = some (Cond.code yX6_needPerson cX6_needPerson 2 (none)) := by decide +kernel
theorem mj_w89 : lw_tbl[820]? = some (Cond.code yX6_needTrain cX6_needTrain 2 (none)) := by decide +kernel
theorem mj_w90 : lw_tbl[811]? = some (Cond.code yX6_tryAllWays cX6_tryAllWays 10 (some .int)) := by decide +kernel
theorem mj_w91 : lw_tbl[317]? = some (Cond.code yL_from cL_from 4 (some .int)) := by decide +kernel
set_option maxRecDepth 1000000 in
theorem mj_w92 : lw_tbl[564]? = some (Cond.code yL_to cL_to 10 (some .int)) := rfl
theorem mj_w93 : lw_tbl[561]? = some (Cond.code yL_distance cL_distance 11 (some .int)) := by decide +kernel
theorem mj_w94 : lw_tbl[558]? = some (Cond.code yL_next cL_next 10 (some .int)) := by decide +kernel
theorem mj_w95 : lw_tbl[576]? = some (Cond.code yL_many cL_many 6 (some .int)) := by decide +kernel
theorem mj_w96 : lw_tbl[573]? = some (Cond.code yL_places cL_places 4 (some .int)) := by decide +kernel
theorem mj_w97 : lw_tbl[517]? = some (Cond.code yL_out cL_out 4 (none)) := by decide +kernel
theorem mj_w98 : lw_tbl[514]? = some (Cond.code yL_come cL_come 4 (none)) := by decide +kernel
set_option maxRecDepth 1000000 in
theorem mj_w99 : lw_tbl[555]? = some (Cond.code yL_board cL_board 12 (none)) := rfl
theorem mj_w100 : lw_tbl[570]? = some (Cond.code yL_isAhead cL_isAhead 6 (some .boolean)) := by decide +kernel
set_option maxRecDepth 1000000 in
theorem mj_w101 : lw_tbl[567]? = some (Cond.code yL_serve cL_serve 18 (none)) := rfl
set_option maxRecDepth 1000000 in
theorem mj_w102 : lw_tbl[552]? = some (Cond.code yL_second cL_second 9 (none)) := rfl
set_option maxRecDepth 1000000 in
theorem mj_w103 : lw_tbl[746]? = some (Cond.code yL_clear cL_clear 10 (some .int)) := rfl
theorem mj_w104 : lw_tbl[862]? = some (Cond.code yL_copy cL_copy 4 (none)) := by decide +kernel
theorem mj_w105 : lw_tbl[859]? = some (Cond.code yL_foretold cL_foretold 14 (some .int)) := by decide +kernel
theorem mj_w106 : lw_tbl[865]? = some (Cond.code yL_isClear cL_isClear 4 (some .boolean)) := by decide +kernel
set_option maxRecDepth 1000000 in
theorem mj_w107 : lw_tbl[766]? = some (Cond.code yL_isSame cL_isSame 14 (some .boolean)) := rfl
theorem mj_w108 : lw_tbl[511]? = some (Cond.code yL_isEntered cL_isEntered 8 (some .boolean)) := by decide +kernel
set_option maxRecDepth 1000000 in
theorem mj_w109 : lw_tbl[692]? = some (Cond.code yL_isTrain cL_isTrain 13 (some .boolean)) := rfl
set_option maxRecDepth 1000000 in
theorem mj_w110 : lw_tbl[713]? = some (Cond.code yL_isLink cL_isLink 9 (some .boolean)) := rfl
set_option maxRecDepth 1000000 in
theorem mj_w111 : lw_tbl[314]? = some (Cond.code yL_isBegun cL_isBegun 11 (some .boolean)) := rfl
set_option maxRecDepth 1000000 in
theorem mj_w112 : lw_tbl[49]? = some (Cond.code yL_holds cL_holds 14 (some .boolean)) := rfl

def mj_PC (k : Nat) : Prop := ∃ i : Nat, lw_tbl[i]? = some (Cond.code (mj_y k) (mj_c k) (mj_n k) (mj_r k))
theorem mj_pc0 : ∀ a, a < 21 → mj_PC a := (lt_s (lt_s (lt_s (lt_s (lt_s (lt_s (lt_s (lt_s (lt_s (lt_s (lt_s (lt_s (lt_s (lt_s (lt_s (lt_s (lt_s (lt_s (lt_s (lt_s (lt_s lt_0 ⟨484, mj_w0⟩) ⟨417, mj_w1⟩) ⟨525, mj_w2⟩) ⟨689, mj_w3⟩) ⟨673, mj_w4⟩) ⟨685, mj_w5⟩) ⟨835, mj_w6⟩) ⟨444, mj_w7⟩) ⟨508, mj_w8⟩) ⟨731, mj_w9⟩) ⟨668, mj_w10⟩) ⟨631, mj_w11⟩) ⟨440, mj_w12⟩) ⟨448, mj_w13⟩) ⟨452, mj_w14⟩) ⟨456, mj_w15⟩) ⟨460, mj_w16⟩) ⟨839, mj_w17⟩) ⟨538, mj_w18⟩) ⟨534, mj_w19⟩) ⟨547, mj_w20⟩)
theorem mj_pc1 : ∀ a, a < 42 → mj_PC a := (lt_s (lt_s (lt_s (lt_s (lt_s (lt_s (lt_s (lt_s (lt_s (lt_s (lt_s (lt_s (lt_s (lt_s (lt_s (lt_s (lt_s (lt_s (lt_s (lt_s (lt_s mj_pc0 ⟨660, mj_w21⟩) ⟨627, mj_w22⟩) ⟨855, mj_w23⟩) ⟨605, mj_w24⟩) ⟨648, mj_w25⟩) ⟨843, mj_w26⟩) ⟨600, mj_w27⟩) ⟨710, mj_w28⟩) ⟨596, mj_w29⟩) ⟨700, mj_w30⟩) ⟨847, mj_w31⟩) ⟨763, mj_w32⟩) ⟨623, mj_w33⟩) ⟨425, mj_w34⟩) ⟨463, mj_w35⟩) ⟨432, mj_w36⟩) ⟨436, mj_w37⟩) ⟨467, mj_w38⟩) ⟨471, mj_w39⟩) ⟨851, mj_w40⟩) ⟨831, mj_w41⟩)
theorem mj_pc2 : ∀ a, a < 63 → mj_PC a := (lt_s (lt_s (lt_s (lt_s (lt_s (lt_s (lt_s (lt_s (lt_s (lt_s (lt_s (lt_s (lt_s (lt_s (lt_s (lt_s (lt_s (lt_s (lt_s (lt_s (lt_s mj_pc1 ⟨421, mj_w42⟩) ⟨804, mj_w43⟩) ⟨619, mj_w44⟩) ⟨783, mj_w45⟩) ⟨530, mj_w46⟩) ⟨705, mj_w47⟩) ⟨543, mj_w48⟩) ⟨754, mj_w49⟩) ⟨759, mj_w50⟩) ⟨584, mj_w51⟩) ⟨588, mj_w52⟩) ⟨592, mj_w53⟩) ⟨610, mj_w54⟩) ⟨615, mj_w55⟩) ⟨635, mj_w56⟩) ⟨639, mj_w57⟩) ⟨644, mj_w58⟩) ⟨652, mj_w59⟩) ⟨656, mj_w60⟩) ⟨664, mj_w61⟩) ⟨681, mj_w62⟩)
theorem mj_pc3 : ∀ a, a < 84 → mj_PC a := (lt_s (lt_s (lt_s (lt_s (lt_s (lt_s (lt_s (lt_s (lt_s (lt_s (lt_s (lt_s (lt_s (lt_s (lt_s (lt_s (lt_s (lt_s (lt_s (lt_s (lt_s mj_pc2 ⟨323, mj_w63⟩) ⟨476, mj_w64⟩) ⟨717, mj_w65⟩) ⟨727, mj_w66⟩) ⟨739, mj_w67⟩) ⟨743, mj_w68⟩) ⟨735, mj_w69⟩) ⟨521, mj_w70⟩) ⟨696, mj_w71⟩) ⟨750, mj_w72⟩) ⟨580, mj_w73⟩) ⟨770, mj_w74⟩) ⟨774, mj_w75⟩) ⟨779, mj_w76⟩) ⟨788, mj_w77⟩) ⟨816, mj_w78⟩) ⟨869, mj_w79⟩) ⟨827, mj_w80⟩) ⟨800, mj_w81⟩) ⟨808, mj_w82⟩) ⟨326, mj_w83⟩)
theorem mj_pc4 : ∀ a, a < 105 → mj_PC a := (lt_s (lt_s (lt_s (lt_s (lt_s (lt_s (lt_s (lt_s (lt_s (lt_s (lt_s (lt_s (lt_s (lt_s (lt_s (lt_s (lt_s (lt_s (lt_s (lt_s (lt_s mj_pc3 ⟨503, mj_w84⟩) ⟨397, mj_w85⟩) ⟨480, mj_w86⟩) ⟨721, mj_w87⟩) ⟨792, mj_w88⟩) ⟨820, mj_w89⟩) ⟨811, mj_w90⟩) ⟨317, mj_w91⟩) ⟨564, mj_w92⟩) ⟨561, mj_w93⟩) ⟨558, mj_w94⟩) ⟨576, mj_w95⟩) ⟨573, mj_w96⟩) ⟨517, mj_w97⟩) ⟨514, mj_w98⟩) ⟨555, mj_w99⟩) ⟨570, mj_w100⟩) ⟨567, mj_w101⟩) ⟨552, mj_w102⟩) ⟨746, mj_w103⟩) ⟨862, mj_w104⟩)
theorem mj_pc5 : ∀ a, a < 113 → mj_PC a := (lt_s (lt_s (lt_s (lt_s (lt_s (lt_s (lt_s (lt_s mj_pc4 ⟨859, mj_w105⟩) ⟨865, mj_w106⟩) ⟨766, mj_w107⟩) ⟨511, mj_w108⟩) ⟨692, mj_w109⟩) ⟨713, mj_w110⟩) ⟨314, mj_w111⟩) ⟨49, mj_w112⟩)
theorem mj_pcAll : ∀ a, a < mj_N → mj_PC a := mj_pc5
