abbrev mj_M : Type := Nat → Nat → Int32
abbrev mj_K : Type := Nat → Int32 → mj_M → Prop
abbrev mj_D : Type := (Nat × List (Option Nat)) ⊕ (Nat × Nat)
abbrev mj_I : Type := Instr × Nat × Nat × List Nat
-- written by a program (wip/whole/gen/tab.py): methods, shapes, words
abbrev k2_has : Nat := 0
abbrev k2_add : Nat := 1
abbrev k2_isStreet : Nat := 2
abbrev k2_waiting : Nat := 3
abbrev k2_places : Nat := 4
abbrev k2_setAlarms : Nat := 5
abbrev k2_copyFrom : Nat := 6
abbrev k0_has : Nat := 7
abbrev k0_add : Nat := 8
abbrev k0_announceClosings : Nat := 9
abbrev k0_rateAsItIs : Nat := 10
abbrev k0_isClosed : Nat := 11
abbrev k0_roomBehind : Nat := 12
abbrev k0_isOpenTo : Nat := 13
abbrev k0_carries : Nat := 14
abbrev k0_goesForth : Nat := 15
abbrev k0_goesBack : Nat := 16
abbrev k0_copyFrom : Nat := 17
abbrev k1_has : Nat := 18
abbrev k1_add : Nat := 19
abbrev k1_isWaiting : Nat := 20
abbrev k1_isInside : Nat := 21
abbrev k1_isKnowing : Nat := 22
abbrev k1_isAnyInside : Nat := 23
abbrev k1_firstForTrain : Nat := 24
abbrev k1_isAhead : Nat := 25
abbrev k1_copyFrom : Nat := 26
abbrev k4_has : Nat := 27
abbrev k4_add : Nat := 28
abbrev k4_isThere : Nat := 29
abbrev k4_isOneAt : Nat := 30
abbrev k4_copyFrom : Nat := 31
abbrev k5_distance : Nat := 32
abbrev k5_next : Nat := 33
abbrev k5_reckon : Nat := 34
abbrev k5_cell : Nat := 35
abbrev k5_clean : Nat := 36
abbrev k5_lay : Nat := 37
abbrev k5_join : Nat := 38
abbrev k5_choose : Nat := 39
abbrev k5_copyFrom : Nat := 40
abbrev k3_copyFrom : Nat := 41
abbrev k3_reckonWays : Nat := 42
abbrev k3_distance : Nat := 43
abbrev k3_nextLink : Nat := 44
abbrev k3_waitingFor : Nat := 45
abbrev k3_comeFromOutside : Nat := 46
abbrev k3_alight : Nat := 47
abbrev k3_goOutAtGoal : Nat := 48
abbrev k3_orderToClear : Nat := 49
abbrev k3_takeNearestStreet : Nat := 50
abbrev k3_passSecond : Nat := 51
abbrev k3_arrive : Nat := 52
abbrev k3_serve : Nat := 53
abbrev k3_goAboard : Nat := 54
abbrev k3_chooseNextLinks : Nat := 55
abbrev k3_beginOn : Nat := 56
abbrev k3_lineUp : Nat := 57
abbrev k3_lineUpPerson : Nat := 58
abbrev k3_beginTogether : Nat := 59
abbrev k3_sizeOfReadyParty : Nat := 60
abbrev k3_hasPlaceFor : Nat := 61
abbrev k3_begin : Nat := 62
abbrev k6_room : Nat := 63
abbrev k6_link : Nat := 64
abbrev k6_close : Nat := 65
abbrev k6_announce : Nat := 66
abbrev k6_turn : Nat := 67
abbrev k6_stop : Nat := 68
abbrev k6_meter : Nat := 69
abbrev k6_enter : Nat := 70
abbrev k6_train : Nat := 71
abbrev k6_clear : Nat := 72
abbrev k6_pass : Nat := 73
abbrev k6_now : Nat := 74
abbrev k6_ofRoom : Nat := 75
abbrev k6_ofLink : Nat := 76
abbrev k6_person : Nat := 77
abbrev k6_ofTrain : Nat := 78
abbrev k6_foretell : Nat := 79
abbrev k6_clears : Nat := 80
abbrev k6_alone : Nat := 81
abbrev k6_aloneAnew : Nat := 82
abbrev k6_needRange : Nat := 83
abbrev k6_needFit : Nat := 84
abbrev k6_needPlace : Nat := 85
abbrev k6_needRoom : Nat := 86
abbrev k6_needLink : Nat := 87
abbrev k6_needPerson : Nat := 88
abbrev k6_needTrain : Nat := 89
abbrev k6_tryAllWays : Nat := 90
abbrev k7_thrown : Nat := 91
abbrev k7_in : Nat := 92
abbrev k7_goes : Nat := 93
abbrev k7_isRoom : Nat := 94
abbrev k7_isLink : Nat := 95
abbrev k7_isPerson : Nat := 96
abbrev k7_ofLinks : Nat := 97
abbrev k7_ofRooms : Nat := 98
abbrev k7_ofPersons : Nat := 99
abbrev k7_room : Nat := 100
abbrev k7_link : Nat := 101
abbrev k7_close : Nat := 102
abbrev k7_announce : Nat := 103
abbrev k7_isMoving : Nat := 104
abbrev k7_turn : Nat := 105
abbrev k7_stop : Nat := 106
abbrev k7_meter : Nat := 107
abbrev k7_rateOf : Nat := 108
abbrev k7_leads : Nat := 109
abbrev k7_isFor : Nat := 110
abbrev k7_measures : Nat := 111
abbrev k7_behind : Nat := 112
abbrev k7_nextOf : Nat := 113
abbrev k7_count : Nat := 114
abbrev k7_places : Nat := 115
abbrev k7_isOut : Nat := 116
abbrev k7_comes : Nat := 117
abbrev k7_adds : Nat := 118
abbrev k7_enter : Nat := 119
abbrev k7_hasTrain : Nat := 120
abbrev k7_lesser : Nat := 121
abbrev k7_train : Nat := 122
abbrev k7_orders : Nat := 123
abbrev k7_clear : Nat := 124
abbrev k7_wants : Nat := 125
abbrev k7_firstFor : Nat := 126
abbrev k7_boards : Nat := 127
abbrev k7_isAhead : Nat := 128
abbrev k7_isOf : Nat := 129
abbrev k7_together : Nat := 130
abbrev k7_begins : Nat := 131
abbrev k7_lines : Nat := 132
abbrev k7_serves : Nat := 133
abbrev k7_passes : Nat := 134
abbrev k7_pass : Nat := 135
abbrev k7_now : Nat := 136
abbrev k7_ofRoom : Nat := 137
abbrev k7_ofLink : Nat := 138
abbrev k7_person : Nat := 139
abbrev k7_ofTrain : Nat := 140
abbrev k7_copies : Nat := 141
abbrev k7_foretell : Nat := 142
abbrev k7_isEmpty : Nat := 143
abbrev k7_clears : Nat := 144
abbrev k7_alone : Nat := 145
abbrev k7_aloneAnew : Nat := 146
def mj_N : Nat := 147
def mj_yT : List MethodName := [yX2_has, yX2_add, yX2_isStreet, yX2_waiting, yX2_places, yX2_setAlarms, yX2_copyFrom, yX0_has, yX0_add, yX0_announceClosings, yX0_rateAsItIs, yX0_isClosed, yX0_roomBehind, yX0_isOpenTo, yX0_carries, yX0_goesForth, yX0_goesBack, yX0_copyFrom, yX1_has, yX1_add, yX1_isWaiting, yX1_isInside, yX1_isKnowing, yX1_isAnyInside, yX1_firstForTrain, yX1_isAhead, yX1_copyFrom, yX4_has, yX4_add, yX4_isThere, yX4_isOneAt, yX4_copyFrom, yX5_distance, yX5_next, yX5_reckon, yX5_cell, yX5_clean, yX5_lay, yX5_join, yX5_choose, yX5_copyFrom, yX3_copyFrom, yX3_reckonWays, yX3_distance, yX3_nextLink, yX3_waitingFor, yX3_comeFromOutside, yX3_alight, yX3_goOutAtGoal, yX3_orderToClear, yX3_takeNearestStreet, yX3_passSecond, yX3_arrive, yX3_serve, yX3_goAboard, yX3_chooseNextLinks, yX3_beginOn, yX3_lineUp, yX3_lineUpPerson, yX3_beginTogether, yX3_sizeOfReadyParty, yX3_hasPlaceFor, yX3_begin, yX6_room, yX6_link, yX6_close, yX6_announce, yX6_turn, yX6_stop, yX6_meter, yX6_enter, yX6_train, yX6_clear, yX6_pass, yX6_now, yX6_ofRoom, yX6_ofLink, yX6_person, yX6_ofTrain, yX6_foretell, yX6_clears, yX6_alone, yX6_aloneAnew, yX6_needRange, yX6_needFit, yX6_needPlace, yX6_needRoom, yX6_needLink, yX6_needPerson, yX6_needTrain, yX6_tryAllWays, yX7_thrown, yX7_in, yX7_goes, yX7_isRoom, yX7_isLink, yX7_isPerson, yX7_ofLinks, yX7_ofRooms, yX7_ofPersons, yX7_room, yX7_link, yX7_close, yX7_announce, yX7_isMoving, yX7_turn, yX7_stop, yX7_meter, yX7_rateOf, yX7_leads, yX7_isFor, yX7_measures, yX7_behind, yX7_nextOf, yX7_count, yX7_places, yX7_isOut, yX7_comes, yX7_adds, yX7_enter, yX7_hasTrain, yX7_lesser, yX7_train, yX7_orders, yX7_clear, yX7_wants, yX7_firstFor, yX7_boards, yX7_isAhead, yX7_isOf, yX7_together, yX7_begins, yX7_lines, yX7_serves, yX7_passes, yX7_pass, yX7_now, yX7_ofRoom, yX7_ofLink, yX7_person, yX7_ofTrain, yX7_copies, yX7_foretell, yX7_isEmpty, yX7_clears, yX7_alone, yX7_aloneAnew]
def mj_cT : List ByteArray := [cX2_has, cX2_add, cX2_isStreet, cX2_waiting, cX2_places, cX2_setAlarms, cX2_copyFrom, cX0_has, cX0_add, cX0_announceClosings, cX0_rateAsItIs, cX0_isClosed, cX0_roomBehind, cX0_isOpenTo, cX0_carries, cX0_goesForth, cX0_goesBack, cX0_copyFrom, cX1_has, cX1_add, cX1_isWaiting, cX1_isInside, cX1_isKnowing, cX1_isAnyInside, cX1_firstForTrain, cX1_isAhead, cX1_copyFrom, cX4_has, cX4_add, cX4_isThere, cX4_isOneAt, cX4_copyFrom, cX5_distance, cX5_next, cX5_reckon, cX5_cell, cX5_clean, cX5_lay, cX5_join, cX5_choose, cX5_copyFrom, cX3_copyFrom, cX3_reckonWays, cX3_distance, cX3_nextLink, cX3_waitingFor, cX3_comeFromOutside, cX3_alight, cX3_goOutAtGoal, cX3_orderToClear, cX3_takeNearestStreet, cX3_passSecond, cX3_arrive, cX3_serve, cX3_goAboard, cX3_chooseNextLinks, cX3_beginOn, cX3_lineUp, cX3_lineUpPerson, cX3_beginTogether, cX3_sizeOfReadyParty, cX3_hasPlaceFor, cX3_begin, cX6_room, cX6_link, cX6_close, cX6_announce, cX6_turn, cX6_stop, cX6_meter, cX6_enter, cX6_train, cX6_clear, cX6_pass, cX6_now, cX6_ofRoom, cX6_ofLink, cX6_person, cX6_ofTrain, cX6_foretell, cX6_clears, cX6_alone, cX6_aloneAnew, cX6_needRange, cX6_needFit, cX6_needPlace, cX6_needRoom, cX6_needLink, cX6_needPerson, cX6_needTrain, cX6_tryAllWays, cX7_thrown, cX7_in, cX7_goes, cX7_isRoom, cX7_isLink, cX7_isPerson, cX7_ofLinks, cX7_ofRooms, cX7_ofPersons, cX7_room, cX7_link, cX7_close, cX7_announce, cX7_isMoving, cX7_turn, cX7_stop, cX7_meter, cX7_rateOf, cX7_leads, cX7_isFor, cX7_measures, cX7_behind, cX7_nextOf, cX7_count, cX7_places, cX7_isOut, cX7_comes, cX7_adds, cX7_enter, cX7_hasTrain, cX7_lesser, cX7_train, cX7_orders, cX7_clear, cX7_wants, cX7_firstFor, cX7_boards, cX7_isAhead, cX7_isOf, cX7_together, cX7_begins, cX7_lines, cX7_serves, cX7_passes, cX7_pass, cX7_now, cX7_ofRoom, cX7_ofLink, cX7_person, cX7_ofTrain, cX7_copies, cX7_foretell, cX7_isEmpty, cX7_clears, cX7_alone, cX7_aloneAnew]
def mj_nT : List Nat := [2, 4, 2, 2, 3, 3, 3, 2, 7, 3, 2, 2, 4, 3, 3, 2, 2, 3, 2, 7, 2, 2, 2, 2, 5, 5, 3, 2, 6, 2, 3, 3, 5, 5, 6, 4, 4, 6, 9, 9, 3, 2, 1, 2, 2, 4, 6, 7, 3, 3, 8, 2, 3, 5, 3, 2, 4, 4, 4, 6, 7, 7, 5, 4, 7, 4, 2, 3, 4, 4, 7, 7, 1, 3, 1, 3, 3, 3, 3, 4, 2, 2, 4, 3, 1, 1, 2, 2, 2, 2, 10, 1, 3, 4, 2, 2, 2, 3, 3, 3, 4, 9, 4, 3, 2, 2, 4, 4, 2, 4, 5, 7, 3, 5, 5, 2, 3, 3, 7, 8, 4, 2, 11, 6, 1, 3, 4, 5, 5, 3, 5, 6, 5, 12, 5, 3, 1, 3, 5, 3, 4, 3, 4, 3, 3, 2, 2]
def mj_rT : List (Option FieldType) := [some .boolean, some .int, some .boolean, some .int, some .int, none, none, some .boolean, some .int, some .int, some .int, some .boolean, some .int, some .boolean, some .boolean, some .boolean, some .boolean, none, some .boolean, some .int, some .boolean, some .boolean, some .boolean, some .boolean, some .int, some .boolean, none, some .boolean, some .int, some .boolean, some .boolean, none, some .int, some .int, none, some .int, none, none, none, none, none, none, none, some .int, some .int, some .int, some .int, some .int, none, some .int, some .boolean, none, none, none, none, none, none, none, none, none, some .int, some .boolean, none, some .int, some .int, some .boolean, some .int, some .boolean, some .boolean, some .int, some .int, some .int, some .int, some .int, some .int, some .int, some .int, some .int, some .int, some .int, some .int, some .int, some .int, none, none, none, none, none, none, none, some .int, some .int, some .boolean, some .boolean, some .boolean, some .boolean, some .boolean, some .int, some .int, some .int, some .int, some .int, some .boolean, some .int, some .boolean, some .boolean, some .boolean, some .int, some .int, some .boolean, some .boolean, none, some .int, some .int, some .int, some .int, none, none, some .int, some .int, some .boolean, some .int, some .int, some .int, some .int, some .boolean, some .int, none, some .boolean, some .boolean, some .int, none, some .int, none, none, some .int, some .int, some .int, some .int, some .int, some .int, none, some .int, some .boolean, some .int, some .int, some .int]
def mj_lT : List Nat := [0, 0, 0, 0, 0, 0, 2, 0, 0, 0, 0, 0, 0, 0, 0, 0, 0, 2, 0, 0, 0, 0, 0, 0, 0, 0, 2, 0, 0, 0, 0, 2, 0, 0, 0, 0, 0, 0, 0, 0, 2, 2, 0, 0, 0, 0, 0, 0, 0, 0, 0, 0, 0, 0, 0, 0, 0, 0, 0, 0, 0, 0, 0, 2, 2, 2, 2, 2, 2, 2, 2, 2, 2, 2, 2, 2, 2, 2, 2, 2, 2, 2, 2, 2, 2, 2, 2, 2, 2, 2, 2, 1, 1, 1, 1, 1, 1, 1, 1, 1, 1, 1, 1, 1, 1, 1, 1, 1, 1, 1, 1, 1, 1, 1, 1, 1, 1, 1, 1, 1, 1, 1, 1, 1, 1, 1, 1, 1, 1, 1, 1, 1, 1, 1, 1, 1, 1, 1, 1, 1, 1, 1, 1, 1, 1, 1, 1]
def mj_hT : List Nat := [1, 1, 2, 2, 2, 3, 1, 1, 1, 1, 2, 2, 2, 1, 1, 1, 1, 1, 1, 1, 2, 2, 2, 3, 3, 2, 1, 1, 1, 2, 3, 1, 2, 2, 4, 1, 1, 3, 1, 3, 1, 2, 5, 3, 3, 4, 4, 5, 3, 6, 3, 6, 4, 4, 2, 4, 5, 4, 3, 4, 3, 3, 3, 6, 6, 6, 6, 6, 6, 3, 5, 6, 7, 7, 1, 3, 5, 4, 3, 7, 7, 4, 16, 1, 1, 1, 2, 2, 2, 2, 3, 1, 1, 1, 2, 2, 2, 1, 1, 1, 2, 3, 3, 2, 3, 4, 4, 3, 2, 2, 2, 3, 3, 4, 2, 3, 2, 3, 4, 5, 1, 1, 5, 4, 5, 2, 3, 4, 2, 2, 3, 2, 3, 4, 5, 6, 1, 3, 5, 5, 2, 1, 6, 2, 6, 4, 5]
def mj_mT : List Nat := [0, 0, 0, 0, 0, 0, 0, 0, 0, 0, 0, 0, 0, 0, 0, 0, 0, 0, 0, 0, 0, 0, 0, 0, 0, 0, 0, 0, 0, 0, 0, 0, 0, 0, 0, 0, 0, 0, 0, 0, 0, 0, 0, 0, 0, 0, 0, 0, 0, 0, 0, 0, 0, 0, 0, 0, 0, 0, 0, 0, 0, 0, 0, 3, 7, 1, 0, 2, 2, 2, 6, 9, 0, 1, 0, 2, 2, 2, 2, 2, 0, 1, 1, 1, 1, 1, 1, 1, 1, 1, 0, 0, 0, 0, 0, 0, 0, 0, 0, 0, 0, 0, 0, 0, 0, 0, 0, 0, 0, 0, 0, 0, 0, 0, 0, 0, 0, 0, 0, 0, 0, 0, 0, 0, 0, 0, 0, 0, 0, 0, 0, 0, 0, 0, 0, 0, 0, 0, 0, 0, 0, 0, 0, 0, 0, 0, 0]
def mj_xT : List Nat := [2, 2, 2, 2, 2, 2, 2, 0, 0, 0, 0, 0, 0, 0, 0, 0, 0, 0, 1, 1, 1, 1, 1, 1, 1, 1, 1, 4, 4, 4, 4, 4, 5, 5, 5, 5, 5, 5, 5, 5, 5, 3, 3, 3, 3, 3, 3, 3, 3, 3, 3, 3, 3, 3, 3, 3, 3, 3, 3, 3, 3, 3, 3, 6, 6, 6, 6, 6, 6, 6, 6, 6, 6, 6, 6, 6, 6, 6, 6, 6, 6, 6, 6, 6, 6, 6, 6, 6, 6, 6, 6, 7, 7, 7, 7, 7, 7, 7, 7, 7, 7, 7, 7, 7, 7, 7, 7, 7, 7, 7, 7, 7, 7, 7, 7, 7, 7, 7, 7, 7, 7, 7, 7, 7, 7, 7, 7, 7, 7, 7, 7, 7, 7, 7, 7, 7, 7, 7, 7, 7, 7, 7, 7, 7, 7, 7, 7]
def mj_aT : List Nat := [1, 2, 1, 1, 2, 0, 1, 1, 5, 0, 1, 1, 3, 2, 2, 1, 1, 1, 1, 5, 1, 1, 1, 0, 1, 3, 1, 1, 4, 1, 1, 1, 3, 3, 2, 3, 1, 4, 2, 4, 1, 1, 0, 1, 1, 1, 4, 3, 1, 0, 1, 0, 0, 1, 2, 0, 1, 1, 2, 2, 2, 3, 2, 2, 5, 2, 0, 1, 2, 2, 5, 5, 0, 1, 0, 2, 2, 2, 2, 2, 0, 1, 1, 3, 1, 1, 1, 1, 1, 1, 6, 0, 3, 3, 1, 1, 1, 2, 2, 2, 2, 5, 2, 0, 1, 1, 2, 2, 1, 2, 2, 2, 2, 1, 2, 1, 1, 2, 5, 5, 1, 2, 5, 0, 0, 2, 1, 1, 3, 2, 2, 3, 1, 1, 0, 1, 0, 2, 2, 2, 2, 2, 2, 0, 0, 1, 1]
def mj_RT : List String := [RX0, RX1, RX2, RX3, RX4, RX5, RX6, RX7]
def mj_FL : List (Nat × Nat × Nat × Nat) := [(0, 9, 0, 2), (0, 15, 0, 3), (0, 18, 0, 4), (0, 21, 0, 5), (0, 24, 0, 6), (0, 27, 0, 7), (0, 30, 0, 8), (0, 33, 0, 9), (0, 37, 0, 10), (0, 40, 0, 11), (0, 43, 0, 12), (0, 46, 0, 0), (0, 67, 0, 1), (1, 9, 1, 1), (1, 15, 1, 2), (1, 18, 1, 3), (1, 21, 1, 4), (1, 24, 1, 5), (1, 27, 1, 6), (1, 30, 1, 7), (1, 34, 1, 0), (2, 9, 2, 1), (2, 15, 2, 2), (2, 18, 2, 3), (2, 21, 2, 4), (2, 24, 2, 5), (2, 27, 2, 6), (2, 31, 2, 0), (3, 12, 3, 0), (3, 21, 3, 1), (3, 28, 3, 2), (3, 35, 3, 3), (3, 42, 3, 4), (3, 46, 3, 6), (3, 50, 3, 7), (3, 69, 3, 5), (3, 73, 2, 0), (3, 84, 1, 4), (3, 87, 1, 2), (3, 90, 1, 3), (3, 102, 1, 0), (3, 112, 1, 7), (3, 116, 2, 1), (3, 119, 0, 1), (3, 123, 2, 4), (3, 146, 1, 1), (3, 149, 2, 5), (3, 164, 4, 0), (3, 171, 0, 0), (3, 172, 0, 9), (3, 181, 1, 6), (3, 182, 2, 3), (3, 188, 4, 1), (3, 191, 4, 2), (3, 194, 4, 5), (3, 204, 4, 3), (3, 207, 4, 4), (3, 220, 3, 9), (3, 223, 3, 8), (3, 230, 0, 2), (3, 246, 1, 5), (3, 258, 0, 3), (3, 261, 0, 7), (3, 264, 0, 8), (3, 267, 0, 5), (4, 9, 4, 1), (4, 15, 4, 2), (4, 18, 4, 3), (4, 21, 4, 4), (4, 24, 4, 5), (4, 27, 4, 6), (4, 30, 4, 0), (5, 9, 5, 0), (5, 15, 5, 1), (5, 32, 0, 0), (5, 38, 0, 3), (5, 45, 0, 4), (5, 58, 0, 5), (6, 10, 6, 0), (6, 16, 6, 1), (6, 23, 3, 0), (6, 27, 2, 0), (6, 51, 3, 1), (6, 55, 0, 0), (6, 64, 0, 9), (6, 72, 0, 2), (6, 76, 0, 11), (6, 79, 0, 12), (6, 82, 0, 6), (6, 89, 2, 1), (6, 90, 3, 2), (6, 94, 1, 0), (6, 101, 3, 3), (6, 105, 4, 0), (6, 123, 3, 5), (6, 130, 2, 3), (6, 133, 2, 6), (6, 136, 2, 4), (6, 139, 2, 5), (6, 142, 0, 7), (6, 145, 0, 8), (6, 157, 1, 1), (6, 160, 1, 2), (6, 163, 1, 3), (6, 172, 1, 7), (6, 175, 1, 6), (6, 179, 4, 5), (6, 182, 4, 6), (6, 188, 4, 3), (6, 202, 1, 4), (6, 243, 0, 5), (7, 7, 7, 0), (7, 13, 7, 1), (7, 16, 7, 2), (7, 19, 7, 3), (7, 22, 7, 4), (7, 25, 7, 5)]
def mj_ML : List (Nat × Nat × Nat) := [(0, 50, 7), (0, 54, 13), (0, 58, 14), (0, 61, 15), (0, 64, 16), (1, 38, 18), (1, 42, 21), (1, 45, 20), (2, 35, 0), (2, 48, 3), (3, 53, 6), (3, 57, 17), (3, 60, 26), (3, 63, 31), (3, 66, 40), (3, 76, 34), (3, 80, 18), (3, 93, 32), (3, 97, 20), (3, 100, 33), (3, 103, 44), (3, 107, 19), (3, 111, 0), (3, 126, 48), (3, 136, 4), (3, 139, 46), (3, 143, 2), (3, 152, 42), (3, 155, 21), (3, 158, 50), (3, 161, 52), (3, 165, 53), (3, 168, 55), (3, 175, 56), (3, 178, 5), (3, 185, 29), (3, 197, 24), (3, 200, 54), (3, 210, 27), (3, 211, 22), (3, 214, 11), (3, 217, 57), (3, 226, 59), (3, 229, 7), (3, 231, 58), (3, 235, 25), (3, 239, 60), (3, 242, 61), (3, 249, 62), (3, 252, 10), (3, 255, 12), (4, 34, 27), (4, 38, 29), (5, 18, 35), (5, 28, 36), (5, 41, 37), (5, 48, 38), (5, 52, 39), (5, 55, 12), (6, 19, 83), (6, 33, 85), (6, 37, 1), (6, 41, 42), (6, 44, 86), (6, 48, 84), (6, 58, 8), (6, 61, 87), (6, 68, 9), (6, 85, 2), (6, 97, 46), (6, 108, 30), (6, 111, 47), (6, 115, 28), (6, 117, 49), (6, 120, 51), (6, 126, 3), (6, 148, 45), (6, 151, 10), (6, 154, 88), (6, 166, 44), (6, 169, 22), (6, 176, 89), (6, 185, 29), (6, 191, 41), (6, 195, 23), (6, 199, 43), (6, 205, 90), (6, 223, 0), (6, 231, 7), (6, 234, 18), (6, 237, 27), (6, 240, 12), (7, 29, 92), (7, 33, 93), (7, 37, 94), (7, 41, 95), (7, 44, 97), (7, 48, 104), (7, 51, 99), (7, 55, 110), (7, 59, 109), (7, 63, 111), (7, 67, 112), (7, 70, 98), (7, 73, 114), (7, 76, 116), (7, 80, 117), (7, 83, 118), (7, 87, 120), (7, 90, 115), (7, 94, 121), (7, 97, 123), (7, 101, 125), (7, 104, 126), (7, 107, 129), (7, 110, 128), (7, 113, 108), (7, 116, 132), (7, 119, 130), (7, 122, 131), (7, 126, 127), (7, 129, 113), (7, 132, 133), (7, 135, 134), (7, 138, 96), (7, 141, 141), (7, 145, 143), (7, 149, 145)]
def mj_Sh0 : List mj_D := [.inl (3, [some 1, some 8, some 20, some 28, some 35, none, some 38, some 39, none, none]), .inl (2, [none, some 2, some 3, some 4, some 5, some 6, some 7]), .inr (0, 10), .inr (0, 10), .inr (0, 10), .inr (0, 10), .inr (0, 10), .inr (1, 10), .inl (0, [none, none, some 9, some 10, some 11, some 12, some 13, some 14, some 15, some 16, some 17, some 18, some 19]), .inr (0, 14), .inr (0, 14), .inr (0, 14), .inr (0, 14), .inr (0, 14), .inr (0, 14), .inr (0, 14), .inr (1, 14), .inr (1, 14), .inr (1, 14), .inr (1, 14), .inl (1, [none, some 21, some 22, some 23, some 24, some 25, some 26, some 27]), .inr (0, 120), .inr (0, 120), .inr (0, 120), .inr (0, 120), .inr (0, 120), .inr (0, 120), .inr (1, 120), .inl (4, [none, some 29, some 30, some 31, some 32, some 33, some 34]), .inr (0, 12), .inr (0, 12), .inr (0, 12), .inr (0, 12), .inr (0, 12), .inr (0, 12), .inl (5, [some 36, some 37]), .inr (0, 400), .inr (0, 400), .inr (0, 120), .inr (0, 120)]
def mj_Sh1 : List mj_D := [.inl (7, [some 1, some 2, some 3, some 4, some 5, none]), .inr (0, 1242), .inr (0, 1242), .inr (0, 10), .inr (0, 120), .inr (0, 120)]
def mj_Sh2 : List mj_D := [.inl (6, [some 1, some 41]), .inl (3, [some 2, some 9, some 21, some 29, some 36, none, some 39, some 40, none, none]), .inl (2, [none, some 3, some 4, some 5, some 6, some 7, some 8]), .inr (0, 10), .inr (0, 10), .inr (0, 10), .inr (0, 10), .inr (0, 10), .inr (1, 10), .inl (0, [none, none, some 10, some 11, some 12, some 13, some 14, some 15, some 16, some 17, some 18, some 19, some 20]), .inr (0, 14), .inr (0, 14), .inr (0, 14), .inr (0, 14), .inr (0, 14), .inr (0, 14), .inr (0, 14), .inr (1, 14), .inr (1, 14), .inr (1, 14), .inr (1, 14), .inl (1, [none, some 22, some 23, some 24, some 25, some 26, some 27, some 28]), .inr (0, 120), .inr (0, 120), .inr (0, 120), .inr (0, 120), .inr (0, 120), .inr (0, 120), .inr (1, 120), .inl (4, [none, some 30, some 31, some 32, some 33, some 34, some 35]), .inr (0, 12), .inr (0, 12), .inr (0, 12), .inr (0, 12), .inr (0, 12), .inr (0, 12), .inl (5, [some 37, some 38]), .inr (0, 400), .inr (0, 400), .inr (0, 120), .inr (0, 120), .inl (3, [some 42, some 49, some 61, some 69, some 76, none, some 79, some 80, none, none]), .inl (2, [none, some 43, some 44, some 45, some 46, some 47, some 48]), .inr (0, 10), .inr (0, 10), .inr (0, 10), .inr (0, 10), .inr (0, 10), .inr (1, 10), .inl (0, [none, none, some 50, some 51, some 52, some 53, some 54, some 55, some 56, some 57, some 58, some 59, some 60]), .inr (0, 14), .inr (0, 14), .inr (0, 14), .inr (0, 14), .inr (0, 14), .inr (0, 14), .inr (0, 14), .inr (1, 14), .inr (1, 14), .inr (1, 14), .inr (1, 14), .inl (1, [none, some 62, some 63, some 64, some 65, some 66, some 67, some 68]), .inr (0, 120), .inr (0, 120), .inr (0, 120), .inr (0, 120), .inr (0, 120), .inr (0, 120), .inr (1, 120), .inl (4, [none, some 70, some 71, some 72, some 73, some 74, some 75]), .inr (0, 12), .inr (0, 12), .inr (0, 12), .inr (0, 12), .inr (0, 12), .inr (0, 12), .inl (5, [some 77, some 78]), .inr (0, 400), .inr (0, 400), .inr (0, 120), .inr (0, 120)]
def mj_pFL : List Nat := [141, 144, 147, 149, 153, 155, 158, 161, 164, 165, 167, 135, 140, 205, 208, 211, 214, 217, 219, 222, 202, 97, 100, 101, 104, 107, 110, 94, 293, 295, 297, 299, 301, 304, 305, 302, 96, 215, 209, 212, 203, 223, 98, 139, 105, 206, 108, 250, 138, 163, 220, 102, 252, 254, 261, 256, 259, 307, 306, 143, 218, 146, 157, 160, 151, 251, 253, 255, 258, 260, 263, 248, 286, 287, 137, 145, 148, 150, 329, 330, 294, 95, 296, 136, 162, 142, 166, 168, 154, 99, 298, 204, 300, 249, 303, 103, 111, 106, 109, 156, 159, 207, 210, 213, 224, 221, 262, 264, 257, 216, 152, 885, 886, 887, 888, 889, 890]
def mj_pML : List Nat := [367, 371, 375, 379, 383, 411, 475, 502, 423, 579, 451, 455, 459, 463, 467, 348, 507, 427, 435, 517, 513, 769, 484, 431, 563, 789, 419, 406, 407, 415, 480, 485, 509, 529, 575, 489, 498, 503, 508, 521, 525, 533, 546, 537, 538, 542, 550, 554, 571, 558, 562, 493, 784, 387, 355, 359, 390, 394, 363, 592, 663, 682, 344, 694, 715, 719, 730, 340, 764, 765, 780, 785, 790, 402, 476, 808, 816, 820, 828, 834, 835, 843, 849, 447, 471, 864, 875, 698, 734, 832, 847, 878, 912, 915, 923, 931, 935, 947, 979, 1015, 1019, 1011, 1047, 963, 996, 975, 971, 967, 987, 991, 1000, 1007, 1039, 1035, 1071, 1063, 1055, 1059, 1067, 1075, 1031, 1043, 1051, 1027, 1095, 1107, 1114, 1126]
def mj_pC : List Nat := [426, 685, 422, 582, 566, 578, 454, 370, 722, 343, 561, 528, 366, 374, 378, 382, 386, 458, 414, 772, 438, 410, 524, 474, 501, 545, 462, 496, 793, 492, 783, 466, 430, 520, 351, 389, 358, 362, 393, 397, 470, 450, 347, 867, 516, 819, 768, 788, 434, 405, 418, 479, 483, 488, 506, 512, 532, 536, 541, 549, 553, 557, 574, 591, 693, 729, 339, 742, 749, 756, 763, 779, 401, 800, 442, 807, 815, 827, 842, 856, 446, 863, 874, 594, 717, 665, 697, 733, 831, 846, 877, 907, 914, 918, 926, 934, 1098, 938, 966, 982, 911, 922, 930, 942, 950, 946, 954, 958, 1058, 1022, 1018, 1014, 1050, 1046, 999, 994, 978, 974, 970, 962, 990, 1002, 986, 1010, 1006, 1042, 1038, 1034, 1066, 1074, 1070, 1078, 1062, 1054, 1030, 1026, 1082, 1086, 1090, 1094, 1102, 1109, 1106, 1117, 1113, 1121, 1125]
def mj_kV : List Nat := [0, 1, 2, 3, 4, 5, 6, 7, 8, 9, 10, 11, 12, 13, 14, 15, 16, 17, 18, 19, 20, 21, 22, 23, 24, 25, 26, 27, 28, 29, 30, 31, 32, 33, 34, 36, 37, 38, 39, 40, 41, 42, 43, 44, 45, 46, 47, 48, 49, 50, 51, 52, 53, 54, 55, 56, 57, 58, 59, 60, 61, 62, 63, 64, 65, 66, 67, 68, 69, 70, 71, 72, 73, 74, 75, 76, 77, 78, 79, 80, 81, 82, 86, 87, 88, 89, 91, 93, 94, 95, 96, 97, 98, 99, 100, 101, 102, 103, 104, 105, 106, 107, 108, 109, 110, 111, 112, 113, 114, 115, 116, 117, 118, 119, 120, 122, 123, 124, 125, 126, 127, 128, 129, 130, 131, 132, 133, 134, 135, 136, 137, 138, 139, 140, 142, 143, 144, 145, 146]
def mj_kS : List Nat := [35, 83, 84, 85, 90, 92, 121, 141]
def mj_pI : List Nat := [424, 683, 420, 580, 564, 576, 452, 368, 720, 341, 559, 526, 364, 373, 377, 381, 385, 456, 412, 770, 436, 408, 522, 472, 499, 543, 460, 494, 791, 490, 781, 464, 428, 518, 349, 357, 361, 392, 396, 468, 448, 345, 865, 514, 817, 766, 786, 433, 403, 417, 477, 482, 487, 505, 511, 531, 535, 540, 548, 552, 556, 573, 589, 691, 727, 337, 740, 747, 754, 761, 777, 399, 798, 440, 805, 813, 825, 840, 854, 444, 861, 872, 696, 732, 830, 845, 905, 917, 925, 933, 1097, 937, 965, 981, 909, 920, 928, 940, 949, 944, 952, 956, 1057, 1021, 1017, 1013, 1049, 1045, 998, 993, 977, 973, 969, 960, 989, 984, 1009, 1004, 1041, 1037, 1033, 1065, 1073, 1069, 1077, 1061, 1053, 1029, 1024, 1080, 1084, 1088, 1092, 1100, 1104, 1116, 1111, 1119, 1123]
def mj_pE : List Nat := [425, 684, 421, 581, 565, 577, 453, 369, 721, 342, 560, 527, 365, 2, 3, 4, 5, 457, 413, 771, 437, 409, 523, 473, 500, 544, 461, 495, 792, 491, 782, 465, 429, 519, 350, 0, 1, 6, 7, 469, 449, 346, 866, 515, 818, 767, 787, 9, 404, 8, 478, 10, 11, 12, 13, 14, 15, 16, 17, 18, 19, 20, 590, 692, 728, 338, 741, 748, 755, 762, 778, 400, 799, 441, 806, 814, 826, 841, 855, 445, 862, 873, 22, 23, 24, 25, 906, 26, 27, 28, 56, 29, 31, 35, 910, 921, 929, 941, 30, 945, 953, 957, 50, 42, 41, 40, 48, 47, 38, 37, 34, 33, 32, 961, 36, 985, 39, 1005, 46, 45, 44, 52, 54, 53, 55, 51, 49, 43, 1025, 1081, 1085, 1089, 1093, 1101, 1105, 57, 1112, 1120, 1124]
def mj_pS : List Nat := [388, 593, 716, 664, 876, 913, 1001, 1108]
def mj_pN : List Nat := [62, 63, 61, 60, 64, 65, 59, 66]
def mj_pL0 : List Nat := [169, 171, 173, 175, 177, 179, 181, 183, 185, 187, 189, 191, 193]
def mj_pL1 : List Nat := [225, 227, 229, 231, 233, 235, 237, 239]
def mj_pL2 : List Nat := [112, 114, 116, 118, 120, 122, 124]
def mj_pL3 : List Nat := [308, 310, 312, 314, 316, 318, 320, 322, 324, 326]
def mj_pL4 : List Nat := [265, 267, 269, 271, 273, 275, 277]
def mj_pL5 : List Nat := [288, 290]
def mj_pL6 : List Nat := [331, 333]
def mj_pL7 : List Nat := [891, 893, 895, 897, 899, 901]
theorem mj_g_code (y : MethodName) (b : ByteArray) (n : Nat) (r : Option FieldType) : goodWord (.code y b n r) = true := rfl
/-- the words that every method of the claim may use: the good ones of the tables -/
def mj_G : List Cond := lw_tbl.filter goodWord
theorem mj_inG {w : Cond} (h : w ∈ lw_tbl) (g : goodWord w = true) : w ∈ mj_G := List.mem_filter.mpr ⟨h, g⟩
def mj_y (k : Nat) : MethodName := mj_yT.getD k yX2_has
def mj_c (k : Nat) : ByteArray := mj_cT.getD k cX2_has
def mj_n (k : Nat) : Nat := mj_nT.getD k 0
def mj_r (k : Nat) : Option FieldType := mj_rT.getD k none
def mj_lv (k : Nat) : Nat := mj_lT.getD k 0
def mj_ht (k : Nat) : Nat := mj_hT.getD k 1000
def mj_mc (k : Nat) : Nat := mj_mT.getD k 0
def mj_oc (k : Nat) : Nat := mj_xT.getD k 0
def mj_ar (k : Nat) : Nat := mj_aT.getD k 0
def mj_R (x : Nat) : String := mj_RT.getD x RX0
def mj_o (k : Nat) : String := mj_R (mj_oc k)
def mj_Sh (lv : Nat) : List mj_D := match lv with
  | 0 => mj_Sh0
  | 1 => mj_Sh1
  | _ => mj_Sh2
def mj_q (ci : Nat) : vw_C := mj_cl.getD ci (RX0, TX0, 13)
def mj_ty0 (ci : Nat) : Nat → FieldType := match ci with
  | 0 => tyX0
  | 1 => tyX1
  | 2 => tyX2
  | 3 => tyX3
  | 4 => tyX4
  | 5 => tyX5
  | 6 => tyX6
  | _ => tyX7
def mj_ws (k : Nat) : List Cond := .code (mj_y k) (mj_c k) (mj_n k) (mj_r k) :: mj_G
def mj_rm (k d : Nat) : Room := { frames := 2 * d + 20, cells := mj_mc k, slots := 6 * mj_mc k, locals := 40 * d + 300 }
theorem mj_w0 : lw_tbl[426]? = some (Cond.code yX2_has cX2_has 2 (some .boolean)) := by decide +kernel
theorem mj_w1 : lw_tbl[685]? = some (Cond.code yX2_add cX2_add 4 (some .int)) := by decide +kernel
theorem mj_w2 : lw_tbl[422]? = some (Cond.code yX2_isStreet cX2_isStreet 2 (some .boolean)) := by decide +kernel
theorem mj_w3 : lw_tbl[582]? = some (Cond.code yX2_waiting cX2_waiting 2 (some .int)) := by decide +kernel
theorem mj_w4 : lw_tbl[566]? = some (Cond.code yX2_places cX2_places 3 (some .int)) := by decide +kernel
theorem mj_w5 : lw_tbl[578]? = some (Cond.code yX2_setAlarms cX2_setAlarms 3 (none)) := by decide +kernel
theorem mj_w6 : lw_tbl[454]? = some (Cond.code yX2_copyFrom cX2_copyFrom 3 (none)) := by decide +kernel
theorem mj_w7 : lw_tbl[370]? = some (Cond.code yX0_has cX0_has 2 (some .boolean)) := by decide +kernel
theorem mj_w8 : lw_tbl[722]? = some (Cond.code yX0_add cX0_add 7 (some .int)) := by decide +kernel
theorem mj_w9 : lw_tbl[343]? = some (Cond.code yX0_announceClosings cX0_announceClosings 3 (some .int)) := by decide +kernel
theorem mj_w10 : lw_tbl[561]? = some (Cond.code yX0_rateAsItIs cX0_rateAsItIs 2 (some .int)) := by decide +kernel
theorem mj_w11 : lw_tbl[528]? = some (Cond.code yX0_isClosed cX0_isClosed 2 (some .boolean)) := by decide +kernel
theorem mj_w12 : lw_tbl[366]? = some (Cond.code yX0_roomBehind cX0_roomBehind 4 (some .int)) := by decide +kernel
theorem mj_w13 : lw_tbl[374]? = some (Cond.code yX0_isOpenTo cX0_isOpenTo 3 (some .boolean)) := by decide +kernel
theorem mj_w14 : lw_tbl[378]? = some (Cond.code yX0_carries cX0_carries 3 (some .boolean)) := by decide +kernel
theorem mj_w15 : lw_tbl[382]? = some (Cond.code yX0_goesForth cX0_goesForth 2 (some .boolean)) := by decide +kernel
theorem mj_w16 : lw_tbl[386]? = some (Cond.code yX0_goesBack cX0_goesBack 2 (some .boolean)) := by decide +kernel
theorem mj_w17 : lw_tbl[458]? = some (Cond.code yX0_copyFrom cX0_copyFrom 3 (none)) := by decide +kernel
theorem mj_w18 : lw_tbl[414]? = some (Cond.code yX1_has cX1_has 2 (some .boolean)) := by decide +kernel
theorem mj_w19 : lw_tbl[772]? = some (Cond.code yX1_add cX1_add 7 (some .int)) := by decide +kernel
theorem mj_w20 : lw_tbl[438]? = some (Cond.code yX1_isWaiting cX1_isWaiting 2 (some .boolean)) := by decide +kernel
theorem mj_w21 : lw_tbl[410]? = some (Cond.code yX1_isInside cX1_isInside 2 (some .boolean)) := by decide +kernel
theorem mj_w22 : lw_tbl[524]? = some (Cond.code yX1_isKnowing cX1_isKnowing 2 (some .boolean)) := by decide +kernel
theorem mj_w23 : lw_tbl[474]? = some (Cond.code yX1_isAnyInside cX1_isAnyInside 2 (some .boolean)) := by decide +kernel
theorem mj_w24 : lw_tbl[501]? = some (Cond.code yX1_firstForTrain cX1_firstForTrain 5 (some .int)) := by decide +kernel
theorem mj_w25 : lw_tbl[545]? = some (Cond.code yX1_isAhead cX1_isAhead 5 (some .boolean)) := by decide +kernel
theorem mj_w26 : lw_tbl[462]? = some (Cond.code yX1_copyFrom cX1_copyFrom 3 (none)) := by decide +kernel
theorem mj_w27 : lw_tbl[496]? = some (Cond.code yX4_has cX4_has 2 (some .boolean)) := by decide +kernel
theorem mj_w28 : lw_tbl[793]? = some (Cond.code yX4_add cX4_add 6 (some .int)) := by decide +kernel
theorem mj_w29 : lw_tbl[492]? = some (Cond.code yX4_isThere cX4_isThere 2 (some .boolean)) := by decide +kernel
theorem mj_w30 : lw_tbl[783]? = some (Cond.code yX4_isOneAt cX4_isOneAt 3 (some .boolean)) := by decide +kernel
theorem mj_w31 : lw_tbl[466]? = some (Cond.code yX4_copyFrom cX4_copyFrom 3 (none)) := by decide +kernel
theorem mj_w32 : lw_tbl[430]? = some (Cond.code yX5_distance cX5_distance 5 (some .int)) := by decide +kernel
theorem mj_w33 : lw_tbl[520]? = some (Cond.code yX5_next cX5_next 5 (some .int)) := by decide +kernel
theorem mj_w34 : lw_tbl[351]? = some (Cond.code yX5_reckon cX5_reckon 6 (none)) := by decide +kernel
theorem mj_w35 : lw_tbl[389]? = some (Cond.code yX5_cell cX5_cell 4 (some .int)) := by decide +kernel
theorem mj_w36 : lw_tbl[358]? = some (Cond.code yX5_clean cX5_clean 4 (none)) := by decide +kernel
theorem mj_w37 : lw_tbl[362]? = some (Cond.code yX5_lay cX5_lay 6 (none)) := by decide +kernel
theorem mj_w38 : lw_tbl[393]? = some (Cond.code yX5_join cX5_join 9 (none)) := by decide +kernel
theorem mj_w39 : lw_tbl[397]? = some (Cond.code yX5_choose cX5_choose 9 (none)) := by decide +kernel
theorem mj_w40 : lw_tbl[470]? = some (Cond.code yX5_copyFrom cX5_copyFrom 3 (none)) := by decide +kernel
theorem mj_w41 : lw_tbl[450]? = some (Cond.code yX3_copyFrom cX3_copyFrom 2 (none)) := by decide +kernel
theorem mj_w42 : lw_tbl[347]? = some (Cond.code yX3_reckonWays cX3_reckonWays 1 (none)) := by decide +kernel
theorem mj_w43 : lw_tbl[867]? = some (Cond.code yX3_distance cX3_distance 2 (some .int)) := by decide +kernel
theorem mj_w44 : lw_tbl[516]? = some (Cond.code yX3_nextLink cX3_nextLink 2 (some .int)) := by decide +kernel
theorem mj_w45 : lw_tbl[819]? = some (Cond.code yX3_waitingFor cX3_waitingFor 4 (some .int)) := by decide +kernel
theorem mj_w46 : lw_tbl[768]? = some (Cond.code yX3_comeFromOutside cX3_comeFromOutside 6 (some .int)) := by decide +kernel
theorem mj_w47 : lw_tbl[788]? = some (Cond.code yX3_alight cX3_alight 7 (some .int)) := by decide +kernel
theorem mj_w48 : lw_tbl[434]? = some (Cond.code yX3_goOutAtGoal cX3_goOutAtGoal 3 (none)) := by decide +kernel
theorem mj_w49 : lw_tbl[405]? = some (Cond.code yX3_orderToClear cX3_orderToClear 3 (some .int)) := by decide +kernel
theorem mj_w50 : lw_tbl[418]? = some (Cond.code yX3_takeNearestStreet cX3_takeNearestStreet 8 (some .boolean)) := by decide +kernel
theorem mj_w51 : lw_tbl[479]? = some (Cond.code yX3_passSecond cX3_passSecond 2 (none)) := by decide +kernel
theorem mj_w52 : lw_tbl[483]? = some (Cond.code yX3_arrive cX3_arrive 3 (none)) := by decide +kernel
theorem mj_w53 : lw_tbl[488]? = some (Cond.code yX3_serve cX3_serve 5 (none)) := by decide +kernel
theorem mj_w54 : lw_tbl[506]? = some (Cond.code yX3_goAboard cX3_goAboard 3 (none)) := by decide +kernel
theorem mj_w55 : lw_tbl[512]? = some (Cond.code yX3_chooseNextLinks cX3_chooseNextLinks 2 (none)) := by decide +kernel
theorem mj_w56 : lw_tbl[532]? = some (Cond.code yX3_beginOn cX3_beginOn 4 (none)) := by decide +kernel
theorem mj_w57 : lw_tbl[536]? = some (Cond.code yX3_lineUp cX3_lineUp 4 (none)) := by decide +kernel
theorem mj_w58 : lw_tbl[541]? = some (Cond.code yX3_lineUpPerson cX3_lineUpPerson 4 (none)) := by decide +kernel
theorem mj_w59 : lw_tbl[549]? = some (Cond.code yX3_beginTogether cX3_beginTogether 6 (none)) := by decide +kernel
theorem mj_w60 : lw_tbl[553]? = some (Cond.code yX3_sizeOfReadyParty cX3_sizeOfReadyParty 7 (some .int)) := by decide +kernel
theorem mj_w61 : lw_tbl[557]? = some (Cond.code yX3_hasPlaceFor cX3_hasPlaceFor 7 (some .boolean)) := by decide +kernel
theorem mj_w62 : lw_tbl[574]? = some (Cond.code yX3_begin cX3_begin 5 (none)) := by decide +kernel
theorem mj_w63 : lw_tbl[591]? = some (Cond.code yX6_room cX6_room 4 (some .int)) := by decide +kernel
theorem mj_w64 : lw_tbl[693]? = some (Cond.code yX6_link cX6_link 7 (some .int)) := by decide +kernel
theorem mj_w65 : lw_tbl[729]? = some (Cond.code yX6_close cX6_close 4 (some .boolean)) := by decide +kernel
theorem mj_w66 : lw_tbl[339]? = some (Cond.code yX6_announce cX6_announce 2 (some .int)) := by decide +kernel
theorem mj_w67 : lw_tbl[742]? = some (Cond.code yX6_turn cX6_turn 3 (some .boolean)) := by decide +kernel
theorem mj_w68 : lw_tbl[749]? = some (Cond.code yX6_stop cX6_stop 4 (some .boolean)) := by decide +kernel
theorem mj_w69 : lw_tbl[756]? = some (Cond.code yX6_meter cX6_meter 4 (some .int)) := by decide +kernel
theorem mj_w70 : lw_tbl[763]? = some (Cond.code yX6_enter cX6_enter 7 (some .int)) := by decide +kernel
theorem mj_w71 : lw_tbl[779]? = some (Cond.code yX6_train cX6_train 7 (some .int)) := by decide +kernel
theorem mj_w72 : lw_tbl[401]? = some (Cond.code yX6_clear cX6_clear 1 (some .int)) := by decide +kernel
theorem mj_w73 : lw_tbl[800]? = some (Cond.code yX6_pass cX6_pass 3 (some .int)) := by decide +kernel
theorem mj_w74 : lw_tbl[442]? = some (Cond.code yX6_now cX6_now 1 (some .int)) := by decide +kernel
theorem mj_w75 : lw_tbl[807]? = some (Cond.code yX6_ofRoom cX6_ofRoom 3 (some .int)) := by decide +kernel
theorem mj_w76 : lw_tbl[815]? = some (Cond.code yX6_ofLink cX6_ofLink 3 (some .int)) := by decide +kernel
theorem mj_w77 : lw_tbl[827]? = some (Cond.code yX6_person cX6_person 3 (some .int)) := by decide +kernel
theorem mj_w78 : lw_tbl[842]? = some (Cond.code yX6_ofTrain cX6_ofTrain 3 (some .int)) := by decide +kernel
theorem mj_w79 : lw_tbl[856]? = some (Cond.code yX6_foretell cX6_foretell 4 (some .int)) := by decide +kernel
theorem mj_w80 : lw_tbl[446]? = some (Cond.code yX6_clears cX6_clears 2 (some .int)) := by decide +kernel
theorem mj_w81 : lw_tbl[863]? = some (Cond.code yX6_alone cX6_alone 2 (some .int)) := by decide +kernel
theorem mj_w82 : lw_tbl[874]? = some (Cond.code yX6_aloneAnew cX6_aloneAnew 4 (some .int)) := by decide +kernel
theorem mj_w83 : lw_tbl[594]? = some (Cond.code yX6_needRange cX6_needRange 3 (none)) := by decide +kernel
theorem mj_w84 : lw_tbl[717]? = some (Cond.code yX6_needFit cX6_needFit 1 (none)) := by decide +kernel
theorem mj_w85 : lw_tbl[665]? = some (Cond.code yX6_needPlace cX6_needPlace 1 (none)) := by decide +kernel
theorem mj_w86 : lw_tbl[697]? = some (Cond.code yX6_needRoom cX6_needRoom 2 (none)) := by decide +kernel
theorem mj_w87 : lw_tbl[733]? = some (Cond.code yX6_needLink cX6_needLink 2 (none)) := by decide +kernel
theorem mj_w88 : lw_tbl[831]? = some (Cond.code yX6_needPerson cX6_needPerson 2 (none)) := by decide +kernel
theorem mj_w89 : lw_tbl[846]? = some (Cond.code yX6_needTrain cX6_needTrain 2 (none)) := by decide +kernel
theorem mj_w90 : lw_tbl[877]? = some (Cond.code yX6_tryAllWays cX6_tryAllWays 10 (some .int)) := by decide +kernel
theorem mj_w91 : lw_tbl[907]? = some (Cond.code yX7_thrown cX7_thrown 1 (some .int)) := by decide +kernel
theorem mj_w92 : lw_tbl[914]? = some (Cond.code yX7_in cX7_in 3 (some .boolean)) := by decide +kernel
theorem mj_w93 : lw_tbl[918]? = some (Cond.code yX7_goes cX7_goes 4 (some .boolean)) := by decide +kernel
theorem mj_w94 : lw_tbl[926]? = some (Cond.code yX7_isRoom cX7_isRoom 2 (some .boolean)) := by decide +kernel
theorem mj_w95 : lw_tbl[934]? = some (Cond.code yX7_isLink cX7_isLink 2 (some .boolean)) := by decide +kernel
theorem mj_w96 : lw_tbl[1098]? = some (Cond.code yX7_isPerson cX7_isPerson 2 (some .boolean)) := by decide +kernel
theorem mj_w97 : lw_tbl[938]? = some (Cond.code yX7_ofLinks cX7_ofLinks 3 (some .int)) := by decide +kernel
theorem mj_w98 : lw_tbl[966]? = some (Cond.code yX7_ofRooms cX7_ofRooms 3 (some .int)) := by decide +kernel
theorem mj_w99 : lw_tbl[982]? = some (Cond.code yX7_ofPersons cX7_ofPersons 3 (some .int)) := by decide +kernel
theorem mj_w100 : lw_tbl[911]? = some (Cond.code yX7_room cX7_room 4 (some .int)) := by decide +kernel
theorem mj_w101 : lw_tbl[922]? = some (Cond.code yX7_link cX7_link 9 (some .int)) := by decide +kernel
theorem mj_w102 : lw_tbl[930]? = some (Cond.code yX7_close cX7_close 4 (some .boolean)) := by decide +kernel
theorem mj_w103 : lw_tbl[942]? = some (Cond.code yX7_announce cX7_announce 3 (some .int)) := by decide +kernel
theorem mj_w104 : lw_tbl[950]? = some (Cond.code yX7_isMoving cX7_isMoving 2 (some .boolean)) := by decide +kernel
theorem mj_w105 : lw_tbl[946]? = some (Cond.code yX7_turn cX7_turn 2 (some .boolean)) := by decide +kernel
theorem mj_w106 : lw_tbl[954]? = some (Cond.code yX7_stop cX7_stop 4 (some .boolean)) := by decide +kernel
theorem mj_w107 : lw_tbl[958]? = some (Cond.code yX7_meter cX7_meter 4 (some .int)) := by decide +kernel
theorem mj_w108 : lw_tbl[1058]? = some (Cond.code yX7_rateOf cX7_rateOf 2 (some .int)) := by decide +kernel
theorem mj_w109 : lw_tbl[1022]? = some (Cond.code yX7_leads cX7_leads 4 (some .boolean)) := by decide +kernel
theorem mj_w110 : lw_tbl[1018]? = some (Cond.code yX7_isFor cX7_isFor 5 (some .boolean)) := by decide +kernel
theorem mj_w111 : lw_tbl[1014]? = some (Cond.code yX7_measures cX7_measures 7 (none)) := by decide +kernel
theorem mj_w112 : lw_tbl[1050]? = some (Cond.code yX7_behind cX7_behind 3 (some .int)) := by decide +kernel
theorem mj_w113 : lw_tbl[1046]? = some (Cond.code yX7_nextOf cX7_nextOf 5 (some .int)) := by decide +kernel
theorem mj_w114 : lw_tbl[999]? = some (Cond.code yX7_count cX7_count 5 (some .int)) := by decide +kernel
theorem mj_w115 : lw_tbl[994]? = some (Cond.code yX7_places cX7_places 2 (some .int)) := by decide +kernel
theorem mj_w116 : lw_tbl[978]? = some (Cond.code yX7_isOut cX7_isOut 3 (none)) := by decide +kernel
theorem mj_w117 : lw_tbl[974]? = some (Cond.code yX7_comes cX7_comes 3 (none)) := by decide +kernel
theorem mj_w118 : lw_tbl[970]? = some (Cond.code yX7_adds cX7_adds 7 (some .int)) := by decide +kernel
theorem mj_w119 : lw_tbl[962]? = some (Cond.code yX7_enter cX7_enter 8 (some .int)) := by decide +kernel
theorem mj_w120 : lw_tbl[990]? = some (Cond.code yX7_hasTrain cX7_hasTrain 4 (some .boolean)) := by decide +kernel
theorem mj_w121 : lw_tbl[1002]? = some (Cond.code yX7_lesser cX7_lesser 2 (some .int)) := by decide +kernel
theorem mj_w122 : lw_tbl[986]? = some (Cond.code yX7_train cX7_train 11 (some .int)) := by decide +kernel
theorem mj_w123 : lw_tbl[1010]? = some (Cond.code yX7_orders cX7_orders 6 (some .int)) := by decide +kernel
theorem mj_w124 : lw_tbl[1006]? = some (Cond.code yX7_clear cX7_clear 1 (some .int)) := by decide +kernel
theorem mj_w125 : lw_tbl[1042]? = some (Cond.code yX7_wants cX7_wants 3 (some .boolean)) := by decide +kernel
theorem mj_w126 : lw_tbl[1038]? = some (Cond.code yX7_firstFor cX7_firstFor 4 (some .int)) := by decide +kernel
theorem mj_w127 : lw_tbl[1034]? = some (Cond.code yX7_boards cX7_boards 5 (none)) := by decide +kernel
theorem mj_w128 : lw_tbl[1066]? = some (Cond.code yX7_isAhead cX7_isAhead 5 (some .boolean)) := by decide +kernel
theorem mj_w129 : lw_tbl[1074]? = some (Cond.code yX7_isOf cX7_isOf 3 (some .boolean)) := by decide +kernel
theorem mj_w130 : lw_tbl[1070]? = some (Cond.code yX7_together cX7_together 5 (some .int)) := by decide +kernel
theorem mj_w131 : lw_tbl[1078]? = some (Cond.code yX7_begins cX7_begins 6 (none)) := by decide +kernel
theorem mj_w132 : lw_tbl[1062]? = some (Cond.code yX7_lines cX7_lines 5 (some .int)) := by decide +kernel
theorem mj_w133 : lw_tbl[1054]? = some (Cond.code yX7_serves cX7_serves 12 (none)) := by decide +kernel
theorem mj_w134 : lw_tbl[1030]? = some (Cond.code yX7_passes cX7_passes 5 (none)) := by decide +kernel
theorem mj_w135 : lw_tbl[1026]? = some (Cond.code yX7_pass cX7_pass 3 (some .int)) := by decide +kernel
theorem mj_w136 : lw_tbl[1082]? = some (Cond.code yX7_now cX7_now 1 (some .int)) := by decide +kernel
theorem mj_w137 : lw_tbl[1086]? = some (Cond.code yX7_ofRoom cX7_ofRoom 3 (some .int)) := by decide +kernel
theorem mj_w138 : lw_tbl[1090]? = some (Cond.code yX7_ofLink cX7_ofLink 5 (some .int)) := by decide +kernel
theorem mj_w139 : lw_tbl[1094]? = some (Cond.code yX7_person cX7_person 3 (some .int)) := by decide +kernel
theorem mj_w140 : lw_tbl[1102]? = some (Cond.code yX7_ofTrain cX7_ofTrain 4 (some .int)) := by decide +kernel
theorem mj_w141 : lw_tbl[1109]? = some (Cond.code yX7_copies cX7_copies 3 (none)) := by decide +kernel
theorem mj_w142 : lw_tbl[1106]? = some (Cond.code yX7_foretell cX7_foretell 4 (some .int)) := by decide +kernel
theorem mj_w143 : lw_tbl[1117]? = some (Cond.code yX7_isEmpty cX7_isEmpty 3 (some .boolean)) := by decide +kernel
theorem mj_w144 : lw_tbl[1113]? = some (Cond.code yX7_clears cX7_clears 3 (some .int)) := by decide +kernel
theorem mj_w145 : lw_tbl[1121]? = some (Cond.code yX7_alone cX7_alone 2 (some .int)) := by decide +kernel
theorem mj_w146 : lw_tbl[1125]? = some (Cond.code yX7_aloneAnew cX7_aloneAnew 2 (some .int)) := by decide +kernel

def mj_PC (k : Nat) : Prop := ∃ i : Nat, lw_tbl[i]? = some (Cond.code (mj_y k) (mj_c k) (mj_n k) (mj_r k))
theorem mj_pc0 : ∀ a, a < 21 → mj_PC a := (lt_s (lt_s (lt_s (lt_s (lt_s (lt_s (lt_s (lt_s (lt_s (lt_s (lt_s (lt_s (lt_s (lt_s (lt_s (lt_s (lt_s (lt_s (lt_s (lt_s (lt_s lt_0 ⟨426, mj_w0⟩) ⟨685, mj_w1⟩) ⟨422, mj_w2⟩) ⟨582, mj_w3⟩) ⟨566, mj_w4⟩) ⟨578, mj_w5⟩) ⟨454, mj_w6⟩) ⟨370, mj_w7⟩) ⟨722, mj_w8⟩) ⟨343, mj_w9⟩) ⟨561, mj_w10⟩) ⟨528, mj_w11⟩) ⟨366, mj_w12⟩) ⟨374, mj_w13⟩) ⟨378, mj_w14⟩) ⟨382, mj_w15⟩) ⟨386, mj_w16⟩) ⟨458, mj_w17⟩) ⟨414, mj_w18⟩) ⟨772, mj_w19⟩) ⟨438, mj_w20⟩)
theorem mj_pc1 : ∀ a, a < 42 → mj_PC a := (lt_s (lt_s (lt_s (lt_s (lt_s (lt_s (lt_s (lt_s (lt_s (lt_s (lt_s (lt_s (lt_s (lt_s (lt_s (lt_s (lt_s (lt_s (lt_s (lt_s (lt_s mj_pc0 ⟨410, mj_w21⟩) ⟨524, mj_w22⟩) ⟨474, mj_w23⟩) ⟨501, mj_w24⟩) ⟨545, mj_w25⟩) ⟨462, mj_w26⟩) ⟨496, mj_w27⟩) ⟨793, mj_w28⟩) ⟨492, mj_w29⟩) ⟨783, mj_w30⟩) ⟨466, mj_w31⟩) ⟨430, mj_w32⟩) ⟨520, mj_w33⟩) ⟨351, mj_w34⟩) ⟨389, mj_w35⟩) ⟨358, mj_w36⟩) ⟨362, mj_w37⟩) ⟨393, mj_w38⟩) ⟨397, mj_w39⟩) ⟨470, mj_w40⟩) ⟨450, mj_w41⟩)
theorem mj_pc2 : ∀ a, a < 63 → mj_PC a := (lt_s (lt_s (lt_s (lt_s (lt_s (lt_s (lt_s (lt_s (lt_s (lt_s (lt_s (lt_s (lt_s (lt_s (lt_s (lt_s (lt_s (lt_s (lt_s (lt_s (lt_s mj_pc1 ⟨347, mj_w42⟩) ⟨867, mj_w43⟩) ⟨516, mj_w44⟩) ⟨819, mj_w45⟩) ⟨768, mj_w46⟩) ⟨788, mj_w47⟩) ⟨434, mj_w48⟩) ⟨405, mj_w49⟩) ⟨418, mj_w50⟩) ⟨479, mj_w51⟩) ⟨483, mj_w52⟩) ⟨488, mj_w53⟩) ⟨506, mj_w54⟩) ⟨512, mj_w55⟩) ⟨532, mj_w56⟩) ⟨536, mj_w57⟩) ⟨541, mj_w58⟩) ⟨549, mj_w59⟩) ⟨553, mj_w60⟩) ⟨557, mj_w61⟩) ⟨574, mj_w62⟩)
theorem mj_pc3 : ∀ a, a < 84 → mj_PC a := (lt_s (lt_s (lt_s (lt_s (lt_s (lt_s (lt_s (lt_s (lt_s (lt_s (lt_s (lt_s (lt_s (lt_s (lt_s (lt_s (lt_s (lt_s (lt_s (lt_s (lt_s mj_pc2 ⟨591, mj_w63⟩) ⟨693, mj_w64⟩) ⟨729, mj_w65⟩) ⟨339, mj_w66⟩) ⟨742, mj_w67⟩) ⟨749, mj_w68⟩) ⟨756, mj_w69⟩) ⟨763, mj_w70⟩) ⟨779, mj_w71⟩) ⟨401, mj_w72⟩) ⟨800, mj_w73⟩) ⟨442, mj_w74⟩) ⟨807, mj_w75⟩) ⟨815, mj_w76⟩) ⟨827, mj_w77⟩) ⟨842, mj_w78⟩) ⟨856, mj_w79⟩) ⟨446, mj_w80⟩) ⟨863, mj_w81⟩) ⟨874, mj_w82⟩) ⟨594, mj_w83⟩)
theorem mj_pc4 : ∀ a, a < 105 → mj_PC a := (lt_s (lt_s (lt_s (lt_s (lt_s (lt_s (lt_s (lt_s (lt_s (lt_s (lt_s (lt_s (lt_s (lt_s (lt_s (lt_s (lt_s (lt_s (lt_s (lt_s (lt_s mj_pc3 ⟨717, mj_w84⟩) ⟨665, mj_w85⟩) ⟨697, mj_w86⟩) ⟨733, mj_w87⟩) ⟨831, mj_w88⟩) ⟨846, mj_w89⟩) ⟨877, mj_w90⟩) ⟨907, mj_w91⟩) ⟨914, mj_w92⟩) ⟨918, mj_w93⟩) ⟨926, mj_w94⟩) ⟨934, mj_w95⟩) ⟨1098, mj_w96⟩) ⟨938, mj_w97⟩) ⟨966, mj_w98⟩) ⟨982, mj_w99⟩) ⟨911, mj_w100⟩) ⟨922, mj_w101⟩) ⟨930, mj_w102⟩) ⟨942, mj_w103⟩) ⟨950, mj_w104⟩)
theorem mj_pc5 : ∀ a, a < 126 → mj_PC a := (lt_s (lt_s (lt_s (lt_s (lt_s (lt_s (lt_s (lt_s (lt_s (lt_s (lt_s (lt_s (lt_s (lt_s (lt_s (lt_s (lt_s (lt_s (lt_s (lt_s (lt_s mj_pc4 ⟨946, mj_w105⟩) ⟨954, mj_w106⟩) ⟨958, mj_w107⟩) ⟨1058, mj_w108⟩) ⟨1022, mj_w109⟩) ⟨1018, mj_w110⟩) ⟨1014, mj_w111⟩) ⟨1050, mj_w112⟩) ⟨1046, mj_w113⟩) ⟨999, mj_w114⟩) ⟨994, mj_w115⟩) ⟨978, mj_w116⟩) ⟨974, mj_w117⟩) ⟨970, mj_w118⟩) ⟨962, mj_w119⟩) ⟨990, mj_w120⟩) ⟨1002, mj_w121⟩) ⟨986, mj_w122⟩) ⟨1010, mj_w123⟩) ⟨1006, mj_w124⟩) ⟨1042, mj_w125⟩)
theorem mj_pc6 : ∀ a, a < 147 → mj_PC a := (lt_s (lt_s (lt_s (lt_s (lt_s (lt_s (lt_s (lt_s (lt_s (lt_s (lt_s (lt_s (lt_s (lt_s (lt_s (lt_s (lt_s (lt_s (lt_s (lt_s (lt_s mj_pc5 ⟨1038, mj_w126⟩) ⟨1034, mj_w127⟩) ⟨1066, mj_w128⟩) ⟨1074, mj_w129⟩) ⟨1070, mj_w130⟩) ⟨1078, mj_w131⟩) ⟨1062, mj_w132⟩) ⟨1054, mj_w133⟩) ⟨1030, mj_w134⟩) ⟨1026, mj_w135⟩) ⟨1082, mj_w136⟩) ⟨1086, mj_w137⟩) ⟨1090, mj_w138⟩) ⟨1094, mj_w139⟩) ⟨1102, mj_w140⟩) ⟨1109, mj_w141⟩) ⟨1106, mj_w142⟩) ⟨1117, mj_w143⟩) ⟨1113, mj_w144⟩) ⟨1121, mj_w145⟩) ⟨1125, mj_w146⟩)
theorem mj_pcAll : ∀ a, a < mj_N → mj_PC a := mj_pc6
