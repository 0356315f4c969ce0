/-! the two graphs of cells; the methods; what the tables say at each place of the code -/
theorem WP.topI {G : MG} {M : MI} {pc : Nat} {L : List (Option MV)} {S : List MV} {σ : Mem} {Q : Int → Mem → Prop} {x y : Int} (hy : x = y) (k : WP G M pc L (mi y :: S) σ Q) : WP G M pc L (mi x :: S) σ Q := by
  subst hy; exact k
def GC : MG := [.inr (8, [some 1, some 13, none, some 25, some 27, some 33, some 40, some 45]), .inr (4, [some 3, some 8, some 2, none, none]), .inl (false, 64), .inr (0, [none, some 4, some 5, some 6, some 7]), .inl (false, 16), .inl (false, 4), .inl (false, 4), .inl (false, 4), .inr (6, [none, some 9, some 10, some 11, some 12]), .inl (false, 8), .inl (false, 8), .inl (false, 8), .inl (false, 8), .inr (4, [some 15, some 20, some 14, none, none]), .inl (false, 64), .inr (0, [none, some 16, some 17, some 18, some 19]), .inl (false, 16), .inl (false, 4), .inl (false, 4), .inl (false, 4), .inr (6, [none, some 21, some 22, some 23, some 24]), .inl (false, 8), .inl (false, 8), .inl (false, 8), .inl (false, 8), .inr (5, [some 26, none, none]), .inl (false, 100), .inr (2, [some 28, none, none, none]), .inr (0, [none, some 29, some 30, some 31, some 32]), .inl (false, 16), .inl (false, 4), .inl (false, 4), .inl (false, 4), .inr (7, [some 35, some 34, none, none, none, none]), .inl (false, 4), .inr (0, [none, some 36, some 37, some 38, some 39]), .inl (false, 16), .inl (false, 4), .inl (false, 4), .inl (false, 4), .inr (1, [some 41, some 42, some 43, some 44]), .inl (false, 64), .inl (false, 8), .inl (false, 256), .inl (false, 256), .inr (3, [some 46, some 47, some 48, some 49]), .inl (true, 4), .inl (false, 4), .inl (false, 4), .inl (false, 96)]
theorem g0 : GC[0]? = some (.inr (8, [some 1, some 13, none, some 25, some 27, some 33, some 40, some 45])) := rfl
theorem g1 : GC[1]? = some (.inr (4, [some 3, some 8, some 2, none, none])) := rfl
theorem g2 : GC[2]? = some (.inl (false, 64)) := rfl
theorem g3 : GC[3]? = some (.inr (0, [none, some 4, some 5, some 6, some 7])) := rfl
theorem g4 : GC[4]? = some (.inl (false, 16)) := rfl
theorem g5 : GC[5]? = some (.inl (false, 4)) := rfl
theorem g6 : GC[6]? = some (.inl (false, 4)) := rfl
theorem g7 : GC[7]? = some (.inl (false, 4)) := rfl
theorem g8 : GC[8]? = some (.inr (6, [none, some 9, some 10, some 11, some 12])) := rfl
theorem g9 : GC[9]? = some (.inl (false, 8)) := rfl
theorem g10 : GC[10]? = some (.inl (false, 8)) := rfl
theorem g11 : GC[11]? = some (.inl (false, 8)) := rfl
theorem g12 : GC[12]? = some (.inl (false, 8)) := rfl
theorem g13 : GC[13]? = some (.inr (4, [some 15, some 20, some 14, none, none])) := rfl
theorem g14 : GC[14]? = some (.inl (false, 64)) := rfl
theorem g15 : GC[15]? = some (.inr (0, [none, some 16, some 17, some 18, some 19])) := rfl
theorem g16 : GC[16]? = some (.inl (false, 16)) := rfl
theorem g17 : GC[17]? = some (.inl (false, 4)) := rfl
theorem g18 : GC[18]? = some (.inl (false, 4)) := rfl
theorem g19 : GC[19]? = some (.inl (false, 4)) := rfl
theorem g20 : GC[20]? = some (.inr (6, [none, some 21, some 22, some 23, some 24])) := rfl
theorem g21 : GC[21]? = some (.inl (false, 8)) := rfl
theorem g22 : GC[22]? = some (.inl (false, 8)) := rfl
theorem g23 : GC[23]? = some (.inl (false, 8)) := rfl
theorem g24 : GC[24]? = some (.inl (false, 8)) := rfl
theorem g25 : GC[25]? = some (.inr (5, [some 26, none, none])) := rfl
theorem g26 : GC[26]? = some (.inl (false, 100)) := rfl
theorem g27 : GC[27]? = some (.inr (2, [some 28, none, none, none])) := rfl
theorem g28 : GC[28]? = some (.inr (0, [none, some 29, some 30, some 31, some 32])) := rfl
theorem g29 : GC[29]? = some (.inl (false, 16)) := rfl
theorem g30 : GC[30]? = some (.inl (false, 4)) := rfl
theorem g31 : GC[31]? = some (.inl (false, 4)) := rfl
theorem g32 : GC[32]? = some (.inl (false, 4)) := rfl
theorem g33 : GC[33]? = some (.inr (7, [some 35, some 34, none, none, none, none])) := rfl
theorem g34 : GC[34]? = some (.inl (false, 4)) := rfl
theorem g35 : GC[35]? = some (.inr (0, [none, some 36, some 37, some 38, some 39])) := rfl
theorem g36 : GC[36]? = some (.inl (false, 16)) := rfl
theorem g37 : GC[37]? = some (.inl (false, 4)) := rfl
theorem g38 : GC[38]? = some (.inl (false, 4)) := rfl
theorem g39 : GC[39]? = some (.inl (false, 4)) := rfl
theorem g40 : GC[40]? = some (.inr (1, [some 41, some 42, some 43, some 44])) := rfl
theorem g41 : GC[41]? = some (.inl (false, 64)) := rfl
theorem g42 : GC[42]? = some (.inl (false, 8)) := rfl
theorem g43 : GC[43]? = some (.inl (false, 256)) := rfl
theorem g44 : GC[44]? = some (.inl (false, 256)) := rfl
theorem g45 : GC[45]? = some (.inr (3, [some 46, some 47, some 48, some 49])) := rfl
theorem g46 : GC[46]? = some (.inl (true, 4)) := rfl
theorem g47 : GC[47]? = some (.inl (false, 4)) := rfl
theorem g48 : GC[48]? = some (.inl (false, 4)) := rfl
theorem g49 : GC[49]? = some (.inl (false, 96)) := rfl
def GM : MG := [.inr (9, [some 1, some 2, some 3, some 4, none, some 5, some 6, some 7, some 8, none, some 9, none, none, some 10, none, none, none, some 11, none, none, none, some 12, some 13, some 14, some 15, some 16, none, some 17, some 18, some 19, some 20, some 21, some 22]), .inl (false, 4), .inl (false, 4), .inl (false, 4), .inl (false, 16), .inl (false, 8), .inl (false, 8), .inl (false, 8), .inl (false, 8), .inl (false, 64), .inl (false, 100), .inl (false, 160), .inl (false, 4), .inl (false, 4), .inl (false, 4), .inl (false, 256), .inl (false, 256), .inl (false, 128), .inl (false, 4), .inl (false, 4), .inl (false, 96), .inl (false, 64), .inl (false, 24)]
theorem k0 : GM[0]? = some (.inr (9, [some 1, some 2, some 3, some 4, none, some 5, some 6, some 7, some 8, none, some 9, none, none, some 10, none, none, none, some 11, none, none, none, some 12, some 13, some 14, some 15, some 16, none, some 17, some 18, some 19, some 20, some 21, some 22])) := rfl
theorem k1 : GM[1]? = some (.inl (false, 4)) := rfl
theorem k2 : GM[2]? = some (.inl (false, 4)) := rfl
theorem k3 : GM[3]? = some (.inl (false, 4)) := rfl
theorem k4 : GM[4]? = some (.inl (false, 16)) := rfl
theorem k5 : GM[5]? = some (.inl (false, 8)) := rfl
theorem k6 : GM[6]? = some (.inl (false, 8)) := rfl
theorem k7 : GM[7]? = some (.inl (false, 8)) := rfl
theorem k8 : GM[8]? = some (.inl (false, 8)) := rfl
theorem k9 : GM[9]? = some (.inl (false, 64)) := rfl
theorem k10 : GM[10]? = some (.inl (false, 100)) := rfl
theorem k11 : GM[11]? = some (.inl (false, 160)) := rfl
theorem k12 : GM[12]? = some (.inl (false, 4)) := rfl
theorem k13 : GM[13]? = some (.inl (false, 4)) := rfl
theorem k14 : GM[14]? = some (.inl (false, 4)) := rfl
theorem k15 : GM[15]? = some (.inl (false, 256)) := rfl
theorem k16 : GM[16]? = some (.inl (false, 256)) := rfl
theorem k17 : GM[17]? = some (.inl (false, 128)) := rfl
theorem k18 : GM[18]? = some (.inl (false, 4)) := rfl
theorem k19 : GM[19]? = some (.inl (false, 4)) := rfl
theorem k20 : GM[20]? = some (.inl (false, 96)) := rfl
theorem k21 : GM[21]? = some (.inl (false, 64)) := rfl
theorem k22 : GM[22]? = some (.inl (false, 24)) := rfl
theorem pn_J6 : plainName RJ6 = true := by decide +kernel
theorem pn_X0 : plainName RX0 = true := by decide +kernel
theorem pn_X1 : plainName RX1 = true := by decide +kernel
theorem pn_X2 : plainName RX2 = true := by decide +kernel
theorem pn_X3 : plainName RX3 = true := by decide +kernel
theorem pn_X4 : plainName RX4 = true := by decide +kernel
theorem pn_X5 : plainName RX5 = true := by decide +kernel
theorem pn_X6 : plainName RX6 = true := by decide +kernel
theorem pn_X7 : plainName RX7 = true := by decide +kernel
theorem pn_X8 : plainName RX8 = true := by decide +kernel
theorem pn_X9 : plainName RX9 = true := by decide +kernel
abbrev M_X8_isTurn : MI := (yX8_isTurn, cX8_isTurn, 4, some .boolean, 1, 21)
abbrev M_X8_coat : MI := (yX8_coat, cX8_coat, 5, some .int, 2, 44)
abbrev M_X8_within : MI := (yX8_within, cX8_within, 2, some .boolean, 0, 0)
abbrev M_X0_open : MI := (yX0_open, cX0_open, 1, none, 0, 0)
abbrev M_X0_close : MI := (yX0_close, cX0_close, 2, none, 0, 0)
abbrev M_X0_join : MI := (yX0_join, cX0_join, 2, none, 0, 0)
abbrev M_J6_bitCount_0f7a4 : MI := (yJ6_bitCount_0f7a4, cJ6_bitCount_0f7a4, 1, some .int, 0, 0)
abbrev M_X9_in : MI := (yX9_in, cX9_in, 6, some .boolean, 0, 0)
abbrev M_X9_coat : MI := (yX9_coat, cX9_coat, 6, some .int, 1, 25)
abbrev M_X9_ones : MI := (yX9_ones, cX9_ones, 3, some .int, 0, 0)
abbrev M_X8_thing : MI := (yX8_thing, cX8_thing, 3, some .int, 1, 22)
abbrev M_X6_add : MI := (yX6_add, cX6_add, 3, some .int, 0, 0)
abbrev M_X9_thing : MI := (yX9_thing, cX9_thing, 3, some .int, 2, 45)
abbrev M_X9_isBoy : MI := (yX9_isBoy, cX9_isBoy, 1, some .boolean, 1, 25)
abbrev M_X6_has : MI := (yX6_has, cX6_has, 2, some .boolean, 1, 21)
abbrev M_X8_where : MI := (yX8_where, cX8_where, 2, some .int, 2, 42)
abbrev M_X9_isThing : MI := (yX9_isThing, cX9_isThing, 2, some .boolean, 1, 25)
abbrev M_X9_where : MI := (yX9_where, cX9_where, 2, some .int, 2, 46)
abbrev M_X8_told : MI := (yX8_told, cX8_told, 3, some .int, 2, 42)
abbrev M_X9_told : MI := (yX9_told, cX9_told, 3, some .int, 2, 46)
abbrev M_X0_has : MI := (yX0_has, cX0_has, 2, some .boolean, 1, 21)
abbrev M_X8_of : MI := (yX8_of, cX8_of, 3, some .int, 2, 42)
abbrev M_X0_wearer : MI := (yX0_wearer, cX0_wearer, 2, some .int, 0, 0)
abbrev M_X6_at : MI := (yX6_at, cX6_at, 4, some .int, 0, 0)
abbrev M_X0_boyOfTurn : MI := (yX0_boyOfTurn, cX0_boyOfTurn, 3, some .int, 0, 0)
abbrev M_X9_isCoat : MI := (yX9_isCoat, cX9_isCoat, 2, some .boolean, 1, 25)
abbrev M_X9_of : MI := (yX9_of, cX9_of, 3, some .int, 2, 46)
abbrev M_X9_wearer : MI := (yX9_wearer, cX9_wearer, 3, some .int, 0, 0)
abbrev M_X9_thingsAt : MI := (yX9_thingsAt, cX9_thingsAt, 4, some .int, 0, 0)
abbrev M_X8_hole : MI := (yX8_hole, cX8_hole, 4, some .int, 2, 42)
abbrev M_X9_hole : MI := (yX9_hole, cX9_hole, 4, some .int, 2, 46)
abbrev M_X8_isText : MI := (yX8_isText, cX8_isText, 6, some .boolean, 0, 0)
abbrev M_X8_type : MI := (yX8_type, cX8_type, 5, some .int, 1, 25)
abbrev M_X5_append : MI := (yX5_append, cX5_append, 2, none, 0, 0)
abbrev M_X9_type : MI := (yX9_type, cX9_type, 5, some .int, 1, 25)
abbrev M_X2_readSchool : MI := (yX2_readSchool, cX2_readSchool, 3, some .int, 4, 90)
abbrev M_X8_school : MI := (yX8_school, cX8_school, 2, some .int, 5, 112)
abbrev M_X5_clear : MI := (yX5_clear, cX5_clear, 1, none, 0, 0)
abbrev M_X0_become : MI := (yX0_become, cX0_become, 2, none, 1, 26)
abbrev M_X6_leaveCoats : MI := (yX6_leaveCoats, cX6_leaveCoats, 2, none, 0, 0)
abbrev M_X5_fault : MI := (yX5_fault, cX5_fault, 1, some .int, 0, 0)
abbrev M_X2_readCoat : MI := (yX2_readCoat, cX2_readCoat, 6, some .boolean, 3, 65)
abbrev M_X5_atEnd : MI := (yX5_atEnd, cX5_atEnd, 1, some .boolean, 0, 0)
abbrev M_X5_passes : MI := (yX5_passes, cX5_passes, 2, some .boolean, 1, 20)
abbrev M_X5_digitBelow : MI := (yX5_digitBelow, cX5_digitBelow, 3, some .int, 1, 21)
abbrev M_X5_passDigit : MI := (yX5_passDigit, cX5_passDigit, 3, some .int, 2, 43)
abbrev M_X9_readSchool : MI := (yX9_readSchool, cX9_readSchool, 3, some .boolean, 3, 71)
abbrev M_X9_school : MI := (yX9_school, cX9_school, 4, some .int, 4, 93)
abbrev M_X9_nextByte : MI := (yX9_nextByte, cX9_nextByte, 1, some .int, 0, 0)
abbrev M_X9_readCoat : MI := (yX9_readCoat, cX9_readCoat, 5, some .boolean, 2, 47)
abbrev M_X9_readDigit : MI := (yX9_readDigit, cX9_readDigit, 3, some .int, 1, 25)
abbrev M_X9_has : MI := (yX9_has, cX9_has, 2, some .boolean, 0, 0)
abbrev M_X2_checkDay : MI := (yX2_checkDay, cX2_checkDay, 4, some .int, 5, 110)
abbrev M_X8_day : MI := (yX8_day, cX8_day, 3, some .int, 6, 133)
abbrev M_X2_runDay : MI := (yX2_runDay, cX2_runDay, 4, some .int, 5, 110)
abbrev M_X2_readAct : MI := (yX2_readAct, cX2_readAct, 3, some .boolean, 4, 88)
abbrev M_X2_readWay : MI := (yX2_readWay, cX2_readWay, 4, some .boolean, 3, 65)
abbrev M_X2_doAct : MI := (yX2_doAct, cX2_doAct, 2, some .int, 3, 66)
abbrev M_X4_handOver : MI := (yX4_handOver, cX4_handOver, 4, some .int, 2, 43)
abbrev M_X4_putIn : MI := (yX4_putIn, cX4_putIn, 4, some .int, 1, 22)
abbrev M_X4_searchLining : MI := (yX4_searchLining, cX4_searchLining, 4, some .int, 1, 22)
abbrev M_X4_takeOut : MI := (yX4_takeOut, cX4_takeOut, 3, some .int, 1, 21)
abbrev M_X4_ring : MI := (yX4_ring, cX4_ring, 3, some .int, 2, 43)
abbrev M_X0_anyOn : MI := (yX0_anyOn, cX0_anyOn, 3, some .boolean, 1, 21)
abbrev M_X6_readBy : MI := (yX6_readBy, cX6_readBy, 3, none, 0, 0)
abbrev M_X0_turnAll : MI := (yX0_turnAll, cX0_turnAll, 2, none, 0, 0)
abbrev M_X6_inPocket : MI := (yX6_inPocket, cX6_inPocket, 2, some .boolean, 0, 0)
abbrev M_X4_change : MI := (yX4_change, cX4_change, 3, some .int, 1, 21)
abbrev M_X4_drawsBelow : MI := (yX4_drawsBelow, cX4_drawsBelow, 2, some .boolean, 0, 0)
abbrev M_X9_readDay : MI := (yX9_readDay, cX9_readDay, 2, some .boolean, 3, 69)
abbrev M_X9_day : MI := (yX9_day, cX9_day, 3, some .int, 4, 93)
abbrev M_X9_does : MI := (yX9_does, cX9_does, 5, some .boolean, 3, 69)
abbrev M_X9_readAct : MI := (yX9_readAct, cX9_readAct, 3, some .boolean, 2, 47)
abbrev M_X9_bell : MI := (yX9_bell, cX9_bell, 3, some .int, 2, 45)
abbrev M_X9_give : MI := (yX9_give, cX9_give, 4, some .int, 2, 46)
abbrev M_X9_search : MI := (yX9_search, cX9_search, 4, some .int, 2, 46)
abbrev M_X9_take : MI := (yX9_take, cX9_take, 3, some .int, 2, 46)
abbrev M_X9_put : MI := (yX9_put, cX9_put, 4, some .int, 2, 46)
abbrev M_X9_ring : MI := (yX9_ring, cX9_ring, 4, some .boolean, 1, 22)
abbrev M_X9_come : MI := (yX9_come, cX9_come, 3, none, 1, 22)
abbrev M_X9_wearsAny : MI := (yX9_wearsAny, cX9_wearsAny, 4, some .boolean, 1, 22)
abbrev M_X6_between : MI := (yX6_between, cX6_between, 5, some .int, 0, 0)
abbrev M_X8_count : MI := (yX8_count, cX8_count, 2, some .int, 1, 24)
abbrev M_X9_count : MI := (yX9_count, cX9_count, 6, some .int, 1, 25)
abbrev M_X8_put : MI := (yX8_put, cX8_put, 3, some .int, 2, 45)
abbrev M_X8_take : MI := (yX8_take, cX8_take, 3, some .int, 2, 43)
abbrev M_X8_search : MI := (yX8_search, cX8_search, 2, some .int, 2, 45)
abbrev M_X8_give : MI := (yX8_give, cX8_give, 3, some .int, 3, 66)
abbrev M_X8_bell : MI := (yX8_bell, cX8_bell, 1, some .int, 3, 65)
abbrev M_X8_reach : MI := (yX8_reach, cX8_reach, 4, some .int, 4, 89)
abbrev M_X8_isBoys : MI := (yX8_isBoys, cX8_isBoys, 1, some .boolean, 1, 21)
abbrev M_X7_handsAfter : MI := (yX7_handsAfter, cX7_handsAfter, 6, some .int, 3, 64)
abbrev M_X7_start : MI := (yX7_start, cX7_start, 3, none, 2, 42)
abbrev M_X7_ring : MI := (yX7_ring, cX7_ring, 2, none, 2, 42)
abbrev M_X7_spread : MI := (yX7_spread, cX7_spread, 2, none, 1, 21)
abbrev M_X9_reach : MI := (yX9_reach, cX9_reach, 6, some .int, 3, 69)
abbrev M_X9_begin : MI := (yX9_begin, cX9_begin, 2, none, 0, 0)
abbrev M_X9_closeAll : MI := (yX9_closeAll, cX9_closeAll, 4, none, 2, 46)
abbrev M_X9_ringOn : MI := (yX9_ringOn, cX9_ringOn, 4, none, 1, 22)
abbrev M_X9_close : MI := (yX9_close, cX9_close, 5, none, 1, 22)
abbrev M_X8_soonest : MI := (yX8_soonest, cX8_soonest, 6, some .int, 5, 110)
abbrev M_X7_fewestBells : MI := (yX7_fewestBells, cX7_fewestBells, 5, some .int, 4, 86)
abbrev M_X7_comingTo : MI := (yX7_comingTo, cX7_comingTo, 4, some .int, 1, 21)
abbrev M_X7_bellsTo : MI := (yX7_bellsTo, cX7_bellsTo, 4, some .int, 3, 63)
abbrev M_X9_soonest : MI := (yX9_soonest, cX9_soonest, 6, some .int, 4, 96)
abbrev M_X9_findSoonest : MI := (yX9_findSoonest, cX9_findSoonest, 8, some .int, 3, 69)
abbrev M_X8_dealt : MI := (yX8_dealt, cX8_dealt, 6, some .int, 5, 114)
abbrev M_X7_dealBest : MI := (yX7_dealBest, cX7_dealBest, 9, some .int, 4, 86)
abbrev M_X0_sortTurn : MI := (yX0_sortTurn, cX0_sortTurn, 5, none, 1, 23)
abbrev M_X0_nextOrder : MI := (yX0_nextOrder, cX0_nextOrder, 8, some .boolean, 1, 23)
abbrev M_X0_swap : MI := (yX0_swap, cX0_swap, 4, none, 0, 0)
abbrev M_X9_dealt : MI := (yX9_dealt, cX9_dealt, 11, some .int, 4, 96)
abbrev M_X9_nextOrder : MI := (yX9_nextOrder, cX9_nextOrder, 7, some .boolean, 0, 0)
abbrev M_X8_wore : MI := (yX8_wore, cX8_wore, 3, some .int, 2, 42)
abbrev M_X0_wearers : MI := (yX0_wearers, cX0_wearers, 6, some .int, 0, 0)
abbrev M_X9_wore : MI := (yX9_wore, cX9_wore, 5, some .int, 2, 46)
abbrev M_X8_isPair : MI := (yX8_isPair, cX8_isPair, 2, some .boolean, 1, 21)
abbrev M_X8_owe : MI := (yX8_owe, cX8_owe, 5, some .int, 2, 42)
abbrev M_X9_areTwo : MI := (yX9_areTwo, cX9_areTwo, 2, some .boolean, 2, 45)
abbrev M_X9_owe : MI := (yX9_owe, cX9_owe, 5, some .int, 3, 66)
abbrev M_X8_balance : MI := (yX8_balance, cX8_balance, 2, some .int, 1, 23)
abbrev M_X4_balanceOf : MI := (yX4_balanceOf, cX4_balanceOf, 4, some .int, 0, 0)
abbrev M_X9_balance : MI := (yX9_balance, cX9_balance, 2, some .int, 2, 45)
abbrev M_X9_balanceOf : MI := (yX9_balanceOf, cX9_balanceOf, 4, some .int, 0, 0)
abbrev M_X1_fewest : MI := (yX1_fewest, cX1_fewest, 5, some .int, 2, 45)
abbrev M_X8_payments : MI := (yX8_payments, cX8_payments, 1, some .int, 3, 69)
abbrev M_X1_mostSets : MI := (yX1_mostSets, cX1_mostSets, 5, some .int, 1, 21)
abbrev M_X9_payments : MI := (yX9_payments, cX9_payments, 5, some .int, 1, 23)
abbrev M_X4_become : MI := (yX4_become, cX4_become, 2, none, 2, 47)
abbrev M_X8_image : MI := (yX8_image, cX8_image, 1, some .int, 3, 68)
abbrev M_X6_become : MI := (yX6_become, cX6_become, 2, none, 1, 26)
abbrev M_X9_image : MI := (yX9_image, cX9_image, 2, some .int, 1, 25)
abbrev M_X9_carried : MI := (yX9_carried, cX9_carried, 6, some .int, 0, 0)
abbrev M_X8_restore : MI := (yX8_restore, cX8_restore, 1, some .int, 3, 68)
abbrev M_X9_restore : MI := (yX9_restore, cX9_restore, 2, some .int, 1, 25)
abbrev M_X8_owes : MI := (yX8_owes, cX8_owes, 6, some .int, 4, 92)
abbrev M_X3_find : MI := (yX3_find, cX3_find, 5, some .int, 0, 0)
abbrev M_X1_addDebts : MI := (yX1_addDebts, cX1_addDebts, 8, some .int, 3, 65)
abbrev M_X1_addDebt : MI := (yX1_addDebt, cX1_addDebt, 4, some .boolean, 2, 42)
abbrev M_X9_isSheet : MI := (yX9_isSheet, cX9_isSheet, 2, some .boolean, 1, 25)
abbrev M_X9_owes : MI := (yX9_owes, cX9_owes, 12, some .int, 3, 66)
abbrev M_X9_lacksRow : MI := (yX9_lacksRow, cX9_lacksRow, 5, some .int, 1, 25)
abbrev M_X8_film : MI := (yX8_film, cX8_film, 6, some .int, 1, 26)
abbrev M_X9_film : MI := (yX9_film, cX9_film, 6, some .int, 2, 49)
abbrev M_X8_sheet : MI := (yX8_sheet, cX8_sheet, 4, some .int, 1, 24)
abbrev M_X3_lay : MI := (yX3_lay, cX3_lay, 5, none, 0, 0)
abbrev M_X9_sheet : MI := (yX9_sheet, cX9_sheet, 5, some .int, 2, 46)
abbrev M_X8_drop : MI := (yX8_drop, cX8_drop, 2, some .int, 1, 21)
abbrev M_X9_drop : MI := (yX9_drop, cX9_drop, 2, some .int, 1, 25)
abbrev M_X8_item : MI := (yX8_item, cX8_item, 6, some .int, 1, 24)
abbrev M_X8_cut : MI := (yX8_cut, cX8_cut, 2, some .int, 0, 0)
abbrev M_X9_item : MI := (yX9_item, cX9_item, 6, some .int, 2, 49)
abbrev M_X8_copy : MI := (yX8_copy, cX8_copy, 7, some .int, 1, 26)
abbrev M_X9_copy : MI := (yX9_copy, cX9_copy, 7, some .int, 1, 25)
abbrev M_X8_seed : MI := (yX8_seed, cX8_seed, 3, some .int, 0, 0)
abbrev M_X9_seed : MI := (yX9_seed, cX9_seed, 3, some .int, 0, 0)
theorem lk_X8_54 : Cond.methodLink RX8 54 yX8_isTurn ∈ TBL := tb_in 293 (by decide +kernel) rfl
theorem cs_X8_isTurn : mcs M_X8_isTurn 2 := ⟨tb_in 295 (by decide +kernel) rfl, tb_in 37 (by decide +kernel) rfl, tb_in 294 (by decide +kernel) rfl, ⟨by decide, by decide, by decide +kernel⟩⟩
theorem ft_X8_coat__X8_isTurn : mfit M_X8_coat M_X8_isTurn := ⟨by decide, by decide⟩
theorem lk_X8_58 : Cond.methodLink RX8 58 yX8_within ∈ TBL := tb_in 296 (by decide +kernel) rfl
theorem cs_X8_within : mcs M_X8_within 2 := ⟨tb_in 298 (by decide +kernel) rfl, tb_in 37 (by decide +kernel) rfl, tb_in 297 (by decide +kernel) rfl, ⟨by decide, by decide, by decide +kernel⟩⟩
theorem ft_X8_coat__X8_within : mfit M_X8_coat M_X8_within := ⟨by decide, by decide⟩
theorem fd_X8_10 : mfd RX8 10 8 0 := ⟨RX8, TX8, 8, rfl, by decide, tbX8, tb_in 264 (by decide +kernel) rfl, rfl⟩
theorem fd_X8_61 : mfd RX8 61 4 0 := ⟨RX4, TX4, 5, rfl, by decide, tbX4, tb_in 130 (by decide +kernel) rfl, rfl⟩
theorem fd_X8_65 : mfd RX8 65 0 0 := ⟨RX0, TX0, 5, rfl, by decide, tbX0, tb_in 72 (by decide +kernel) rfl, rfl⟩
theorem lk_X8_71 : Cond.methodLink RX8 71 yX0_open ∈ TBL := tb_in 305 (by decide +kernel) rfl
theorem cv_X0_open : mcv M_X0_open 0 := ⟨tb_in 308 (by decide +kernel) rfl, tb_in 39 (by decide +kernel) rfl, tb_in 306 (by decide +kernel) rfl, tb_in 307 (by decide +kernel) rfl, ⟨by decide, by decide, by decide +kernel⟩⟩
theorem ft_X8_coat__X0_open : mfit M_X8_coat M_X0_open := ⟨by decide, by decide⟩
theorem bp_m3 : (Int8.ofInt (-3)).toInt32 = Int32.ofInt (-3) := by decide
theorem lk_X8_78 : Cond.methodLink RX8 78 yX0_close ∈ TBL := tb_in 313 (by decide +kernel) rfl
theorem cv_X0_close : mcv M_X0_close 1 := ⟨tb_in 316 (by decide +kernel) rfl, tb_in 39 (by decide +kernel) rfl, tb_in 314 (by decide +kernel) rfl, tb_in 315 (by decide +kernel) rfl, ⟨by decide, by decide, by decide +kernel⟩⟩
theorem ft_X8_coat__X0_close : mfit M_X8_coat M_X0_close := ⟨by decide, by decide⟩
theorem bp_7 : (Int8.ofInt 7).toInt32 = Int32.ofInt 7 := by decide
theorem lk_X8_74 : Cond.methodLink RX8 74 yX0_join ∈ TBL := tb_in 309 (by decide +kernel) rfl
theorem cv_X0_join : mcv M_X0_join 1 := ⟨tb_in 312 (by decide +kernel) rfl, tb_in 39 (by decide +kernel) rfl, tb_in 310 (by decide +kernel) rfl, tb_in 311 (by decide +kernel) rfl, ⟨by decide, by decide, by decide +kernel⟩⟩
theorem ft_X8_coat__X0_join : mfit M_X8_coat M_X0_join := ⟨by decide, by decide⟩
theorem ft_X8_isTurn__X8_within : mfit M_X8_isTurn M_X8_within := ⟨by decide, by decide⟩
theorem lk_X8_260 : Cond.methodLink RX8 260 yJ6_bitCount_0f7a4 ∈ TBL := tb_in 299 (by decide +kernel) rfl
theorem cs_J6_bitCount_0f7a4 : mcs M_J6_bitCount_0f7a4 1 := ⟨tb_in 301 (by decide +kernel) rfl, tb_in 47 (by decide +kernel) rfl, tb_in 300 (by decide +kernel) rfl, ⟨by decide, by decide, by decide +kernel⟩⟩
theorem ft_X8_isTurn__J6_bitCount_0f7a4 : mfit M_X8_isTurn M_J6_bitCount_0f7a4 := ⟨by decide, by decide⟩
theorem ct_J6_265 : Cond.constant RJ6 265 1431655765 ∈ TBL := tb_in 302 (by decide +kernel) rfl
theorem ct_J6_266 : Cond.constant RJ6 266 858993459 ∈ TBL := tb_in 303 (by decide +kernel) rfl
theorem ct_J6_267 : Cond.constant RJ6 267 252645135 ∈ TBL := tb_in 304 (by decide +kernel) rfl
theorem bp_8 : (Int8.ofInt 8).toInt32 = Int32.ofInt 8 := by decide
theorem bp_16 : (Int8.ofInt 16).toInt32 = Int32.ofInt 16 := by decide
theorem bp_63 : (Int8.ofInt 63).toInt32 = Int32.ofInt 63 := by decide
theorem fd_X0_24 : mfd RX0 24 0 0 := ⟨RX0, TX0, 5, rfl, by decide, tbX0, tb_in 70 (by decide +kernel) rfl, rfl⟩
theorem fd_X0_15 : mfd RX0 15 0 2 := ⟨RX0, TX0, 5, rfl, by decide, tbX0, tb_in 77 (by decide +kernel) rfl, rfl⟩
theorem fd_X0_18 : mfd RX0 18 0 3 := ⟨RX0, TX0, 5, rfl, by decide, tbX0, tb_in 79 (by decide +kernel) rfl, rfl⟩
theorem fd_X0_21 : mfd RX0 21 0 4 := ⟨RX0, TX0, 5, rfl, by decide, tbX0, tb_in 81 (by decide +kernel) rfl, rfl⟩
theorem fp_X0_24 : mfp RX0 24 0 0 .int := ⟨RX0, TX0, 5, tyX0, rfl, by decide, tbX0, tb_in 70 (by decide +kernel) rfl, rfl, tyX0_ok, nmX0, rfl, by decide +kernel⟩
theorem fd_X0_9 : mfd RX0 9 0 1 := ⟨RX0, TX0, 5, rfl, by decide, tbX0, tb_in 75 (by decide +kernel) rfl, rfl⟩
theorem ct_X9_92 : Cond.constantLong RX9 92 4 ∈ TBL := tb_in 819 (by decide +kernel) rfl
theorem lk_X9_82 : Cond.methodLink RX9 82 yX9_in ∈ TBL := tb_in 820 (by decide +kernel) rfl
theorem cs_X9_in : mcs M_X9_in 3 := ⟨tb_in 822 (by decide +kernel) rfl, tb_in 46 (by decide +kernel) rfl, tb_in 821 (by decide +kernel) rfl, ⟨by decide, by decide, by decide +kernel⟩⟩
theorem ft_X9_coat__X9_in : mfit M_X9_coat M_X9_in := ⟨by decide, by decide⟩
theorem ct_X9_94 : Cond.constantLong RX9 94 3 ∈ TBL := tb_in 823 (by decide +kernel) rfl
theorem lk_X9_96 : Cond.methodLink RX9 96 yX9_ones ∈ TBL := tb_in 824 (by decide +kernel) rfl
theorem cs_X9_ones : mcs M_X9_ones 1 := ⟨tb_in 826 (by decide +kernel) rfl, tb_in 46 (by decide +kernel) rfl, tb_in 825 (by decide +kernel) rfl, ⟨by decide, by decide, by decide +kernel⟩⟩
theorem ft_X9_coat__X9_ones : mfit M_X9_coat M_X9_ones := ⟨by decide, by decide⟩
theorem fd_X9_86 : mfd RX9 86 9 4 := ⟨RX9, TX9, 33, rfl, by decide, tbX9, tb_in 719 (by decide +kernel) rfl, rfl⟩
theorem fd_X9_7 : mfd RX9 7 9 0 := ⟨RX9, TX9, 33, rfl, by decide, tbX9, tb_in 715 (by decide +kernel) rfl, rfl⟩
theorem fd_X9_13 : mfd RX9 13 9 1 := ⟨RX9, TX9, 33, rfl, by decide, tbX9, tb_in 716 (by decide +kernel) rfl, rfl⟩
theorem fd_X9_16 : mfd RX9 16 9 2 := ⟨RX9, TX9, 33, rfl, by decide, tbX9, tb_in 717 (by decide +kernel) rfl, rfl⟩
theorem fp_X9_86 : mfp RX9 86 9 4 .int := ⟨RX9, TX9, 33, tyX9, rfl, by decide, tbX9, tb_in 719 (by decide +kernel) rfl, rfl, tyX9_ok, nmX9, rfl, by decide +kernel⟩
theorem fd_X9_19 : mfd RX9 19 9 3 := ⟨RX9, TX9, 33, rfl, by decide, tbX9, tb_in 718 (by decide +kernel) rfl, rfl⟩
theorem ft_X8_thing__X8_within : mfit M_X8_thing M_X8_within := ⟨by decide, by decide⟩
theorem fd_X8_81 : mfd RX8 81 4 1 := ⟨RX4, TX4, 5, rfl, by decide, tbX4, tb_in 133 (by decide +kernel) rfl, rfl⟩
theorem fd_X8_85 : mfd RX8 85 6 0 := ⟨RX6, TX6, 5, rfl, by decide, tbX6, tb_in 104 (by decide +kernel) rfl, rfl⟩
theorem lk_X8_88 : Cond.methodLink RX8 88 yX6_add ∈ TBL := tb_in 321 (by decide +kernel) rfl
theorem cv_X6_add : mcv M_X6_add 2 := ⟨tb_in 324 (by decide +kernel) rfl, tb_in 40 (by decide +kernel) rfl, tb_in 322 (by decide +kernel) rfl, tb_in 323 (by decide +kernel) rfl, ⟨by decide, by decide, by decide +kernel⟩⟩
theorem ft_X8_thing__X6_add : mfit M_X8_thing M_X6_add := ⟨by decide, by decide⟩
theorem fd_X6_9 : mfd RX6 9 6 1 := ⟨RX6, TX6, 5, rfl, by decide, tbX6, tb_in 107 (by decide +kernel) rfl, rfl⟩
theorem fd_X6_24 : mfd RX6 24 6 0 := ⟨RX6, TX6, 5, rfl, by decide, tbX6, tb_in 103 (by decide +kernel) rfl, rfl⟩
theorem fd_X6_15 : mfd RX6 15 6 2 := ⟨RX6, TX6, 5, rfl, by decide, tbX6, tb_in 110 (by decide +kernel) rfl, rfl⟩
theorem fd_X6_18 : mfd RX6 18 6 3 := ⟨RX6, TX6, 5, rfl, by decide, tbX6, tb_in 113 (by decide +kernel) rfl, rfl⟩
theorem fd_X6_21 : mfd RX6 21 6 4 := ⟨RX6, TX6, 5, rfl, by decide, tbX6, tb_in 115 (by decide +kernel) rfl, rfl⟩
theorem fp_X6_24 : mfp RX6 24 6 0 .int := ⟨RX6, TX6, 5, tyX6, rfl, by decide, tbX6, tb_in 103 (by decide +kernel) rfl, rfl, tyX6_ok, nmX6, rfl, by decide +kernel⟩
theorem ft_X9_thing__X9_in : mfit M_X9_thing M_X9_in := ⟨by decide, by decide⟩
theorem lk_X9_100 : Cond.methodLink RX9 100 yX9_isBoy ∈ TBL := tb_in 831 (by decide +kernel) rfl
theorem cs_X9_isBoy : mcs M_X9_isBoy 1 := ⟨tb_in 833 (by decide +kernel) rfl, tb_in 46 (by decide +kernel) rfl, tb_in 832 (by decide +kernel) rfl, ⟨by decide, by decide, by decide +kernel⟩⟩
theorem ft_X9_thing__X9_isBoy : mfit M_X9_thing M_X9_isBoy := ⟨by decide, by decide⟩
theorem fd_X9_89 : mfd RX9 89 9 9 := ⟨RX9, TX9, 33, rfl, by decide, tbX9, tb_in 724 (by decide +kernel) rfl, rfl⟩
theorem fd_X9_22 : mfd RX9 22 9 5 := ⟨RX9, TX9, 33, rfl, by decide, tbX9, tb_in 720 (by decide +kernel) rfl, rfl⟩
theorem fd_X9_25 : mfd RX9 25 9 6 := ⟨RX9, TX9, 33, rfl, by decide, tbX9, tb_in 721 (by decide +kernel) rfl, rfl⟩
theorem fd_X9_28 : mfd RX9 28 9 7 := ⟨RX9, TX9, 33, rfl, by decide, tbX9, tb_in 722 (by decide +kernel) rfl, rfl⟩
theorem fd_X9_31 : mfd RX9 31 9 8 := ⟨RX9, TX9, 33, rfl, by decide, tbX9, tb_in 723 (by decide +kernel) rfl, rfl⟩
theorem fp_X9_89 : mfp RX9 89 9 9 .int := ⟨RX9, TX9, 33, tyX9, rfl, by decide, tbX9, tb_in 724 (by decide +kernel) rfl, rfl, tyX9_ok, nmX9, rfl, by decide +kernel⟩
theorem ct_X9_80 : Cond.constantLong RX9 80 7 ∈ TBL := tb_in 834 (by decide +kernel) rfl
theorem ft_X9_isBoy__X9_in : mfit M_X9_isBoy M_X9_in := ⟨by decide, by decide⟩
theorem lk_X8_92 : Cond.methodLink RX8 92 yX6_has ∈ TBL := tb_in 329 (by decide +kernel) rfl
theorem cv_X6_has : mcv M_X6_has 1 := ⟨tb_in 332 (by decide +kernel) rfl, tb_in 40 (by decide +kernel) rfl, tb_in 330 (by decide +kernel) rfl, tb_in 331 (by decide +kernel) rfl, ⟨by decide, by decide, by decide +kernel⟩⟩
theorem ft_X8_where__X6_has : mfit M_X8_where M_X6_has := ⟨by decide, by decide⟩
theorem fd_X8_96 : mfd RX8 96 6 2 := ⟨RX6, TX6, 5, rfl, by decide, tbX6, tb_in 112 (by decide +kernel) rfl, rfl⟩
theorem lk_X6_34 : Cond.methodLinkNest RX6 34 yX8_within RX8 ∈ mNW := List.mem_of_getElem? (i := 4) rfl
theorem ft_X6_has__X8_within : mfit M_X6_has M_X8_within := ⟨by decide, by decide⟩
theorem lk_X9_104 : Cond.methodLink RX9 104 yX9_isThing ∈ TBL := tb_in 839 (by decide +kernel) rfl
theorem cv_X9_isThing : mcv M_X9_isThing 1 := ⟨tb_in 842 (by decide +kernel) rfl, tb_in 46 (by decide +kernel) rfl, tb_in 841 (by decide +kernel) rfl, tb_in 13 (by decide +kernel) rfl, ⟨by decide, by decide, by decide +kernel⟩⟩
theorem ft_X9_where__X9_isThing : mfit M_X9_where M_X9_isThing := ⟨by decide, by decide⟩
theorem ft_X9_isThing__X9_in : mfit M_X9_isThing M_X9_in := ⟨by decide, by decide⟩
theorem ft_X8_told__X6_has : mfit M_X8_told M_X6_has := ⟨by decide, by decide⟩
theorem fd_X8_100 : mfd RX8 100 6 1 := ⟨RX6, TX6, 5, rfl, by decide, tbX6, tb_in 108 (by decide +kernel) rfl, rfl⟩
theorem fd_X8_103 : mfd RX8 103 6 3 := ⟨RX6, TX6, 5, rfl, by decide, tbX6, tb_in 114 (by decide +kernel) rfl, rfl⟩
theorem fd_X8_106 : mfd RX8 106 6 4 := ⟨RX6, TX6, 5, rfl, by decide, tbX6, tb_in 116 (by decide +kernel) rfl, rfl⟩
theorem ft_X9_told__X9_isThing : mfit M_X9_told M_X9_isThing := ⟨by decide, by decide⟩
theorem ct_X9_107 : Cond.constantLong RX9 107 2 ∈ TBL := tb_in 847 (by decide +kernel) rfl
theorem ft_X9_told__X9_in : mfit M_X9_told M_X9_in := ⟨by decide, by decide⟩
theorem lk_X8_109 : Cond.methodLink RX8 109 yX0_has ∈ TBL := tb_in 342 (by decide +kernel) rfl
theorem cv_X0_has : mcv M_X0_has 1 := ⟨tb_in 345 (by decide +kernel) rfl, tb_in 39 (by decide +kernel) rfl, tb_in 343 (by decide +kernel) rfl, tb_in 344 (by decide +kernel) rfl, ⟨by decide, by decide, by decide +kernel⟩⟩
theorem ft_X8_of__X0_has : mfit M_X8_of M_X0_has := ⟨by decide, by decide⟩
theorem bp_9 : (Int8.ofInt 9).toInt32 = Int32.ofInt 9 := by decide
theorem ft_X8_of__X8_within : mfit M_X8_of M_X8_within := ⟨by decide, by decide⟩
theorem lk_X8_110 : Cond.methodLink RX8 110 yX0_wearer ∈ TBL := tb_in 347 (by decide +kernel) rfl
theorem cv_X0_wearer : mcv M_X0_wearer 1 := ⟨tb_in 350 (by decide +kernel) rfl, tb_in 39 (by decide +kernel) rfl, tb_in 348 (by decide +kernel) rfl, tb_in 349 (by decide +kernel) rfl, ⟨by decide, by decide, by decide +kernel⟩⟩
theorem ft_X8_of__X0_wearer : mfit M_X8_of M_X0_wearer := ⟨by decide, by decide⟩
theorem fd_X8_114 : mfd RX8 114 0 2 := ⟨RX0, TX0, 5, rfl, by decide, tbX0, tb_in 78 (by decide +kernel) rfl, rfl⟩
theorem fd_X8_117 : mfd RX8 117 0 4 := ⟨RX0, TX0, 5, rfl, by decide, tbX0, tb_in 82 (by decide +kernel) rfl, rfl⟩
theorem bp_10 : (Int8.ofInt 10).toInt32 = Int32.ofInt 10 := by decide
theorem lk_X8_120 : Cond.methodLink RX8 120 yX6_at ∈ TBL := tb_in 351 (by decide +kernel) rfl
theorem cv_X6_at : mcv M_X6_at 1 := ⟨tb_in 354 (by decide +kernel) rfl, tb_in 40 (by decide +kernel) rfl, tb_in 352 (by decide +kernel) rfl, tb_in 353 (by decide +kernel) rfl, ⟨by decide, by decide, by decide +kernel⟩⟩
theorem ft_X8_of__X6_at : mfit M_X8_of M_X6_at := ⟨by decide, by decide⟩
theorem bp_20 : (Int8.ofInt 20).toInt32 = Int32.ofInt 20 := by decide
theorem lk_X8_123 : Cond.methodLink RX8 123 yX0_boyOfTurn ∈ TBL := tb_in 355 (by decide +kernel) rfl
theorem cv_X0_boyOfTurn : mcv M_X0_boyOfTurn 2 := ⟨tb_in 358 (by decide +kernel) rfl, tb_in 39 (by decide +kernel) rfl, tb_in 356 (by decide +kernel) rfl, tb_in 357 (by decide +kernel) rfl, ⟨by decide, by decide, by decide +kernel⟩⟩
theorem ft_X8_of__X0_boyOfTurn : mfit M_X8_of M_X0_boyOfTurn := ⟨by decide, by decide⟩
theorem lk_X0_34 : Cond.methodLinkNest RX0 34 yX8_within RX8 ∈ mNW := List.mem_of_getElem? (i := 0) rfl
theorem ft_X0_has__X8_within : mfit M_X0_has M_X8_within := ⟨by decide, by decide⟩
theorem bp_m4 : (Int8.ofInt (-4)).toInt32 = Int32.ofInt (-4) := by decide
theorem lk_X9_109 : Cond.methodLink RX9 109 yX9_isCoat ∈ TBL := tb_in 852 (by decide +kernel) rfl
theorem cv_X9_isCoat : mcv M_X9_isCoat 1 := ⟨tb_in 855 (by decide +kernel) rfl, tb_in 46 (by decide +kernel) rfl, tb_in 854 (by decide +kernel) rfl, tb_in 14 (by decide +kernel) rfl, ⟨by decide, by decide, by decide +kernel⟩⟩
theorem ft_X9_of__X9_isCoat : mfit M_X9_of M_X9_isCoat := ⟨by decide, by decide⟩
theorem ct_X9_112 : Cond.constantLong RX9 112 8 ∈ TBL := tb_in 856 (by decide +kernel) rfl
theorem ft_X9_of__X9_in : mfit M_X9_of M_X9_in := ⟨by decide, by decide⟩
theorem lk_X9_114 : Cond.methodLink RX9 114 yX9_wearer ∈ TBL := tb_in 857 (by decide +kernel) rfl
theorem cv_X9_wearer : mcv M_X9_wearer 2 := ⟨tb_in 860 (by decide +kernel) rfl, tb_in 46 (by decide +kernel) rfl, tb_in 859 (by decide +kernel) rfl, tb_in 15 (by decide +kernel) rfl, ⟨by decide, by decide, by decide +kernel⟩⟩
theorem ft_X9_of__X9_wearer : mfit M_X9_of M_X9_wearer := ⟨by decide, by decide⟩
theorem lk_X9_118 : Cond.methodLink RX9 118 yX9_thingsAt ∈ TBL := tb_in 861 (by decide +kernel) rfl
theorem cv_X9_thingsAt : mcv M_X9_thingsAt 1 := ⟨tb_in 864 (by decide +kernel) rfl, tb_in 46 (by decide +kernel) rfl, tb_in 863 (by decide +kernel) rfl, tb_in 16 (by decide +kernel) rfl, ⟨by decide, by decide, by decide +kernel⟩⟩
theorem ft_X9_of__X9_thingsAt : mfit M_X9_of M_X9_thingsAt := ⟨by decide, by decide⟩
theorem ft_X9_isCoat__X9_in : mfit M_X9_isCoat M_X9_in := ⟨by decide, by decide⟩
theorem ft_X8_hole__X0_has : mfit M_X8_hole M_X0_has := ⟨by decide, by decide⟩
theorem ft_X8_hole__X8_within : mfit M_X8_hole M_X8_within := ⟨by decide, by decide⟩
theorem ft_X9_hole__X9_isCoat : mfit M_X9_hole M_X9_isCoat := ⟨by decide, by decide⟩
theorem ft_X9_hole__X9_in : mfit M_X9_hole M_X9_in := ⟨by decide, by decide⟩
theorem lk_X8_126 : Cond.methodLink RX8 126 yX8_isText ∈ TBL := tb_in 367 (by decide +kernel) rfl
theorem cs_X8_isText : mcs M_X8_isText 2 := ⟨tb_in 369 (by decide +kernel) rfl, tb_in 37 (by decide +kernel) rfl, tb_in 368 (by decide +kernel) rfl, ⟨by decide, by decide, by decide +kernel⟩⟩
theorem ft_X8_type__X8_isText : mfit M_X8_type M_X8_isText := ⟨by decide, by decide⟩
theorem fd_X8_22 : mfd RX8 22 8 3 := ⟨RX8, TX8, 8, rfl, by decide, tbX8, tb_in 267 (by decide +kernel) rfl, rfl⟩
theorem fd_X8_130 : mfd RX8 130 5 1 := ⟨RX5, TX5, 3, rfl, by decide, tbX5, tb_in 161 (by decide +kernel) rfl, rfl⟩
theorem bp_100 : (Int8.ofInt 100).toInt32 = Int32.ofInt 100 := by decide
theorem ct_X8_133 : Cond.constantLong RX8 133 255 ∈ TBL := tb_in 370 (by decide +kernel) rfl
theorem lk_X8_135 : Cond.methodLink RX8 135 yX5_append ∈ TBL := tb_in 373 (by decide +kernel) rfl
theorem cv_X5_append : mcv M_X5_append 1 := ⟨tb_in 376 (by decide +kernel) rfl, tb_in 41 (by decide +kernel) rfl, tb_in 374 (by decide +kernel) rfl, tb_in 375 (by decide +kernel) rfl, ⟨by decide, by decide, by decide +kernel⟩⟩
theorem ft_X8_type__X5_append : mfit M_X8_type M_X5_append := ⟨by decide, by decide⟩
theorem ct_X8_265 : Cond.constantLong RX8 265 32 ∈ TBL := tb_in 371 (by decide +kernel) rfl
theorem ct_X8_267 : Cond.constantLong RX8 267 126 ∈ TBL := tb_in 372 (by decide +kernel) rfl
theorem fd_X5_15 : mfd RX5 15 5 1 := ⟨RX5, TX5, 3, rfl, by decide, tbX5, tb_in 160 (by decide +kernel) rfl, rfl⟩
theorem fd_X5_9 : mfd RX5 9 5 0 := ⟨RX5, TX5, 3, rfl, by decide, tbX5, tb_in 159 (by decide +kernel) rfl, rfl⟩
theorem fp_X5_15 : mfp RX5 15 5 1 .int := ⟨RX5, TX5, 3, tyX5, rfl, by decide, tbX5, tb_in 160 (by decide +kernel) rfl, rfl, tyX5_ok, nmX5, rfl, by decide +kernel⟩
theorem ft_X9_type__X9_in : mfit M_X9_type M_X9_in := ⟨by decide, by decide⟩
theorem fd_X9_138 : mfd RX9 138 9 14 := ⟨RX9, TX9, 33, rfl, by decide, tbX9, tb_in 729 (by decide +kernel) rfl, rfl⟩
theorem ct_X9_132 : Cond.constantLong RX9 132 255 ∈ TBL := tb_in 881 (by decide +kernel) rfl
theorem ct_X9_134 : Cond.constantLong RX9 134 32 ∈ TBL := tb_in 882 (by decide +kernel) rfl
theorem ct_X9_136 : Cond.constantLong RX9 136 126 ∈ TBL := tb_in 883 (by decide +kernel) rfl
theorem fd_X9_41 : mfd RX9 41 9 13 := ⟨RX9, TX9, 33, rfl, by decide, tbX9, tb_in 728 (by decide +kernel) rfl, rfl⟩
theorem fp_X9_138 : mfp RX9 138 9 14 .int := ⟨RX9, TX9, 33, tyX9, rfl, by decide, tbX9, tb_in 729 (by decide +kernel) rfl, rfl, tyX9_ok, nmX9, rfl, by decide +kernel⟩
theorem fd_X8_29 : mfd RX8 29 8 4 := ⟨RX8, TX8, 8, rfl, by decide, tbX8, tb_in 268 (by decide +kernel) rfl, rfl⟩
theorem lk_X8_138 : Cond.methodLink RX8 138 yX2_readSchool ∈ TBL := tb_in 381 (by decide +kernel) rfl
theorem cv_X2_readSchool : mcv M_X2_readSchool 1 := ⟨tb_in 384 (by decide +kernel) rfl, tb_in 42 (by decide +kernel) rfl, tb_in 382 (by decide +kernel) rfl, tb_in 383 (by decide +kernel) rfl, ⟨by decide, by decide, by decide +kernel⟩⟩
theorem ft_X8_school__X2_readSchool : mfit M_X8_school M_X2_readSchool := ⟨by decide, by decide⟩
theorem lk_X8_142 : Cond.methodLink RX8 142 yX5_clear ∈ TBL := tb_in 415 (by decide +kernel) rfl
theorem cv_X5_clear : mcv M_X5_clear 0 := ⟨tb_in 418 (by decide +kernel) rfl, tb_in 41 (by decide +kernel) rfl, tb_in 416 (by decide +kernel) rfl, tb_in 417 (by decide +kernel) rfl, ⟨by decide, by decide, by decide +kernel⟩⟩
theorem ft_X8_school__X5_clear : mfit M_X8_school M_X5_clear := ⟨by decide, by decide⟩
theorem fd_X8_145 : mfd RX8 145 2 0 := ⟨RX2, TX2, 4, rfl, by decide, tbX2, tb_in 180 (by decide +kernel) rfl, rfl⟩
theorem lk_X8_146 : Cond.methodLink RX8 146 yX0_become ∈ TBL := tb_in 419 (by decide +kernel) rfl
theorem cv_X0_become : mcv M_X0_become 1 := ⟨tb_in 422 (by decide +kernel) rfl, tb_in 39 (by decide +kernel) rfl, tb_in 420 (by decide +kernel) rfl, tb_in 421 (by decide +kernel) rfl, ⟨by decide, by decide, by decide +kernel⟩⟩
theorem ft_X8_school__X0_become : mfit M_X8_school M_X0_become := ⟨by decide, by decide⟩
theorem lk_X8_150 : Cond.methodLink RX8 150 yX6_leaveCoats ∈ TBL := tb_in 426 (by decide +kernel) rfl
theorem cv_X6_leaveCoats : mcv M_X6_leaveCoats 0 := ⟨tb_in 429 (by decide +kernel) rfl, tb_in 40 (by decide +kernel) rfl, tb_in 427 (by decide +kernel) rfl, tb_in 428 (by decide +kernel) rfl, ⟨by decide, by decide, by decide +kernel⟩⟩
theorem ft_X8_school__X6_leaveCoats : mfit M_X8_school M_X6_leaveCoats := ⟨by decide, by decide⟩
theorem fp_X2_18 : mfp RX2 18 5 2 .int := ⟨RX5, TX5, 3, tyX5, rfl, by decide, tbX5, tb_in 162 (by decide +kernel) rfl, rfl, tyX5_ok, nmX5, rfl, by decide +kernel⟩
theorem fd_X2_12 : mfd RX2 12 2 0 := ⟨RX2, TX2, 4, rfl, by decide, tbX2, tb_in 179 (by decide +kernel) rfl, rfl⟩
theorem fp_X2_24 : mfp RX2 24 0 0 .int := ⟨RX0, TX0, 5, tyX0, rfl, by decide, tbX0, tb_in 71 (by decide +kernel) rfl, rfl, tyX0_ok, nmX0, rfl, by decide +kernel⟩
theorem lk_X2_31 : Cond.methodLink RX2 31 yX5_fault ∈ TBL := tb_in 410 (by decide +kernel) rfl
theorem cv_X5_fault : mcv M_X5_fault 0 := ⟨tb_in 413 (by decide +kernel) rfl, tb_in 41 (by decide +kernel) rfl, tb_in 411 (by decide +kernel) rfl, tb_in 412 (by decide +kernel) rfl, ⟨by decide, by decide, by decide +kernel⟩⟩
theorem ft_X2_readSchool__X5_fault : mfit M_X2_readSchool M_X5_fault := ⟨by decide, by decide⟩
theorem lk_X2_27 : Cond.methodLink RX2 27 yX2_readCoat ∈ TBL := tb_in 385 (by decide +kernel) rfl
theorem cv_X2_readCoat : mcv M_X2_readCoat 1 := ⟨tb_in 388 (by decide +kernel) rfl, tb_in 42 (by decide +kernel) rfl, tb_in 387 (by decide +kernel) rfl, tb_in 0 (by decide +kernel) rfl, ⟨by decide, by decide, by decide +kernel⟩⟩
theorem ft_X2_readSchool__X2_readCoat : mfit M_X2_readSchool M_X2_readCoat := ⟨by decide, by decide⟩
theorem lk_X2_35 : Cond.methodLink RX2 35 yX5_atEnd ∈ TBL := tb_in 414 (by decide +kernel) rfl
theorem cv_X5_atEnd : mcv M_X5_atEnd 0 := ⟨tb_in 397 (by decide +kernel) rfl, tb_in 41 (by decide +kernel) rfl, tb_in 395 (by decide +kernel) rfl, tb_in 396 (by decide +kernel) rfl, ⟨by decide, by decide, by decide +kernel⟩⟩
theorem ft_X2_readSchool__X5_atEnd : mfit M_X2_readSchool M_X5_atEnd := ⟨by decide, by decide⟩
theorem bp_44 : (Int8.ofInt 44).toInt32 = Int32.ofInt 44 := by decide
theorem lk_X2_39 : Cond.methodLink RX2 39 yX5_passes ∈ TBL := tb_in 400 (by decide +kernel) rfl
theorem cv_X5_passes : mcv M_X5_passes 1 := ⟨tb_in 403 (by decide +kernel) rfl, tb_in 41 (by decide +kernel) rfl, tb_in 401 (by decide +kernel) rfl, tb_in 402 (by decide +kernel) rfl, ⟨by decide, by decide, by decide +kernel⟩⟩
theorem ft_X2_readSchool__X5_passes : mfit M_X2_readSchool M_X5_passes := ⟨by decide, by decide⟩
theorem bp_m20 : (Int8.ofInt (-20)).toInt32 = Int32.ofInt (-20) := by decide
theorem fd_X5_19 : mfd RX5 19 5 2 := ⟨RX5, TX5, 3, rfl, by decide, tbX5, tb_in 163 (by decide +kernel) rfl, rfl⟩
theorem lk_X2_43 : Cond.methodLink RX2 43 yX0_open ∈ TBL := tb_in 389 (by decide +kernel) rfl
theorem ft_X2_readCoat__X0_open : mfit M_X2_readCoat M_X0_open := ⟨by decide, by decide⟩
theorem lk_X2_46 : Cond.methodLink RX2 46 yX5_digitBelow ∈ TBL := tb_in 390 (by decide +kernel) rfl
theorem cv_X5_digitBelow : mcv M_X5_digitBelow 1 := ⟨tb_in 393 (by decide +kernel) rfl, tb_in 41 (by decide +kernel) rfl, tb_in 391 (by decide +kernel) rfl, tb_in 392 (by decide +kernel) rfl, ⟨by decide, by decide, by decide +kernel⟩⟩
theorem ft_X2_readCoat__X5_digitBelow : mfit M_X2_readCoat M_X5_digitBelow := ⟨by decide, by decide⟩
theorem lk_X2_50 : Cond.methodLink RX2 50 yX0_join ∈ TBL := tb_in 399 (by decide +kernel) rfl
theorem ft_X2_readCoat__X0_join : mfit M_X2_readCoat M_X0_join := ⟨by decide, by decide⟩
theorem fd_X2_18 : mfd RX2 18 5 2 := ⟨RX5, TX5, 3, rfl, by decide, tbX5, tb_in 162 (by decide +kernel) rfl, rfl⟩
theorem bp_104 : (Int8.ofInt 104).toInt32 = Int32.ofInt 104 := by decide
theorem ft_X2_readCoat__X5_passes : mfit M_X2_readCoat M_X5_passes := ⟨by decide, by decide⟩
theorem lk_X2_54 : Cond.methodLink RX2 54 yX5_passDigit ∈ TBL := tb_in 404 (by decide +kernel) rfl
theorem cv_X5_passDigit : mcv M_X5_passDigit 1 := ⟨tb_in 407 (by decide +kernel) rfl, tb_in 41 (by decide +kernel) rfl, tb_in 405 (by decide +kernel) rfl, tb_in 406 (by decide +kernel) rfl, ⟨by decide, by decide, by decide +kernel⟩⟩
theorem ft_X2_readCoat__X5_passDigit : mfit M_X2_readCoat M_X5_passDigit := ⟨by decide, by decide⟩
theorem lk_X2_57 : Cond.methodLink RX2 57 yX0_close ∈ TBL := tb_in 409 (by decide +kernel) rfl
theorem ft_X2_readCoat__X0_close : mfit M_X2_readCoat M_X0_close := ⟨by decide, by decide⟩
theorem lk_X5_22 : Cond.methodLink RX5 22 yX5_atEnd ∈ TBL := tb_in 394 (by decide +kernel) rfl
theorem ft_X5_digitBelow__X5_atEnd : mfit M_X5_digitBelow M_X5_atEnd := ⟨by decide, by decide⟩
theorem bp_48 : (Int8.ofInt 48).toInt32 = Int32.ofInt 48 := by decide
theorem lk_X5_26 : Cond.methodLinkNest RX5 26 yX8_within RX8 ∈ mNW := List.mem_of_getElem? (i := 3) rfl
theorem ft_X5_digitBelow__X8_within : mfit M_X5_digitBelow M_X8_within := ⟨by decide, by decide⟩
theorem bp_32 : (Int8.ofInt 32).toInt32 = Int32.ofInt 32 := by decide
theorem fp_X5_19 : mfp RX5 19 5 2 .int := ⟨RX5, TX5, 3, tyX5, rfl, by decide, tbX5, tb_in 163 (by decide +kernel) rfl, rfl, tyX5_ok, nmX5, rfl, by decide +kernel⟩
theorem ft_X5_passes__X5_atEnd : mfit M_X5_passes M_X5_atEnd := ⟨by decide, by decide⟩
theorem lk_X5_30 : Cond.methodLink RX5 30 yX5_digitBelow ∈ TBL := tb_in 408 (by decide +kernel) rfl
theorem ft_X5_passDigit__X5_digitBelow : mfit M_X5_passDigit M_X5_digitBelow := ⟨by decide, by decide⟩
theorem ac_X0_28 : mcpC RX0 28 := ⟨tb_in 423 (by decide +kernel) rfl, tb_in 425 (by decide +kernel) rfl, tb_in 424 (by decide +kernel) rfl, tb_in 48 (by decide +kernel) rfl⟩
theorem bp_30 : (Int8.ofInt 30).toInt32 = Int32.ofInt 30 := by decide
theorem lk_X9_165 : Cond.methodLink RX9 165 yX9_readSchool ∈ TBL := tb_in 888 (by decide +kernel) rfl
theorem cv_X9_readSchool : mcv M_X9_readSchool 0 := ⟨tb_in 891 (by decide +kernel) rfl, tb_in 46 (by decide +kernel) rfl, tb_in 890 (by decide +kernel) rfl, tb_in 17 (by decide +kernel) rfl, ⟨by decide, by decide, by decide +kernel⟩⟩
theorem ft_X9_school__X9_readSchool : mfit M_X9_school M_X9_readSchool := ⟨by decide, by decide⟩
theorem lk_X9_144 : Cond.methodLink RX9 144 yX9_nextByte ∈ TBL := tb_in 896 (by decide +kernel) rfl
theorem cv_X9_nextByte : mcv M_X9_nextByte 0 := ⟨tb_in 899 (by decide +kernel) rfl, tb_in 46 (by decide +kernel) rfl, tb_in 898 (by decide +kernel) rfl, tb_in 19 (by decide +kernel) rfl, ⟨by decide, by decide, by decide +kernel⟩⟩
theorem ft_X9_school__X9_nextByte : mfit M_X9_school M_X9_nextByte := ⟨by decide, by decide⟩
theorem fd_X9_162 : mfd RX9 162 9 16 := ⟨RX9, TX9, 33, rfl, by decide, tbX9, tb_in 731 (by decide +kernel) rfl, rfl⟩
theorem fd_X9_141 : mfd RX9 141 9 15 := ⟨RX9, TX9, 33, rfl, by decide, tbX9, tb_in 730 (by decide +kernel) rfl, rfl⟩
theorem fd_X9_44 : mfd RX9 44 9 17 := ⟨RX9, TX9, 33, rfl, by decide, tbX9, tb_in 732 (by decide +kernel) rfl, rfl⟩
theorem bp_6 : (Int8.ofInt 6).toInt32 = Int32.ofInt 6 := by decide
theorem fp_X9_141 : mfp RX9 141 9 15 .int := ⟨RX9, TX9, 33, tyX9, rfl, by decide, tbX9, tb_in 730 (by decide +kernel) rfl, rfl, tyX9_ok, nmX9, rfl, by decide +kernel⟩
theorem lk_X9_159 : Cond.methodLink RX9 159 yX9_readCoat ∈ TBL := tb_in 892 (by decide +kernel) rfl
theorem cv_X9_readCoat : mcv M_X9_readCoat 1 := ⟨tb_in 895 (by decide +kernel) rfl, tb_in 46 (by decide +kernel) rfl, tb_in 894 (by decide +kernel) rfl, tb_in 18 (by decide +kernel) rfl, ⟨by decide, by decide, by decide +kernel⟩⟩
theorem ft_X9_readSchool__X9_readCoat : mfit M_X9_readSchool M_X9_readCoat := ⟨by decide, by decide⟩
theorem fp_X9_162 : mfp RX9 162 9 16 .int := ⟨RX9, TX9, 33, tyX9, rfl, by decide, tbX9, tb_in 731 (by decide +kernel) rfl, rfl, tyX9_ok, nmX9, rfl, by decide +kernel⟩
theorem ft_X9_readSchool__X9_nextByte : mfit M_X9_readSchool M_X9_nextByte := ⟨by decide, by decide⟩
theorem ft_X9_readCoat__X9_nextByte : mfit M_X9_readCoat M_X9_nextByte := ⟨by decide, by decide⟩
theorem ct_X9_148 : Cond.constantLong RX9 148 48 ∈ TBL := tb_in 900 (by decide +kernel) rfl
theorem ct_X9_150 : Cond.constantLong RX9 150 57 ∈ TBL := tb_in 901 (by decide +kernel) rfl
theorem ft_X9_readCoat__X9_in : mfit M_X9_readCoat M_X9_in := ⟨by decide, by decide⟩
theorem lk_X9_156 : Cond.methodLink RX9 156 yX9_readDigit ∈ TBL := tb_in 905 (by decide +kernel) rfl
theorem cv_X9_readDigit : mcv M_X9_readDigit 1 := ⟨tb_in 908 (by decide +kernel) rfl, tb_in 46 (by decide +kernel) rfl, tb_in 907 (by decide +kernel) rfl, tb_in 20 (by decide +kernel) rfl, ⟨by decide, by decide, by decide +kernel⟩⟩
theorem ft_X9_readCoat__X9_readDigit : mfit M_X9_readCoat M_X9_readDigit := ⟨by decide, by decide⟩
theorem lk_X9_152 : Cond.methodLink RX9 152 yX9_has ∈ TBL := tb_in 902 (by decide +kernel) rfl
theorem cs_X9_has : mcs M_X9_has 2 := ⟨tb_in 904 (by decide +kernel) rfl, tb_in 46 (by decide +kernel) rfl, tb_in 903 (by decide +kernel) rfl, ⟨by decide, by decide, by decide +kernel⟩⟩
theorem ft_X9_readCoat__X9_has : mfit M_X9_readCoat M_X9_has := ⟨by decide, by decide⟩
theorem ft_X9_readDigit__X9_nextByte : mfit M_X9_readDigit M_X9_nextByte := ⟨by decide, by decide⟩
theorem ft_X9_readDigit__X9_in : mfit M_X9_readDigit M_X9_in := ⟨by decide, by decide⟩
theorem lk_X8_153 : Cond.methodLink RX8 153 yX2_checkDay ∈ TBL := tb_in 434 (by decide +kernel) rfl
theorem cv_X2_checkDay : mcv M_X2_checkDay 2 := ⟨tb_in 437 (by decide +kernel) rfl, tb_in 42 (by decide +kernel) rfl, tb_in 435 (by decide +kernel) rfl, tb_in 436 (by decide +kernel) rfl, ⟨by decide, by decide, by decide +kernel⟩⟩
theorem ft_X8_day__X2_checkDay : mfit M_X8_day M_X2_checkDay := ⟨by decide, by decide⟩
theorem lk_X8_157 : Cond.methodLink RX8 157 yX2_runDay ∈ TBL := tb_in 446 (by decide +kernel) rfl
theorem cv_X2_runDay : mcv M_X2_runDay 2 := ⟨tb_in 449 (by decide +kernel) rfl, tb_in 42 (by decide +kernel) rfl, tb_in 447 (by decide +kernel) rfl, tb_in 448 (by decide +kernel) rfl, ⟨by decide, by decide, by decide +kernel⟩⟩
theorem ft_X8_day__X2_runDay : mfit M_X8_day M_X2_runDay := ⟨by decide, by decide⟩
theorem ft_X8_day__X5_clear : mfit M_X8_day M_X5_clear := ⟨by decide, by decide⟩
theorem ft_X2_checkDay__X5_fault : mfit M_X2_checkDay M_X5_fault := ⟨by decide, by decide⟩
theorem lk_X2_60 : Cond.methodLink RX2 60 yX2_readAct ∈ TBL := tb_in 438 (by decide +kernel) rfl
theorem cv_X2_readAct : mcv M_X2_readAct 2 := ⟨tb_in 441 (by decide +kernel) rfl, tb_in 42 (by decide +kernel) rfl, tb_in 440 (by decide +kernel) rfl, tb_in 1 (by decide +kernel) rfl, ⟨by decide, by decide, by decide +kernel⟩⟩
theorem ft_X2_checkDay__X2_readAct : mfit M_X2_checkDay M_X2_readAct := ⟨by decide, by decide⟩
theorem ft_X2_checkDay__X5_atEnd : mfit M_X2_checkDay M_X5_atEnd := ⟨by decide, by decide⟩
theorem bp_59 : (Int8.ofInt 59).toInt32 = Int32.ofInt 59 := by decide
theorem ft_X2_checkDay__X5_passes : mfit M_X2_checkDay M_X5_passes := ⟨by decide, by decide⟩
theorem bp_98 : (Int8.ofInt 98).toInt32 = Int32.ofInt 98 := by decide
theorem ft_X2_readAct__X5_passes : mfit M_X2_readAct M_X5_passes := ⟨by decide, by decide⟩
theorem bp_115 : (Int8.ofInt 115).toInt32 = Int32.ofInt 115 := by decide
theorem bp_112 : (Int8.ofInt 112).toInt32 = Int32.ofInt 112 := by decide
theorem bp_116 : (Int8.ofInt 116).toInt32 = Int32.ofInt 116 := by decide
theorem bp_103 : (Int8.ofInt 103).toInt32 = Int32.ofInt 103 := by decide
theorem fp_X2_68 : mfp RX2 68 2 1 .char := ⟨RX2, TX2, 4, tyX2, rfl, by decide, tbX2, tb_in 181 (by decide +kernel) rfl, rfl, tyX2_ok, nmX2, rfl, by decide +kernel⟩
theorem lk_X2_78 : Cond.methodLink RX2 78 yX2_readWay ∈ TBL := tb_in 442 (by decide +kernel) rfl
theorem cv_X2_readWay : mcv M_X2_readWay 3 := ⟨tb_in 445 (by decide +kernel) rfl, tb_in 42 (by decide +kernel) rfl, tb_in 444 (by decide +kernel) rfl, tb_in 2 (by decide +kernel) rfl, ⟨by decide, by decide, by decide +kernel⟩⟩
theorem ft_X2_readAct__X2_readWay : mfit M_X2_readAct M_X2_readWay := ⟨by decide, by decide⟩
theorem fd_X2_72 : mfd RX2 72 4 0 := ⟨RX4, TX4, 5, rfl, by decide, tbX4, tb_in 131 (by decide +kernel) rfl, rfl⟩
theorem fd_X2_24 : mfd RX2 24 0 0 := ⟨RX0, TX0, 5, rfl, by decide, tbX0, tb_in 71 (by decide +kernel) rfl, rfl⟩
theorem ft_X2_readAct__X5_passDigit : mfit M_X2_readAct M_X5_passDigit := ⟨by decide, by decide⟩
theorem fp_X2_75 : mfp RX2 75 2 3 .int := ⟨RX2, TX2, 4, tyX2, rfl, by decide, tbX2, tb_in 183 (by decide +kernel) rfl, rfl, tyX2_ok, nmX2, rfl, by decide +kernel⟩
theorem fd_X2_75 : mfd RX2 75 2 3 := ⟨RX2, TX2, 4, rfl, by decide, tbX2, tb_in 183 (by decide +kernel) rfl, rfl⟩
theorem fd_X2_82 : mfd RX2 82 4 1 := ⟨RX4, TX4, 5, rfl, by decide, tbX4, tb_in 134 (by decide +kernel) rfl, rfl⟩
theorem fd_X2_86 : mfd RX2 86 6 0 := ⟨RX6, TX6, 5, rfl, by decide, tbX6, tb_in 106 (by decide +kernel) rfl, rfl⟩
theorem ft_X2_readWay__X5_passDigit : mfit M_X2_readWay M_X5_passDigit := ⟨by decide, by decide⟩
theorem fp_X2_89 : mfp RX2 89 2 2 .int := ⟨RX2, TX2, 4, tyX2, rfl, by decide, tbX2, tb_in 182 (by decide +kernel) rfl, rfl, tyX2_ok, nmX2, rfl, by decide +kernel⟩
theorem fd_X2_89 : mfd RX2 89 2 2 := ⟨RX2, TX2, 4, rfl, by decide, tbX2, tb_in 182 (by decide +kernel) rfl, rfl⟩
theorem bp_62 : (Int8.ofInt 62).toInt32 = Int32.ofInt 62 := by decide
theorem ft_X2_readWay__X5_passes : mfit M_X2_readWay M_X5_passes := ⟨by decide, by decide⟩
theorem ft_X2_runDay__X2_readAct : mfit M_X2_runDay M_X2_readAct := ⟨by decide, by decide⟩
theorem lk_X2_64 : Cond.methodLink RX2 64 yX2_doAct ∈ TBL := tb_in 450 (by decide +kernel) rfl
theorem cv_X2_doAct : mcv M_X2_doAct 1 := ⟨tb_in 453 (by decide +kernel) rfl, tb_in 42 (by decide +kernel) rfl, tb_in 452 (by decide +kernel) rfl, tb_in 3 (by decide +kernel) rfl, ⟨by decide, by decide, by decide +kernel⟩⟩
theorem ft_X2_runDay__X2_doAct : mfit M_X2_runDay M_X2_doAct := ⟨by decide, by decide⟩
theorem ft_X2_runDay__X5_passes : mfit M_X2_runDay M_X5_passes := ⟨by decide, by decide⟩
theorem fd_X2_68 : mfd RX2 68 2 1 := ⟨RX2, TX2, 4, rfl, by decide, tbX2, tb_in 181 (by decide +kernel) rfl, rfl⟩
theorem lk_X2_102 : Cond.methodLink RX2 102 yX4_handOver ∈ TBL := tb_in 471 (by decide +kernel) rfl
theorem cv_X4_handOver : mcv M_X4_handOver 2 := ⟨tb_in 474 (by decide +kernel) rfl, tb_in 38 (by decide +kernel) rfl, tb_in 472 (by decide +kernel) rfl, tb_in 473 (by decide +kernel) rfl, ⟨by decide, by decide, by decide +kernel⟩⟩
theorem ft_X2_doAct__X4_handOver : mfit M_X2_doAct M_X4_handOver := ⟨by decide, by decide⟩
theorem lk_X2_92 : Cond.methodLink RX2 92 yX4_putIn ∈ TBL := tb_in 454 (by decide +kernel) rfl
theorem cv_X4_putIn : mcv M_X4_putIn 2 := ⟨tb_in 457 (by decide +kernel) rfl, tb_in 38 (by decide +kernel) rfl, tb_in 455 (by decide +kernel) rfl, tb_in 456 (by decide +kernel) rfl, ⟨by decide, by decide, by decide +kernel⟩⟩
theorem ft_X2_doAct__X4_putIn : mfit M_X2_doAct M_X4_putIn := ⟨by decide, by decide⟩
theorem lk_X2_99 : Cond.methodLink RX2 99 yX4_searchLining ∈ TBL := tb_in 467 (by decide +kernel) rfl
theorem cv_X4_searchLining : mcv M_X4_searchLining 1 := ⟨tb_in 470 (by decide +kernel) rfl, tb_in 38 (by decide +kernel) rfl, tb_in 468 (by decide +kernel) rfl, tb_in 469 (by decide +kernel) rfl, ⟨by decide, by decide, by decide +kernel⟩⟩
theorem ft_X2_doAct__X4_searchLining : mfit M_X2_doAct M_X4_searchLining := ⟨by decide, by decide⟩
theorem lk_X2_96 : Cond.methodLink RX2 96 yX4_takeOut ∈ TBL := tb_in 463 (by decide +kernel) rfl
theorem cv_X4_takeOut : mcv M_X4_takeOut 2 := ⟨tb_in 466 (by decide +kernel) rfl, tb_in 38 (by decide +kernel) rfl, tb_in 464 (by decide +kernel) rfl, tb_in 465 (by decide +kernel) rfl, ⟨by decide, by decide, by decide +kernel⟩⟩
theorem ft_X2_doAct__X4_takeOut : mfit M_X2_doAct M_X4_takeOut := ⟨by decide, by decide⟩
theorem lk_X2_105 : Cond.methodLink RX2 105 yX4_ring ∈ TBL := tb_in 480 (by decide +kernel) rfl
theorem cv_X4_ring : mcv M_X4_ring 0 := ⟨tb_in 483 (by decide +kernel) rfl, tb_in 38 (by decide +kernel) rfl, tb_in 481 (by decide +kernel) rfl, tb_in 482 (by decide +kernel) rfl, ⟨by decide, by decide, by decide +kernel⟩⟩
theorem ft_X2_doAct__X4_ring : mfit M_X2_doAct M_X4_ring := ⟨by decide, by decide⟩
theorem fd_X4_21 : mfd RX4 21 4 1 := ⟨RX4, TX4, 5, rfl, by decide, tbX4, tb_in 132 (by decide +kernel) rfl, rfl⟩
theorem fd_X4_53 : mfd RX4 53 6 2 := ⟨RX6, TX6, 5, rfl, by decide, tbX6, tb_in 111 (by decide +kernel) rfl, rfl⟩
theorem bp_m2 : (Int8.ofInt (-2)).toInt32 = Int32.ofInt (-2) := by decide
theorem fd_X4_12 : mfd RX4 12 4 0 := ⟨RX4, TX4, 5, rfl, by decide, tbX4, tb_in 129 (by decide +kernel) rfl, rfl⟩
theorem lk_X4_63 : Cond.methodLink RX4 63 yX0_anyOn ∈ TBL := tb_in 475 (by decide +kernel) rfl
theorem cv_X0_anyOn : mcv M_X0_anyOn 1 := ⟨tb_in 478 (by decide +kernel) rfl, tb_in 39 (by decide +kernel) rfl, tb_in 476 (by decide +kernel) rfl, tb_in 477 (by decide +kernel) rfl, ⟨by decide, by decide, by decide +kernel⟩⟩
theorem ft_X4_handOver__X0_anyOn : mfit M_X4_handOver M_X0_anyOn := ⟨by decide, by decide⟩
theorem lk_X0_38 : Cond.methodLink RX0 38 yX0_wearer ∈ TBL := tb_in 479 (by decide +kernel) rfl
theorem ft_X0_anyOn__X0_wearer : mfit M_X0_anyOn M_X0_wearer := ⟨by decide, by decide⟩
theorem lk_X4_49 : Cond.methodLink RX4 49 yX0_wearer ∈ TBL := tb_in 458 (by decide +kernel) rfl
theorem ft_X4_putIn__X0_wearer : mfit M_X4_putIn M_X0_wearer := ⟨by decide, by decide⟩
theorem lk_X4_56 : Cond.methodLink RX4 56 yX6_readBy ∈ TBL := tb_in 459 (by decide +kernel) rfl
theorem cv_X6_readBy : mcv M_X6_readBy 2 := ⟨tb_in 462 (by decide +kernel) rfl, tb_in 40 (by decide +kernel) rfl, tb_in 460 (by decide +kernel) rfl, tb_in 461 (by decide +kernel) rfl, ⟨by decide, by decide, by decide +kernel⟩⟩
theorem ft_X4_putIn__X6_readBy : mfit M_X4_putIn M_X6_readBy := ⟨by decide, by decide⟩
theorem fd_X4_60 : mfd RX4 60 6 0 := ⟨RX6, TX6, 5, rfl, by decide, tbX6, tb_in 105 (by decide +kernel) rfl, rfl⟩
theorem ft_X4_searchLining__X0_wearer : mfit M_X4_searchLining M_X0_wearer := ⟨by decide, by decide⟩
theorem ft_X4_searchLining__X6_readBy : mfit M_X4_searchLining M_X6_readBy := ⟨by decide, by decide⟩
theorem ft_X4_takeOut__X0_wearer : mfit M_X4_takeOut M_X0_wearer := ⟨by decide, by decide⟩
theorem fd_X4_46 : mfd RX4 46 4 3 := ⟨RX4, TX4, 5, rfl, by decide, tbX4, tb_in 138 (by decide +kernel) rfl, rfl⟩
theorem sp_9999 : (Int16.ofInt 9999).toInt32 = Int32.ofInt 9999 := by decide
theorem lk_X4_74 : Cond.methodLink RX4 74 yX0_turnAll ∈ TBL := tb_in 499 (by decide +kernel) rfl
theorem cv_X0_turnAll : mcv M_X0_turnAll 0 := ⟨tb_in 502 (by decide +kernel) rfl, tb_in 39 (by decide +kernel) rfl, tb_in 500 (by decide +kernel) rfl, tb_in 501 (by decide +kernel) rfl, ⟨by decide, by decide, by decide +kernel⟩⟩
theorem ft_X4_ring__X0_turnAll : mfit M_X4_ring M_X0_turnAll := ⟨by decide, by decide⟩
theorem lk_X4_67 : Cond.methodLink RX4 67 yX6_inPocket ∈ TBL := tb_in 484 (by decide +kernel) rfl
theorem cv_X6_inPocket : mcv M_X6_inPocket 1 := ⟨tb_in 487 (by decide +kernel) rfl, tb_in 40 (by decide +kernel) rfl, tb_in 485 (by decide +kernel) rfl, tb_in 486 (by decide +kernel) rfl, ⟨by decide, by decide, by decide +kernel⟩⟩
theorem ft_X4_ring__X6_inPocket : mfit M_X4_ring M_X6_inPocket := ⟨by decide, by decide⟩
theorem lk_X4_70 : Cond.methodLink RX4 70 yX4_change ∈ TBL := tb_in 488 (by decide +kernel) rfl
theorem cv_X4_change : mcv M_X4_change 2 := ⟨tb_in 491 (by decide +kernel) rfl, tb_in 38 (by decide +kernel) rfl, tb_in 490 (by decide +kernel) rfl, tb_in 4 (by decide +kernel) rfl, ⟨by decide, by decide, by decide +kernel⟩⟩
theorem ft_X4_ring__X4_change : mfit M_X4_ring M_X4_change := ⟨by decide, by decide⟩
theorem fp_X4_46 : mfp RX4 46 4 3 .int := ⟨RX4, TX4, 5, tyX4, rfl, by decide, tbX4, tb_in 138 (by decide +kernel) rfl, rfl, tyX4_ok, nmX4, rfl, by decide +kernel⟩
theorem ft_X4_ring__X0_wearer : mfit M_X4_ring M_X0_wearer := ⟨by decide, by decide⟩
theorem ft_X4_ring__X6_readBy : mfit M_X4_ring M_X6_readBy := ⟨by decide, by decide⟩
theorem fd_X4_77 : mfd RX4 77 6 1 := ⟨RX6, TX6, 5, rfl, by decide, tbX6, tb_in 109 (by decide +kernel) rfl, rfl⟩
theorem fd_X4_84 : mfd RX4 84 0 4 := ⟨RX0, TX0, 5, rfl, by decide, tbX0, tb_in 83 (by decide +kernel) rfl, rfl⟩
theorem lk_X4_87 : Cond.methodLink RX4 87 yX4_drawsBelow ∈ TBL := tb_in 492 (by decide +kernel) rfl
theorem cv_X4_drawsBelow : mcv M_X4_drawsBelow 1 := ⟨tb_in 495 (by decide +kernel) rfl, tb_in 38 (by decide +kernel) rfl, tb_in 494 (by decide +kernel) rfl, tb_in 5 (by decide +kernel) rfl, ⟨by decide, by decide, by decide +kernel⟩⟩
theorem ft_X4_change__X4_drawsBelow : mfit M_X4_change M_X4_drawsBelow := ⟨by decide, by decide⟩
theorem fd_X4_83 : mfd RX4 83 0 0 := ⟨RX0, TX0, 5, rfl, by decide, tbX0, tb_in 74 (by decide +kernel) rfl, rfl⟩
theorem fd_X4_80 : mfd RX4 80 6 4 := ⟨RX6, TX6, 5, rfl, by decide, tbX6, tb_in 117 (by decide +kernel) rfl, rfl⟩
theorem ft_X4_change__X0_wearer : mfit M_X4_change M_X0_wearer := ⟨by decide, by decide⟩
theorem fd_X4_29 : mfd RX4 29 4 4 := ⟨RX4, TX4, 5, rfl, by decide, tbX4, tb_in 140 (by decide +kernel) rfl, rfl⟩
theorem ct_X4_90 : Cond.constant RX4 90 1103515245 ∈ TBL := tb_in 496 (by decide +kernel) rfl
theorem sp_12345 : (Int16.ofInt 12345).toInt32 = Int32.ofInt 12345 := by decide
theorem ct_X4_91 : Cond.constant RX4 91 2147483647 ∈ TBL := tb_in 497 (by decide +kernel) rfl
theorem fp_X4_29 : mfp RX4 29 4 4 .int := ⟨RX4, TX4, 5, tyX4, rfl, by decide, tbX4, tb_in 140 (by decide +kernel) rfl, rfl, tyX4_ok, nmX4, rfl, by decide +kernel⟩
theorem ct_X4_92 : Cond.constant RX4 92 65536 ∈ TBL := tb_in 498 (by decide +kernel) rfl
theorem lk_X9_187 : Cond.methodLink RX9 187 yX9_readDay ∈ TBL := tb_in 913 (by decide +kernel) rfl
theorem cv_X9_readDay : mcv M_X9_readDay 0 := ⟨tb_in 916 (by decide +kernel) rfl, tb_in 46 (by decide +kernel) rfl, tb_in 915 (by decide +kernel) rfl, tb_in 21 (by decide +kernel) rfl, ⟨by decide, by decide, by decide +kernel⟩⟩
theorem ft_X9_day__X9_readDay : mfit M_X9_day M_X9_readDay := ⟨by decide, by decide⟩
theorem ft_X9_day__X9_nextByte : mfit M_X9_day M_X9_nextByte := ⟨by decide, by decide⟩
theorem lk_X9_190 : Cond.methodLink RX9 190 yX9_does ∈ TBL := tb_in 921 (by decide +kernel) rfl
theorem cv_X9_does : mcv M_X9_does 1 := ⟨tb_in 924 (by decide +kernel) rfl, tb_in 46 (by decide +kernel) rfl, tb_in 923 (by decide +kernel) rfl, tb_in 23 (by decide +kernel) rfl, ⟨by decide, by decide, by decide +kernel⟩⟩
theorem ft_X9_day__X9_does : mfit M_X9_day M_X9_does := ⟨by decide, by decide⟩
theorem ft_X9_readDay__X9_nextByte : mfit M_X9_readDay M_X9_nextByte := ⟨by decide, by decide⟩
theorem lk_X9_169 : Cond.methodLink RX9 169 yX9_readAct ∈ TBL := tb_in 917 (by decide +kernel) rfl
theorem cv_X9_readAct : mcv M_X9_readAct 1 := ⟨tb_in 920 (by decide +kernel) rfl, tb_in 46 (by decide +kernel) rfl, tb_in 919 (by decide +kernel) rfl, tb_in 22 (by decide +kernel) rfl, ⟨by decide, by decide, by decide +kernel⟩⟩
theorem ft_X9_readDay__X9_readAct : mfit M_X9_readDay M_X9_readAct := ⟨by decide, by decide⟩
theorem ft_X9_readAct__X9_nextByte : mfit M_X9_readAct M_X9_nextByte := ⟨by decide, by decide⟩
theorem ft_X9_readAct__X9_readDigit : mfit M_X9_readAct M_X9_readDigit := ⟨by decide, by decide⟩
theorem lk_X9_184 : Cond.methodLink RX9 184 yX9_bell ∈ TBL := tb_in 949 (by decide +kernel) rfl
theorem cv_X9_bell : mcv M_X9_bell 0 := ⟨tb_in 952 (by decide +kernel) rfl, tb_in 46 (by decide +kernel) rfl, tb_in 950 (by decide +kernel) rfl, tb_in 951 (by decide +kernel) rfl, ⟨by decide, by decide, by decide +kernel⟩⟩
theorem ft_X9_does__X9_bell : mfit M_X9_does M_X9_bell := ⟨by decide, by decide⟩
theorem lk_X9_181 : Cond.methodLink RX9 181 yX9_give ∈ TBL := tb_in 941 (by decide +kernel) rfl
theorem cv_X9_give : mcv M_X9_give 2 := ⟨tb_in 944 (by decide +kernel) rfl, tb_in 46 (by decide +kernel) rfl, tb_in 942 (by decide +kernel) rfl, tb_in 943 (by decide +kernel) rfl, ⟨by decide, by decide, by decide +kernel⟩⟩
theorem ft_X9_does__X9_give : mfit M_X9_does M_X9_give := ⟨by decide, by decide⟩
theorem lk_X9_178 : Cond.methodLink RX9 178 yX9_search ∈ TBL := tb_in 937 (by decide +kernel) rfl
theorem cv_X9_search : mcv M_X9_search 1 := ⟨tb_in 940 (by decide +kernel) rfl, tb_in 46 (by decide +kernel) rfl, tb_in 938 (by decide +kernel) rfl, tb_in 939 (by decide +kernel) rfl, ⟨by decide, by decide, by decide +kernel⟩⟩
theorem ft_X9_does__X9_search : mfit M_X9_does M_X9_search := ⟨by decide, by decide⟩
theorem lk_X9_175 : Cond.methodLink RX9 175 yX9_take ∈ TBL := tb_in 933 (by decide +kernel) rfl
theorem cv_X9_take : mcv M_X9_take 2 := ⟨tb_in 936 (by decide +kernel) rfl, tb_in 46 (by decide +kernel) rfl, tb_in 934 (by decide +kernel) rfl, tb_in 935 (by decide +kernel) rfl, ⟨by decide, by decide, by decide +kernel⟩⟩
theorem ft_X9_does__X9_take : mfit M_X9_does M_X9_take := ⟨by decide, by decide⟩
theorem lk_X9_172 : Cond.methodLink RX9 172 yX9_put ∈ TBL := tb_in 925 (by decide +kernel) rfl
theorem cv_X9_put : mcv M_X9_put 2 := ⟨tb_in 928 (by decide +kernel) rfl, tb_in 46 (by decide +kernel) rfl, tb_in 926 (by decide +kernel) rfl, tb_in 927 (by decide +kernel) rfl, ⟨by decide, by decide, by decide +kernel⟩⟩
theorem ft_X9_does__X9_put : mfit M_X9_does M_X9_put := ⟨by decide, by decide⟩
theorem fd_X9_129 : mfd RX9 129 9 11 := ⟨RX9, TX9, 33, rfl, by decide, tbX9, tb_in 726 (by decide +kernel) rfl, rfl⟩
theorem ct_X9_121 : Cond.constantLong RX9 121 10 ∈ TBL := tb_in 873 (by decide +kernel) rfl
theorem ct_X9_123 : Cond.constantLong RX9 123 13 ∈ TBL := tb_in 874 (by decide +kernel) rfl
theorem ft_X9_bell__X9_in : mfit M_X9_bell M_X9_in := ⟨by decide, by decide⟩
theorem lk_X9_207 : Cond.methodLink RX9 207 yX9_ring ∈ TBL := tb_in 953 (by decide +kernel) rfl
theorem cv_X9_ring : mcv M_X9_ring 2 := ⟨tb_in 956 (by decide +kernel) rfl, tb_in 46 (by decide +kernel) rfl, tb_in 955 (by decide +kernel) rfl, tb_in 26 (by decide +kernel) rfl, ⟨by decide, by decide, by decide +kernel⟩⟩
theorem ft_X9_bell__X9_ring : mfit M_X9_bell M_X9_ring := ⟨by decide, by decide⟩
theorem fp_X9_129 : mfp RX9 129 9 11 .int := ⟨RX9, TX9, 33, tyX9, rfl, by decide, tbX9, tb_in 726 (by decide +kernel) rfl, rfl, tyX9_ok, nmX9, rfl, by decide +kernel⟩
theorem lk_X9_193 : Cond.methodLink RX9 193 yX9_come ∈ TBL := tb_in 929 (by decide +kernel) rfl
theorem cv_X9_come : mcv M_X9_come 2 := ⟨tb_in 932 (by decide +kernel) rfl, tb_in 46 (by decide +kernel) rfl, tb_in 931 (by decide +kernel) rfl, tb_in 24 (by decide +kernel) rfl, ⟨by decide, by decide, by decide +kernel⟩⟩
theorem ft_X9_bell__X9_come : mfit M_X9_bell M_X9_come := ⟨by decide, by decide⟩
theorem fd_X9_37 : mfd RX9 37 9 12 := ⟨RX9, TX9, 33, rfl, by decide, tbX9, tb_in 727 (by decide +kernel) rfl, rfl⟩
theorem ct_X9_200 : Cond.constantLong RX9 200 1103515245 ∈ TBL := tb_in 957 (by decide +kernel) rfl
theorem ct_X9_202 : Cond.constantLong RX9 202 12345 ∈ TBL := tb_in 958 (by decide +kernel) rfl
theorem ct_X9_204 : Cond.constantLong RX9 204 2147483647 ∈ TBL := tb_in 959 (by decide +kernel) rfl
theorem fp_X9_37 : mfp RX9 37 9 12 .int := ⟨RX9, TX9, 33, tyX9, rfl, by decide, tbX9, tb_in 727 (by decide +kernel) rfl, rfl, tyX9_ok, nmX9, rfl, by decide +kernel⟩
theorem ct_X9_206 : Cond.constant RX9 206 65536 ∈ TBL := tb_in 960 (by decide +kernel) rfl
theorem ft_X9_ring__X9_wearer : mfit M_X9_ring M_X9_wearer := ⟨by decide, by decide⟩
theorem ft_X9_come__X9_wearer : mfit M_X9_come M_X9_wearer := ⟨by decide, by decide⟩
theorem ft_X9_give__X9_isThing : mfit M_X9_give M_X9_isThing := ⟨by decide, by decide⟩
theorem ft_X9_give__X9_isBoy : mfit M_X9_give M_X9_isBoy := ⟨by decide, by decide⟩
theorem lk_X9_197 : Cond.methodLink RX9 197 yX9_wearsAny ∈ TBL := tb_in 945 (by decide +kernel) rfl
theorem cv_X9_wearsAny : mcv M_X9_wearsAny 1 := ⟨tb_in 948 (by decide +kernel) rfl, tb_in 46 (by decide +kernel) rfl, tb_in 947 (by decide +kernel) rfl, tb_in 25 (by decide +kernel) rfl, ⟨by decide, by decide, by decide +kernel⟩⟩
theorem ft_X9_give__X9_wearsAny : mfit M_X9_give M_X9_wearsAny := ⟨by decide, by decide⟩
theorem ft_X9_wearsAny__X9_wearer : mfit M_X9_wearsAny M_X9_wearer := ⟨by decide, by decide⟩
theorem ft_X9_search__X9_isCoat : mfit M_X9_search M_X9_isCoat := ⟨by decide, by decide⟩
theorem ft_X9_search__X9_come : mfit M_X9_search M_X9_come := ⟨by decide, by decide⟩
theorem ft_X9_take__X9_isThing : mfit M_X9_take M_X9_isThing := ⟨by decide, by decide⟩
theorem ft_X9_take__X9_isCoat : mfit M_X9_take M_X9_isCoat := ⟨by decide, by decide⟩
theorem ft_X9_take__X9_wearer : mfit M_X9_take M_X9_wearer := ⟨by decide, by decide⟩
theorem ft_X9_put__X9_isThing : mfit M_X9_put M_X9_isThing := ⟨by decide, by decide⟩
theorem ft_X9_put__X9_isCoat : mfit M_X9_put M_X9_isCoat := ⟨by decide, by decide⟩
theorem ft_X9_put__X9_wearer : mfit M_X9_put M_X9_wearer := ⟨by decide, by decide⟩
theorem ft_X9_put__X9_come : mfit M_X9_put M_X9_come := ⟨by decide, by decide⟩
theorem fd_X8_160 : mfd RX8 160 4 3 := ⟨RX4, TX4, 5, rfl, by decide, tbX4, tb_in 139 (by decide +kernel) rfl, rfl⟩
theorem lk_X8_163 : Cond.methodLink RX8 163 yX6_between ∈ TBL := tb_in 507 (by decide +kernel) rfl
theorem cv_X6_between : mcv M_X6_between 2 := ⟨tb_in 510 (by decide +kernel) rfl, tb_in 40 (by decide +kernel) rfl, tb_in 508 (by decide +kernel) rfl, tb_in 509 (by decide +kernel) rfl, ⟨by decide, by decide, by decide +kernel⟩⟩
theorem ft_X8_count__X6_between : mfit M_X8_count M_X6_between := ⟨by decide, by decide⟩
theorem bp_31 : (Int8.ofInt 31).toInt32 = Int32.ofInt 31 := by decide
theorem ft_X9_count__X9_in : mfit M_X9_count M_X9_in := ⟨by decide, by decide⟩
theorem ct_X9_125 : Cond.constantLong RX9 125 20 ∈ TBL := tb_in 875 (by decide +kernel) rfl
theorem ct_X9_127 : Cond.constantLong RX9 127 23 ∈ TBL := tb_in 876 (by decide +kernel) rfl
theorem ft_X8_put__X6_has : mfit M_X8_put M_X6_has := ⟨by decide, by decide⟩
theorem ft_X8_put__X0_has : mfit M_X8_put M_X0_has := ⟨by decide, by decide⟩
theorem lk_X8_166 : Cond.methodLink RX8 166 yX4_putIn ∈ TBL := tb_in 515 (by decide +kernel) rfl
theorem ft_X8_put__X4_putIn : mfit M_X8_put M_X4_putIn := ⟨by decide, by decide⟩
theorem ft_X8_take__X6_has : mfit M_X8_take M_X6_has := ⟨by decide, by decide⟩
theorem ft_X8_take__X0_has : mfit M_X8_take M_X0_has := ⟨by decide, by decide⟩
theorem lk_X8_169 : Cond.methodLink RX8 169 yX4_takeOut ∈ TBL := tb_in 520 (by decide +kernel) rfl
theorem ft_X8_take__X4_takeOut : mfit M_X8_take M_X4_takeOut := ⟨by decide, by decide⟩
theorem ft_X8_search__X0_has : mfit M_X8_search M_X0_has := ⟨by decide, by decide⟩
theorem lk_X8_172 : Cond.methodLink RX8 172 yX4_searchLining ∈ TBL := tb_in 525 (by decide +kernel) rfl
theorem ft_X8_search__X4_searchLining : mfit M_X8_search M_X4_searchLining := ⟨by decide, by decide⟩
theorem ft_X8_give__X6_has : mfit M_X8_give M_X6_has := ⟨by decide, by decide⟩
theorem ft_X8_give__X8_within : mfit M_X8_give M_X8_within := ⟨by decide, by decide⟩
theorem lk_X8_175 : Cond.methodLink RX8 175 yX4_handOver ∈ TBL := tb_in 530 (by decide +kernel) rfl
theorem ft_X8_give__X4_handOver : mfit M_X8_give M_X4_handOver := ⟨by decide, by decide⟩
theorem lk_X8_178 : Cond.methodLink RX8 178 yX4_ring ∈ TBL := tb_in 535 (by decide +kernel) rfl
theorem ft_X8_bell__X4_ring : mfit M_X8_bell M_X4_ring := ⟨by decide, by decide⟩
theorem ft_X8_reach__X8_within : mfit M_X8_reach M_X8_within := ⟨by decide, by decide⟩
theorem bp_25 : (Int8.ofInt 25).toInt32 = Int32.ofInt 25 := by decide
theorem lk_X8_182 : Cond.methodLink RX8 182 yX8_isBoys ∈ TBL := tb_in 540 (by decide +kernel) rfl
theorem cs_X8_isBoys : mcs M_X8_isBoys 1 := ⟨tb_in 542 (by decide +kernel) rfl, tb_in 37 (by decide +kernel) rfl, tb_in 541 (by decide +kernel) rfl, ⟨by decide, by decide, by decide +kernel⟩⟩
theorem ft_X8_reach__X8_isBoys : mfit M_X8_reach M_X8_isBoys := ⟨by decide, by decide⟩
theorem fd_X8_36 : mfd RX8 36 8 5 := ⟨RX8, TX8, 8, rfl, by decide, tbX8, tb_in 269 (by decide +kernel) rfl, rfl⟩
theorem lk_X8_185 : Cond.methodLink RX8 185 yX7_handsAfter ∈ TBL := tb_in 543 (by decide +kernel) rfl
theorem cv_X7_handsAfter : mcv M_X7_handsAfter 4 := ⟨tb_in 546 (by decide +kernel) rfl, tb_in 43 (by decide +kernel) rfl, tb_in 544 (by decide +kernel) rfl, tb_in 545 (by decide +kernel) rfl, ⟨by decide, by decide, by decide +kernel⟩⟩
theorem ft_X8_reach__X7_handsAfter : mfit M_X8_reach M_X7_handsAfter := ⟨by decide, by decide⟩
theorem sp_256 : (Int16.ofInt 256).toInt32 = Int32.ofInt 256 := by decide
theorem ft_X8_isBoys__X8_within : mfit M_X8_isBoys M_X8_within := ⟨by decide, by decide⟩
theorem fd_X7_12 : mfd RX7 12 7 0 := ⟨RX7, TX7, 6, rfl, by decide, tbX7, tb_in 201 (by decide +kernel) rfl, rfl⟩
theorem lk_X7_22 : Cond.methodLink RX7 22 yX0_become ∈ TBL := tb_in 547 (by decide +kernel) rfl
theorem ft_X7_handsAfter__X0_become : mfit M_X7_handsAfter M_X0_become := ⟨by decide, by decide⟩
theorem lk_X7_26 : Cond.methodLink RX7 26 yX7_start ∈ TBL := tb_in 548 (by decide +kernel) rfl
theorem cv_X7_start : mcv M_X7_start 2 := ⟨tb_in 551 (by decide +kernel) rfl, tb_in 43 (by decide +kernel) rfl, tb_in 550 (by decide +kernel) rfl, tb_in 6 (by decide +kernel) rfl, ⟨by decide, by decide, by decide +kernel⟩⟩
theorem ft_X7_handsAfter__X7_start : mfit M_X7_handsAfter M_X7_start := ⟨by decide, by decide⟩
theorem fd_X7_33 : mfd RX7 33 7 3 := ⟨RX7, TX7, 6, rfl, by decide, tbX7, tb_in 205 (by decide +kernel) rfl, rfl⟩
theorem lk_X7_30 : Cond.methodLink RX7 30 yX7_ring ∈ TBL := tb_in 557 (by decide +kernel) rfl
theorem cv_X7_ring : mcv M_X7_ring 0 := ⟨tb_in 560 (by decide +kernel) rfl, tb_in 43 (by decide +kernel) rfl, tb_in 559 (by decide +kernel) rfl, tb_in 8 (by decide +kernel) rfl, ⟨by decide, by decide, by decide +kernel⟩⟩
theorem ft_X7_handsAfter__X7_ring : mfit M_X7_handsAfter M_X7_ring := ⟨by decide, by decide⟩
theorem fp_X7_71 : mfp RX7 71 7 2 .int := ⟨RX7, TX7, 6, tyX7, rfl, by decide, tbX7, tb_in 204 (by decide +kernel) rfl, rfl, tyX7_ok, nmX7, rfl, by decide +kernel⟩
theorem fp_X7_33 : mfp RX7 33 7 3 .int := ⟨RX7, TX7, 6, tyX7, rfl, by decide, tbX7, tb_in 205 (by decide +kernel) rfl, rfl, tyX7_ok, nmX7, rfl, by decide +kernel⟩
theorem fp_X7_74 : mfp RX7 74 7 4 .int := ⟨RX7, TX7, 6, tyX7, rfl, by decide, tbX7, tb_in 206 (by decide +kernel) rfl, rfl, tyX7_ok, nmX7, rfl, by decide +kernel⟩
theorem fp_X7_44 : mfp RX7 44 7 5 .int := ⟨RX7, TX7, 6, tyX7, rfl, by decide, tbX7, tb_in 207 (by decide +kernel) rfl, rfl, tyX7_ok, nmX7, rfl, by decide +kernel⟩
theorem lk_X7_77 : Cond.methodLink RX7 77 yX7_spread ∈ TBL := tb_in 552 (by decide +kernel) rfl
theorem cv_X7_spread : mcv M_X7_spread 0 := ⟨tb_in 555 (by decide +kernel) rfl, tb_in 43 (by decide +kernel) rfl, tb_in 554 (by decide +kernel) rfl, tb_in 7 (by decide +kernel) rfl, ⟨by decide, by decide, by decide +kernel⟩⟩
theorem ft_X7_start__X7_spread : mfit M_X7_start M_X7_spread := ⟨by decide, by decide⟩
theorem fd_X7_41 : mfd RX7 41 0 0 := ⟨RX0, TX0, 5, rfl, by decide, tbX0, tb_in 73 (by decide +kernel) rfl, rfl⟩
theorem fd_X7_74 : mfd RX7 74 7 4 := ⟨RX7, TX7, 6, rfl, by decide, tbX7, tb_in 206 (by decide +kernel) rfl, rfl⟩
theorem lk_X7_47 : Cond.methodLink RX7 47 yX0_wearer ∈ TBL := tb_in 556 (by decide +kernel) rfl
theorem ft_X7_spread__X0_wearer : mfit M_X7_spread M_X0_wearer := ⟨by decide, by decide⟩
theorem fd_X7_83 : mfd RX7 83 0 4 := ⟨RX0, TX0, 5, rfl, by decide, tbX0, tb_in 84 (by decide +kernel) rfl, rfl⟩
theorem lk_X7_80 : Cond.methodLink RX7 80 yX0_turnAll ∈ TBL := tb_in 561 (by decide +kernel) rfl
theorem ft_X7_ring__X0_turnAll : mfit M_X7_ring M_X0_turnAll := ⟨by decide, by decide⟩
theorem ft_X7_ring__X7_spread : mfit M_X7_ring M_X7_spread := ⟨by decide, by decide⟩
theorem fd_X7_71 : mfd RX7 71 7 2 := ⟨RX7, TX7, 6, rfl, by decide, tbX7, tb_in 204 (by decide +kernel) rfl, rfl⟩
theorem ft_X7_ring__X0_wearer : mfit M_X7_ring M_X0_wearer := ⟨by decide, by decide⟩
theorem ft_X9_reach__X9_isBoy : mfit M_X9_reach M_X9_isBoy := ⟨by decide, by decide⟩
theorem ct_X9_219 : Cond.constantLong RX9 219 24 ∈ TBL := tb_in 970 (by decide +kernel) rfl
theorem ft_X9_reach__X9_in : mfit M_X9_reach M_X9_in := ⟨by decide, by decide⟩
theorem lk_X9_221 : Cond.methodLink RX9 221 yX9_begin ∈ TBL := tb_in 971 (by decide +kernel) rfl
theorem cv_X9_begin : mcv M_X9_begin 1 := ⟨tb_in 974 (by decide +kernel) rfl, tb_in 46 (by decide +kernel) rfl, tb_in 973 (by decide +kernel) rfl, tb_in 27 (by decide +kernel) rfl, ⟨by decide, by decide, by decide +kernel⟩⟩
theorem ft_X9_reach__X9_begin : mfit M_X9_reach M_X9_begin := ⟨by decide, by decide⟩
theorem lk_X9_225 : Cond.methodLink RX9 225 yX9_closeAll ∈ TBL := tb_in 975 (by decide +kernel) rfl
theorem cv_X9_closeAll : mcv M_X9_closeAll 2 := ⟨tb_in 978 (by decide +kernel) rfl, tb_in 46 (by decide +kernel) rfl, tb_in 977 (by decide +kernel) rfl, tb_in 28 (by decide +kernel) rfl, ⟨by decide, by decide, by decide +kernel⟩⟩
theorem ft_X9_reach__X9_closeAll : mfit M_X9_reach M_X9_closeAll := ⟨by decide, by decide⟩
theorem fd_X9_210 : mfd RX9 210 9 18 := ⟨RX9, TX9, 33, rfl, by decide, tbX9, tb_in 733 (by decide +kernel) rfl, rfl⟩
theorem lk_X9_228 : Cond.methodLink RX9 228 yX9_ringOn ∈ TBL := tb_in 983 (by decide +kernel) rfl
theorem cv_X9_ringOn : mcv M_X9_ringOn 2 := ⟨tb_in 986 (by decide +kernel) rfl, tb_in 46 (by decide +kernel) rfl, tb_in 985 (by decide +kernel) rfl, tb_in 30 (by decide +kernel) rfl, ⟨by decide, by decide, by decide +kernel⟩⟩
theorem ft_X9_reach__X9_ringOn : mfit M_X9_reach M_X9_ringOn := ⟨by decide, by decide⟩
theorem fp_X9_210 : mfp RX9 210 9 18 .int := ⟨RX9, TX9, 33, tyX9, rfl, by decide, tbX9, tb_in 733 (by decide +kernel) rfl, rfl, tyX9_ok, nmX9, rfl, by decide +kernel⟩
theorem fp_X9_213 : mfp RX9 213 9 19 .int := ⟨RX9, TX9, 33, tyX9, rfl, by decide, tbX9, tb_in 734 (by decide +kernel) rfl, rfl, tyX9_ok, nmX9, rfl, by decide +kernel⟩
theorem lk_X9_216 : Cond.methodLink RX9 216 yX9_close ∈ TBL := tb_in 979 (by decide +kernel) rfl
theorem cv_X9_close : mcv M_X9_close 2 := ⟨tb_in 982 (by decide +kernel) rfl, tb_in 46 (by decide +kernel) rfl, tb_in 981 (by decide +kernel) rfl, tb_in 29 (by decide +kernel) rfl, ⟨by decide, by decide, by decide +kernel⟩⟩
theorem ft_X9_closeAll__X9_close : mfit M_X9_closeAll M_X9_close := ⟨by decide, by decide⟩
theorem ft_X9_close__X9_wearer : mfit M_X9_close M_X9_wearer := ⟨by decide, by decide⟩
theorem ft_X9_close__X9_has : mfit M_X9_close M_X9_has := ⟨by decide, by decide⟩
theorem fd_X9_213 : mfd RX9 213 9 19 := ⟨RX9, TX9, 33, rfl, by decide, tbX9, tb_in 734 (by decide +kernel) rfl, rfl⟩
theorem ft_X9_ringOn__X9_wearer : mfit M_X9_ringOn M_X9_wearer := ⟨by decide, by decide⟩
theorem ft_X9_ringOn__X9_has : mfit M_X9_ringOn M_X9_has := ⟨by decide, by decide⟩
theorem ft_X8_soonest__X8_within : mfit M_X8_soonest M_X8_within := ⟨by decide, by decide⟩
theorem ft_X8_soonest__X8_isBoys : mfit M_X8_soonest M_X8_isBoys := ⟨by decide, by decide⟩
theorem lk_X8_189 : Cond.methodLink RX8 189 yX7_fewestBells ∈ TBL := tb_in 566 (by decide +kernel) rfl
theorem cv_X7_fewestBells : mcv M_X7_fewestBells 4 := ⟨tb_in 569 (by decide +kernel) rfl, tb_in 43 (by decide +kernel) rfl, tb_in 567 (by decide +kernel) rfl, tb_in 568 (by decide +kernel) rfl, ⟨by decide, by decide, by decide +kernel⟩⟩
theorem ft_X8_soonest__X7_fewestBells : mfit M_X8_soonest M_X7_fewestBells := ⟨by decide, by decide⟩
theorem lk_X8_192 : Cond.methodLink RX8 192 yX7_comingTo ∈ TBL := tb_in 574 (by decide +kernel) rfl
theorem cv_X7_comingTo : mcv M_X7_comingTo 1 := ⟨tb_in 577 (by decide +kernel) rfl, tb_in 43 (by decide +kernel) rfl, tb_in 575 (by decide +kernel) rfl, tb_in 576 (by decide +kernel) rfl, ⟨by decide, by decide, by decide +kernel⟩⟩
theorem ft_X8_soonest__X7_comingTo : mfit M_X8_soonest M_X7_comingTo := ⟨by decide, by decide⟩
theorem ft_X7_fewestBells__X0_become : mfit M_X7_fewestBells M_X0_become := ⟨by decide, by decide⟩
theorem ft_X7_fewestBells__X7_start : mfit M_X7_fewestBells M_X7_start := ⟨by decide, by decide⟩
theorem bp_24 : (Int8.ofInt 24).toInt32 = Int32.ofInt 24 := by decide
theorem lk_X7_37 : Cond.methodLink RX7 37 yX7_bellsTo ∈ TBL := tb_in 570 (by decide +kernel) rfl
theorem cv_X7_bellsTo : mcv M_X7_bellsTo 2 := ⟨tb_in 573 (by decide +kernel) rfl, tb_in 43 (by decide +kernel) rfl, tb_in 572 (by decide +kernel) rfl, tb_in 9 (by decide +kernel) rfl, ⟨by decide, by decide, by decide +kernel⟩⟩
theorem ft_X7_fewestBells__X7_bellsTo : mfit M_X7_fewestBells M_X7_bellsTo := ⟨by decide, by decide⟩
theorem ft_X7_bellsTo__X7_ring : mfit M_X7_bellsTo M_X7_ring := ⟨by decide, by decide⟩
theorem fd_X7_44 : mfd RX7 44 7 5 := ⟨RX7, TX7, 6, rfl, by decide, tbX7, tb_in 207 (by decide +kernel) rfl, rfl⟩
theorem ft_X7_comingTo__X0_wearer : mfit M_X7_comingTo M_X0_wearer := ⟨by decide, by decide⟩
theorem ft_X9_soonest__X9_isBoy : mfit M_X9_soonest M_X9_isBoy := ⟨by decide, by decide⟩
theorem ft_X9_soonest__X9_in : mfit M_X9_soonest M_X9_in := ⟨by decide, by decide⟩
theorem lk_X9_234 : Cond.methodLink RX9 234 yX9_findSoonest ∈ TBL := tb_in 991 (by decide +kernel) rfl
theorem cv_X9_findSoonest : mcv M_X9_findSoonest 3 := ⟨tb_in 994 (by decide +kernel) rfl, tb_in 46 (by decide +kernel) rfl, tb_in 993 (by decide +kernel) rfl, tb_in 31 (by decide +kernel) rfl, ⟨by decide, by decide, by decide +kernel⟩⟩
theorem ft_X9_soonest__X9_findSoonest : mfit M_X9_soonest M_X9_findSoonest := ⟨by decide, by decide⟩
theorem fd_X9_231 : mfd RX9 231 9 20 := ⟨RX9, TX9, 33, rfl, by decide, tbX9, tb_in 735 (by decide +kernel) rfl, rfl⟩
theorem fp_X9_231 : mfp RX9 231 9 20 .int := ⟨RX9, TX9, 33, tyX9, rfl, by decide, tbX9, tb_in 735 (by decide +kernel) rfl, rfl, tyX9_ok, nmX9, rfl, by decide +kernel⟩
theorem ft_X9_findSoonest__X9_begin : mfit M_X9_findSoonest M_X9_begin := ⟨by decide, by decide⟩
theorem ft_X9_findSoonest__X9_closeAll : mfit M_X9_findSoonest M_X9_closeAll := ⟨by decide, by decide⟩
theorem ft_X9_findSoonest__X9_has : mfit M_X9_findSoonest M_X9_has := ⟨by decide, by decide⟩
theorem ft_X9_findSoonest__X9_ringOn : mfit M_X9_findSoonest M_X9_ringOn := ⟨by decide, by decide⟩
theorem ft_X9_findSoonest__X9_wearer : mfit M_X9_findSoonest M_X9_wearer := ⟨by decide, by decide⟩
theorem ft_X8_dealt__X0_has : mfit M_X8_dealt M_X0_has := ⟨by decide, by decide⟩
theorem ft_X8_dealt__X8_within : mfit M_X8_dealt M_X8_within := ⟨by decide, by decide⟩
theorem lk_X8_195 : Cond.methodLink RX8 195 yX7_dealBest ∈ TBL := tb_in 582 (by decide +kernel) rfl
theorem cv_X7_dealBest : mcv M_X7_dealBest 4 := ⟨tb_in 585 (by decide +kernel) rfl, tb_in 43 (by decide +kernel) rfl, tb_in 583 (by decide +kernel) rfl, tb_in 584 (by decide +kernel) rfl, ⟨by decide, by decide, by decide +kernel⟩⟩
theorem ft_X8_dealt__X7_dealBest : mfit M_X8_dealt M_X7_dealBest := ⟨by decide, by decide⟩
theorem fd_X8_198 : mfd RX8 198 7 1 := ⟨RX7, TX7, 6, rfl, by decide, tbX7, tb_in 203 (by decide +kernel) rfl, rfl⟩
theorem ft_X7_dealBest__X0_become : mfit M_X7_dealBest M_X0_become := ⟨by decide, by decide⟩
theorem lk_X7_51 : Cond.methodLink RX7 51 yX0_sortTurn ∈ TBL := tb_in 586 (by decide +kernel) rfl
theorem cv_X0_sortTurn : mcv M_X0_sortTurn 1 := ⟨tb_in 589 (by decide +kernel) rfl, tb_in 39 (by decide +kernel) rfl, tb_in 587 (by decide +kernel) rfl, tb_in 588 (by decide +kernel) rfl, ⟨by decide, by decide, by decide +kernel⟩⟩
theorem ft_X7_dealBest__X0_sortTurn : mfit M_X7_dealBest M_X0_sortTurn := ⟨by decide, by decide⟩
theorem fd_X7_55 : mfd RX7 55 0 3 := ⟨RX0, TX0, 5, rfl, by decide, tbX0, tb_in 80 (by decide +kernel) rfl, rfl⟩
theorem ac_X7_58 : mcpC RX7 58 := ⟨tb_in 594 (by decide +kernel) rfl, tb_in 425 (by decide +kernel) rfl, tb_in 424 (by decide +kernel) rfl, tb_in 48 (by decide +kernel) rfl⟩
theorem ft_X7_dealBest__X7_start : mfit M_X7_dealBest M_X7_start := ⟨by decide, by decide⟩
theorem ft_X7_dealBest__X7_bellsTo : mfit M_X7_dealBest M_X7_bellsTo := ⟨by decide, by decide⟩
theorem fd_X7_64 : mfd RX7 64 0 1 := ⟨RX0, TX0, 5, rfl, by decide, tbX0, tb_in 76 (by decide +kernel) rfl, rfl⟩
theorem fd_X7_18 : mfd RX7 18 7 1 := ⟨RX7, TX7, 6, rfl, by decide, tbX7, tb_in 202 (by decide +kernel) rfl, rfl⟩
theorem lk_X7_67 : Cond.methodLink RX7 67 yX0_nextOrder ∈ TBL := tb_in 595 (by decide +kernel) rfl
theorem cv_X0_nextOrder : mcv M_X0_nextOrder 1 := ⟨tb_in 598 (by decide +kernel) rfl, tb_in 39 (by decide +kernel) rfl, tb_in 596 (by decide +kernel) rfl, tb_in 597 (by decide +kernel) rfl, ⟨by decide, by decide, by decide +kernel⟩⟩
theorem ft_X7_dealBest__X0_nextOrder : mfit M_X7_dealBest M_X0_nextOrder := ⟨by decide, by decide⟩
theorem lk_X0_42 : Cond.methodLink RX0 42 yX0_swap ∈ TBL := tb_in 590 (by decide +kernel) rfl
theorem cv_X0_swap : mcv M_X0_swap 2 := ⟨tb_in 593 (by decide +kernel) rfl, tb_in 39 (by decide +kernel) rfl, tb_in 592 (by decide +kernel) rfl, tb_in 10 (by decide +kernel) rfl, ⟨by decide, by decide, by decide +kernel⟩⟩
theorem ft_X0_sortTurn__X0_swap : mfit M_X0_sortTurn M_X0_swap := ⟨by decide, by decide⟩
theorem ft_X0_nextOrder__X0_swap : mfit M_X0_nextOrder M_X0_swap := ⟨by decide, by decide⟩
theorem ft_X9_dealt__X9_isCoat : mfit M_X9_dealt M_X9_isCoat := ⟨by decide, by decide⟩
theorem ft_X9_dealt__X9_isBoy : mfit M_X9_dealt M_X9_isBoy := ⟨by decide, by decide⟩
theorem ct_X9_238 : Cond.constantLong RX9 238 (-1) ∈ TBL := tb_in 999 (by decide +kernel) rfl
theorem ft_X9_dealt__X9_in : mfit M_X9_dealt M_X9_in := ⟨by decide, by decide⟩
theorem fd_X9_53 : mfd RX9 53 9 23 := ⟨RX9, TX9, 33, rfl, by decide, tbX9, tb_in 738 (by decide +kernel) rfl, rfl⟩
theorem fd_X9_47 : mfd RX9 47 9 21 := ⟨RX9, TX9, 33, rfl, by decide, tbX9, tb_in 736 (by decide +kernel) rfl, rfl⟩
theorem fd_X9_50 : mfd RX9 50 9 22 := ⟨RX9, TX9, 33, rfl, by decide, tbX9, tb_in 737 (by decide +kernel) rfl, rfl⟩
theorem ft_X9_dealt__X9_findSoonest : mfit M_X9_dealt M_X9_findSoonest := ⟨by decide, by decide⟩
theorem lk_X9_240 : Cond.methodLink RX9 240 yX9_nextOrder ∈ TBL := tb_in 1000 (by decide +kernel) rfl
theorem cv_X9_nextOrder : mcv M_X9_nextOrder 1 := ⟨tb_in 1003 (by decide +kernel) rfl, tb_in 46 (by decide +kernel) rfl, tb_in 1002 (by decide +kernel) rfl, tb_in 32 (by decide +kernel) rfl, ⟨by decide, by decide, by decide +kernel⟩⟩
theorem ft_X9_dealt__X9_nextOrder : mfit M_X9_dealt M_X9_nextOrder := ⟨by decide, by decide⟩
theorem ft_X8_wore__X0_has : mfit M_X8_wore M_X0_has := ⟨by decide, by decide⟩
theorem ft_X8_wore__X8_within : mfit M_X8_wore M_X8_within := ⟨by decide, by decide⟩
theorem lk_X8_201 : Cond.methodLink RX8 201 yX0_wearers ∈ TBL := tb_in 603 (by decide +kernel) rfl
theorem cv_X0_wearers : mcv M_X0_wearers 2 := ⟨tb_in 606 (by decide +kernel) rfl, tb_in 39 (by decide +kernel) rfl, tb_in 604 (by decide +kernel) rfl, tb_in 605 (by decide +kernel) rfl, ⟨by decide, by decide, by decide +kernel⟩⟩
theorem ft_X8_wore__X0_wearers : mfit M_X8_wore M_X0_wearers := ⟨by decide, by decide⟩
theorem ft_X9_wore__X9_isCoat : mfit M_X9_wore M_X9_isCoat := ⟨by decide, by decide⟩
theorem ft_X9_wore__X9_in : mfit M_X9_wore M_X9_in := ⟨by decide, by decide⟩
theorem ft_X9_wore__X9_wearer : mfit M_X9_wore M_X9_wearer := ⟨by decide, by decide⟩
theorem lk_X8_204 : Cond.methodLink RX8 204 yX8_isPair ∈ TBL := tb_in 611 (by decide +kernel) rfl
theorem cs_X8_isPair : mcs M_X8_isPair 2 := ⟨tb_in 613 (by decide +kernel) rfl, tb_in 37 (by decide +kernel) rfl, tb_in 612 (by decide +kernel) rfl, ⟨by decide, by decide, by decide +kernel⟩⟩
theorem ft_X8_owe__X8_isPair : mfit M_X8_owe M_X8_isPair := ⟨by decide, by decide⟩
theorem sp_1000 : (Int16.ofInt 1000).toInt32 = Int32.ofInt 1000 := by decide
theorem ft_X8_owe__X8_within : mfit M_X8_owe M_X8_within := ⟨by decide, by decide⟩
theorem fd_X8_207 : mfd RX8 207 4 2 := ⟨RX4, TX4, 5, rfl, by decide, tbX4, tb_in 137 (by decide +kernel) rfl, rfl⟩
theorem ft_X8_isPair__X8_within : mfit M_X8_isPair M_X8_within := ⟨by decide, by decide⟩
theorem lk_X9_243 : Cond.methodLink RX9 243 yX9_areTwo ∈ TBL := tb_in 1012 (by decide +kernel) rfl
theorem cs_X9_areTwo : mcs M_X9_areTwo 2 := ⟨tb_in 1014 (by decide +kernel) rfl, tb_in 46 (by decide +kernel) rfl, tb_in 1013 (by decide +kernel) rfl, ⟨by decide, by decide, by decide +kernel⟩⟩
theorem ft_X9_owe__X9_areTwo : mfit M_X9_owe M_X9_areTwo := ⟨by decide, by decide⟩
theorem ct_X9_246 : Cond.constantLong RX9 246 999 ∈ TBL := tb_in 1015 (by decide +kernel) rfl
theorem ft_X9_owe__X9_in : mfit M_X9_owe M_X9_in := ⟨by decide, by decide⟩
theorem fd_X9_34 : mfd RX9 34 9 10 := ⟨RX9, TX9, 33, rfl, by decide, tbX9, tb_in 725 (by decide +kernel) rfl, rfl⟩
theorem ft_X9_areTwo__X9_isBoy : mfit M_X9_areTwo M_X9_isBoy := ⟨by decide, by decide⟩
theorem ft_X8_balance__X8_within : mfit M_X8_balance M_X8_within := ⟨by decide, by decide⟩
theorem ct_X8_213 : Cond.constant RX8 213 (-100001) ∈ TBL := tb_in 622 (by decide +kernel) rfl
theorem lk_X8_210 : Cond.methodLink RX8 210 yX4_balanceOf ∈ TBL := tb_in 618 (by decide +kernel) rfl
theorem cv_X4_balanceOf : mcv M_X4_balanceOf 1 := ⟨tb_in 621 (by decide +kernel) rfl, tb_in 38 (by decide +kernel) rfl, tb_in 619 (by decide +kernel) rfl, tb_in 620 (by decide +kernel) rfl, ⟨by decide, by decide, by decide +kernel⟩⟩
theorem ft_X8_balance__X4_balanceOf : mfit M_X8_balance M_X4_balanceOf := ⟨by decide, by decide⟩
theorem fd_X4_25 : mfd RX4 25 4 2 := ⟨RX4, TX4, 5, rfl, by decide, tbX4, tb_in 135 (by decide +kernel) rfl, rfl⟩
theorem ft_X9_balance__X9_isBoy : mfit M_X9_balance M_X9_isBoy := ⟨by decide, by decide⟩
theorem ct_X9_251 : Cond.constant RX9 251 (-100001) ∈ TBL := tb_in 1024 (by decide +kernel) rfl
theorem lk_X9_248 : Cond.methodLink RX9 248 yX9_balanceOf ∈ TBL := tb_in 1020 (by decide +kernel) rfl
theorem cv_X9_balanceOf : mcv M_X9_balanceOf 1 := ⟨tb_in 1023 (by decide +kernel) rfl, tb_in 46 (by decide +kernel) rfl, tb_in 1022 (by decide +kernel) rfl, tb_in 33 (by decide +kernel) rfl, ⟨by decide, by decide, by decide +kernel⟩⟩
theorem ft_X9_balance__X9_balanceOf : mfit M_X9_balance M_X9_balanceOf := ⟨by decide, by decide⟩
theorem fd_X8_43 : mfd RX8 43 8 6 := ⟨RX8, TX8, 8, rfl, by decide, tbX8, tb_in 270 (by decide +kernel) rfl, rfl⟩
theorem lk_X8_214 : Cond.methodLink RX8 214 yX1_fewest ∈ TBL := tb_in 627 (by decide +kernel) rfl
theorem cv_X1_fewest : mcv M_X1_fewest 1 := ⟨tb_in 630 (by decide +kernel) rfl, tb_in 44 (by decide +kernel) rfl, tb_in 628 (by decide +kernel) rfl, tb_in 629 (by decide +kernel) rfl, ⟨by decide, by decide, by decide +kernel⟩⟩
theorem ft_X8_payments__X1_fewest : mfit M_X8_payments M_X1_fewest := ⟨by decide, by decide⟩
theorem lk_X1_50 : Cond.methodLink RX1 50 yX1_mostSets ∈ TBL := tb_in 632 (by decide +kernel) rfl
theorem cv_X1_mostSets : mcv M_X1_mostSets 1 := ⟨tb_in 635 (by decide +kernel) rfl, tb_in 44 (by decide +kernel) rfl, tb_in 634 (by decide +kernel) rfl, tb_in 11 (by decide +kernel) rfl, ⟨by decide, by decide, by decide +kernel⟩⟩
theorem ft_X1_fewest__X1_mostSets : mfit M_X1_fewest M_X1_mostSets := ⟨by decide, by decide⟩
theorem lk_X1_46 : Cond.methodLink RX1 46 yX4_balanceOf ∈ TBL := tb_in 631 (by decide +kernel) rfl
theorem ft_X1_fewest__X4_balanceOf : mfit M_X1_fewest M_X4_balanceOf := ⟨by decide, by decide⟩
theorem fd_X1_15 : mfd RX1 15 1 1 := ⟨RX1, TX1, 4, rfl, by decide, tbX1, tb_in 228 (by decide +kernel) rfl, rfl⟩
theorem fd_X1_18 : mfd RX1 18 1 2 := ⟨RX1, TX1, 4, rfl, by decide, tbX1, tb_in 229 (by decide +kernel) rfl, rfl⟩
theorem fd_X1_21 : mfd RX1 21 1 3 := ⟨RX1, TX1, 4, rfl, by decide, tbX1, tb_in 230 (by decide +kernel) rfl, rfl⟩
theorem mx_X1_53 : mmxC RX1 53 := ⟨tb_in 636 (by decide +kernel) rfl, tb_in 637 (by decide +kernel) rfl, tb_in 49 (by decide +kernel) rfl, tb_in 638 (by decide +kernel) rfl⟩
theorem ft_X9_payments__X9_balanceOf : mfit M_X9_payments M_X9_balanceOf := ⟨by decide, by decide⟩
theorem ft_X9_payments__X9_ones : mfit M_X9_payments M_X9_ones := ⟨by decide, by decide⟩
theorem fd_X9_59 : mfd RX9 59 9 25 := ⟨RX9, TX9, 33, rfl, by decide, tbX9, tb_in 740 (by decide +kernel) rfl, rfl⟩
theorem fd_X9_56 : mfd RX9 56 9 24 := ⟨RX9, TX9, 33, rfl, by decide, tbX9, tb_in 739 (by decide +kernel) rfl, rfl⟩
theorem ft_X9_payments__X9_has : mfit M_X9_payments M_X9_has := ⟨by decide, by decide⟩
theorem fd_X8_218 : mfd RX8 218 4 4 := ⟨RX4, TX4, 5, rfl, by decide, tbX4, tb_in 141 (by decide +kernel) rfl, rfl⟩
theorem fp_X8_218 : mfp RX8 218 4 4 .int := ⟨RX4, TX4, 5, tyX4, rfl, by decide, tbX4, tb_in 141 (by decide +kernel) rfl, rfl, tyX4_ok, nmX4, rfl, by decide +kernel⟩
theorem fd_X8_16 : mfd RX8 16 8 1 := ⟨RX8, TX8, 8, rfl, by decide, tbX8, tb_in 265 (by decide +kernel) rfl, rfl⟩
theorem lk_X8_221 : Cond.methodLink RX8 221 yX4_become ∈ TBL := tb_in 647 (by decide +kernel) rfl
theorem cv_X4_become : mcv M_X4_become 1 := ⟨tb_in 650 (by decide +kernel) rfl, tb_in 38 (by decide +kernel) rfl, tb_in 648 (by decide +kernel) rfl, tb_in 649 (by decide +kernel) rfl, ⟨by decide, by decide, by decide +kernel⟩⟩
theorem ft_X8_image__X4_become : mfit M_X8_image M_X4_become := ⟨by decide, by decide⟩
theorem fp_X8_224 : mfp RX8 224 8 2 .boolean := ⟨RX8, TX8, 8, tyX8, rfl, by decide, tbX8, tb_in 266 (by decide +kernel) rfl, rfl, tyX8_ok, nmX8, rfl, by decide +kernel⟩
theorem lk_X4_33 : Cond.methodLink RX4 33 yX0_become ∈ TBL := tb_in 651 (by decide +kernel) rfl
theorem ft_X4_become__X0_become : mfit M_X4_become M_X0_become := ⟨by decide, by decide⟩
theorem lk_X4_37 : Cond.methodLink RX4 37 yX6_become ∈ TBL := tb_in 652 (by decide +kernel) rfl
theorem cv_X6_become : mcv M_X6_become 1 := ⟨tb_in 655 (by decide +kernel) rfl, tb_in 40 (by decide +kernel) rfl, tb_in 653 (by decide +kernel) rfl, tb_in 654 (by decide +kernel) rfl, ⟨by decide, by decide, by decide +kernel⟩⟩
theorem ft_X4_become__X6_become : mfit M_X4_become M_X6_become := ⟨by decide, by decide⟩
theorem bp_64 : (Int8.ofInt 64).toInt32 = Int32.ofInt 64 := by decide
theorem ac_X4_40 : mcpC RX4 40 := ⟨tb_in 657 (by decide +kernel) rfl, tb_in 425 (by decide +kernel) rfl, tb_in 424 (by decide +kernel) rfl, tb_in 48 (by decide +kernel) rfl⟩
theorem ac_X6_28 : mcpC RX6 28 := ⟨tb_in 656 (by decide +kernel) rfl, tb_in 425 (by decide +kernel) rfl, tb_in 424 (by decide +kernel) rfl, tb_in 48 (by decide +kernel) rfl⟩
theorem sp_128 : (Int16.ofInt 128).toInt32 = Int32.ofInt 128 := by decide
theorem fp_X9_256 : mfp RX9 256 9 26 .boolean := ⟨RX9, TX9, 33, tyX9, rfl, by decide, tbX9, tb_in 741 (by decide +kernel) rfl, rfl, tyX9_ok, nmX9, rfl, by decide +kernel⟩
theorem fd_X9_62 : mfd RX9 62 9 27 := ⟨RX9, TX9, 33, rfl, by decide, tbX9, tb_in 742 (by decide +kernel) rfl, rfl⟩
theorem lk_X9_252 : Cond.methodLink RX9 252 yX9_carried ∈ TBL := tb_in 1037 (by decide +kernel) rfl
theorem cv_X9_carried : mcv M_X9_carried 3 := ⟨tb_in 1040 (by decide +kernel) rfl, tb_in 46 (by decide +kernel) rfl, tb_in 1039 (by decide +kernel) rfl, tb_in 34 (by decide +kernel) rfl, ⟨by decide, by decide, by decide +kernel⟩⟩
theorem ft_X9_image__X9_carried : mfit M_X9_image M_X9_carried := ⟨by decide, by decide⟩
theorem bp_12 : (Int8.ofInt 12).toInt32 = Int32.ofInt 12 := by decide
theorem bp_28 : (Int8.ofInt 28).toInt32 = Int32.ofInt 28 := by decide
theorem bp_60 : (Int8.ofInt 60).toInt32 = Int32.ofInt 60 := by decide
theorem bp_124 : (Int8.ofInt 124).toInt32 = Int32.ofInt 124 := by decide
theorem bp_125 : (Int8.ofInt 125).toInt32 = Int32.ofInt 125 := by decide
theorem bp_126 : (Int8.ofInt 126).toInt32 = Int32.ofInt 126 := by decide
theorem bp_127 : (Int8.ofInt 127).toInt32 = Int32.ofInt 127 := by decide
theorem fd_X8_224 : mfd RX8 224 8 2 := ⟨RX8, TX8, 8, rfl, by decide, tbX8, tb_in 266 (by decide +kernel) rfl, rfl⟩
theorem ft_X8_restore__X4_become : mfit M_X8_restore M_X4_become := ⟨by decide, by decide⟩
theorem fd_X9_256 : mfd RX9 256 9 26 := ⟨RX9, TX9, 33, rfl, by decide, tbX9, tb_in 741 (by decide +kernel) rfl, rfl⟩
theorem ft_X9_restore__X9_carried : mfit M_X9_restore M_X9_carried := ⟨by decide, by decide⟩
theorem ft_X8_owes__X8_within : mfit M_X8_owes M_X8_within := ⟨by decide, by decide⟩
theorem fd_X8_50 : mfd RX8 50 8 7 := ⟨RX8, TX8, 8, rfl, by decide, tbX8, tb_in 271 (by decide +kernel) rfl, rfl⟩
theorem lk_X8_228 : Cond.methodLink RX8 228 yX3_find ∈ TBL := tb_in 666 (by decide +kernel) rfl
theorem cv_X3_find : mcv M_X3_find 4 := ⟨tb_in 669 (by decide +kernel) rfl, tb_in 45 (by decide +kernel) rfl, tb_in 667 (by decide +kernel) rfl, tb_in 668 (by decide +kernel) rfl, ⟨by decide, by decide, by decide +kernel⟩⟩
theorem ft_X8_owes__X3_find : mfit M_X8_owes M_X3_find := ⟨by decide, by decide⟩
theorem fd_X8_232 : mfd RX8 232 3 3 := ⟨RX3, TX3, 4, rfl, by decide, tbX3, tb_in 253 (by decide +kernel) rfl, rfl⟩
theorem lk_X8_235 : Cond.methodLink RX8 235 yX1_addDebts ∈ TBL := tb_in 670 (by decide +kernel) rfl
theorem cv_X1_addDebts : mcv M_X1_addDebts 4 := ⟨tb_in 673 (by decide +kernel) rfl, tb_in 44 (by decide +kernel) rfl, tb_in 671 (by decide +kernel) rfl, tb_in 672 (by decide +kernel) rfl, ⟨by decide, by decide, by decide +kernel⟩⟩
theorem ft_X8_owes__X1_addDebts : mfit M_X8_owes M_X1_addDebts := ⟨by decide, by decide⟩
theorem fd_X3_9 : mfd RX3 9 3 0 := ⟨RX3, TX3, 4, rfl, by decide, tbX3, tb_in 246 (by decide +kernel) rfl, rfl⟩
theorem fd_X3_15 : mfd RX3 15 3 1 := ⟨RX3, TX3, 4, rfl, by decide, tbX3, tb_in 248 (by decide +kernel) rfl, rfl⟩
theorem fd_X3_19 : mfd RX3 19 3 2 := ⟨RX3, TX3, 4, rfl, by decide, tbX3, tb_in 250 (by decide +kernel) rfl, rfl⟩
theorem bp_m12 : (Int8.ofInt (-12)).toInt32 = Int32.ofInt (-12) := by decide
theorem bp_m11 : (Int8.ofInt (-11)).toInt32 = Int32.ofInt (-11) := by decide
theorem bp_m13 : (Int8.ofInt (-13)).toInt32 = Int32.ofInt (-13) := by decide
theorem fd_X1_24 : mfd RX1 24 4 2 := ⟨RX4, TX4, 5, rfl, by decide, tbX4, tb_in 136 (by decide +kernel) rfl, rfl⟩
theorem fd_X1_9 : mfd RX1 9 1 0 := ⟨RX1, TX1, 4, rfl, by decide, tbX1, tb_in 227 (by decide +kernel) rfl, rfl⟩
theorem ac_X1_29 : mcpC RX1 29 := ⟨tb_in 674 (by decide +kernel) rfl, tb_in 425 (by decide +kernel) rfl, tb_in 424 (by decide +kernel) rfl, tb_in 48 (by decide +kernel) rfl⟩
theorem lk_X1_35 : Cond.methodLink RX1 35 yX1_addDebt ∈ TBL := tb_in 675 (by decide +kernel) rfl
theorem cv_X1_addDebt : mcv M_X1_addDebt 3 := ⟨tb_in 678 (by decide +kernel) rfl, tb_in 44 (by decide +kernel) rfl, tb_in 677 (by decide +kernel) rfl, tb_in 12 (by decide +kernel) rfl, ⟨by decide, by decide, by decide +kernel⟩⟩
theorem ft_X1_addDebts__X1_addDebt : mfit M_X1_addDebts M_X1_addDebt := ⟨by decide, by decide⟩
theorem lk_X1_39 : Cond.methodLinkNest RX1 39 yX8_isPair RX8 ∈ mNW := List.mem_of_getElem? (i := 1) rfl
theorem ft_X1_addDebt__X8_isPair : mfit M_X1_addDebt M_X8_isPair := ⟨by decide, by decide⟩
theorem lk_X1_43 : Cond.methodLinkNest RX1 43 yX8_within RX8 ∈ mNW := List.mem_of_getElem? (i := 2) rfl
theorem ft_X1_addDebt__X8_within : mfit M_X1_addDebt M_X8_within := ⟨by decide, by decide⟩
theorem sp_999 : (Int16.ofInt 999).toInt32 = Int32.ofInt 999 := by decide
theorem lk_X9_260 : Cond.methodLink RX9 260 yX9_isSheet ∈ TBL := tb_in 1049 (by decide +kernel) rfl
theorem cs_X9_isSheet : mcs M_X9_isSheet 2 := ⟨tb_in 1051 (by decide +kernel) rfl, tb_in 46 (by decide +kernel) rfl, tb_in 1050 (by decide +kernel) rfl, ⟨by decide, by decide, by decide +kernel⟩⟩
theorem ft_X9_owes__X9_isSheet : mfit M_X9_owes M_X9_isSheet := ⟨by decide, by decide⟩
theorem ct_X9_267 : Cond.constantLong RX9 267 6 ∈ TBL := tb_in 1068 (by decide +kernel) rfl
theorem ft_X9_owes__X9_in : mfit M_X9_owes M_X9_in := ⟨by decide, by decide⟩
theorem lk_X9_263 : Cond.methodLink RX9 263 yX9_lacksRow ∈ TBL := tb_in 1060 (by decide +kernel) rfl
theorem cv_X9_lacksRow : mcv M_X9_lacksRow 4 := ⟨tb_in 1063 (by decide +kernel) rfl, tb_in 46 (by decide +kernel) rfl, tb_in 1062 (by decide +kernel) rfl, tb_in 35 (by decide +kernel) rfl, ⟨by decide, by decide, by decide +kernel⟩⟩
theorem ft_X9_owes__X9_lacksRow : mfit M_X9_owes M_X9_lacksRow := ⟨by decide, by decide⟩
theorem fd_X9_74 : mfd RX9 74 9 31 := ⟨RX9, TX9, 33, rfl, by decide, tbX9, tb_in 746 (by decide +kernel) rfl, rfl⟩
theorem fd_X9_71 : mfd RX9 71 9 30 := ⟨RX9, TX9, 33, rfl, by decide, tbX9, tb_in 745 (by decide +kernel) rfl, rfl⟩
theorem ft_X9_owes__X9_areTwo : mfit M_X9_owes M_X9_areTwo := ⟨by decide, by decide⟩
theorem ft_X9_isSheet__X9_in : mfit M_X9_isSheet M_X9_in := ⟨by decide, by decide⟩
theorem fd_X9_65 : mfd RX9 65 9 28 := ⟨RX9, TX9, 33, rfl, by decide, tbX9, tb_in 743 (by decide +kernel) rfl, rfl⟩
theorem fd_X9_68 : mfd RX9 68 9 29 := ⟨RX9, TX9, 33, rfl, by decide, tbX9, tb_in 744 (by decide +kernel) rfl, rfl⟩
theorem ft_X9_lacksRow__X9_in : mfit M_X9_lacksRow M_X9_in := ⟨by decide, by decide⟩
theorem ft_X8_film__X8_within : mfit M_X8_film M_X8_within := ⟨by decide, by decide⟩
theorem ft_X8_film__X3_find : mfit M_X8_film M_X3_find := ⟨by decide, by decide⟩
theorem ac_X8_239 : mcpC RX8 239 := ⟨tb_in 685 (by decide +kernel) rfl, tb_in 425 (by decide +kernel) rfl, tb_in 424 (by decide +kernel) rfl, tb_in 48 (by decide +kernel) rfl⟩
theorem ft_X9_film__X9_isSheet : mfit M_X9_film M_X9_isSheet := ⟨by decide, by decide⟩
theorem ft_X9_film__X9_lacksRow : mfit M_X9_film M_X9_lacksRow := ⟨by decide, by decide⟩
theorem ft_X8_sheet__X8_within : mfit M_X8_sheet M_X8_within := ⟨by decide, by decide⟩
theorem lk_X8_245 : Cond.methodLink RX8 245 yX3_lay ∈ TBL := tb_in 690 (by decide +kernel) rfl
theorem cv_X3_lay : mcv M_X3_lay 3 := ⟨tb_in 693 (by decide +kernel) rfl, tb_in 45 (by decide +kernel) rfl, tb_in 691 (by decide +kernel) rfl, tb_in 692 (by decide +kernel) rfl, ⟨by decide, by decide, by decide +kernel⟩⟩
theorem ft_X8_sheet__X3_lay : mfit M_X8_sheet M_X3_lay := ⟨by decide, by decide⟩
theorem bp_m14 : (Int8.ofInt (-14)).toInt32 = Int32.ofInt (-14) := by decide
theorem fd_X3_22 : mfd RX3 22 3 3 := ⟨RX3, TX3, 4, rfl, by decide, tbX3, tb_in 252 (by decide +kernel) rfl, rfl⟩
theorem ft_X9_sheet__X9_isSheet : mfit M_X9_sheet M_X9_isSheet := ⟨by decide, by decide⟩
theorem ft_X8_drop__X8_within : mfit M_X8_drop M_X8_within := ⟨by decide, by decide⟩
theorem fd_X8_249 : mfd RX8 249 3 0 := ⟨RX3, TX3, 4, rfl, by decide, tbX3, tb_in 247 (by decide +kernel) rfl, rfl⟩
theorem fd_X8_253 : mfd RX8 253 3 2 := ⟨RX3, TX3, 4, rfl, by decide, tbX3, tb_in 251 (by decide +kernel) rfl, rfl⟩
theorem ft_X9_drop__X9_in : mfit M_X9_drop M_X9_in := ⟨by decide, by decide⟩
theorem ft_X8_item__X8_within : mfit M_X8_item M_X8_within := ⟨by decide, by decide⟩
theorem ft_X8_item__X3_find : mfit M_X8_item M_X3_find := ⟨by decide, by decide⟩
theorem lk_X8_254 : Cond.methodLink RX8 254 yX8_cut ∈ TBL := tb_in 702 (by decide +kernel) rfl
theorem cs_X8_cut : mcs M_X8_cut 2 := ⟨tb_in 704 (by decide +kernel) rfl, tb_in 37 (by decide +kernel) rfl, tb_in 703 (by decide +kernel) rfl, ⟨by decide, by decide, by decide +kernel⟩⟩
theorem ft_X8_item__X8_cut : mfit M_X8_item M_X8_cut := ⟨by decide, by decide⟩
theorem ft_X9_item__X9_isSheet : mfit M_X9_item M_X9_isSheet := ⟨by decide, by decide⟩
theorem ft_X9_item__X9_lacksRow : mfit M_X9_item M_X9_lacksRow := ⟨by decide, by decide⟩
theorem ft_X8_copy__X8_within : mfit M_X8_copy M_X8_within := ⟨by decide, by decide⟩
theorem fd_X8_257 : mfd RX8 257 3 1 := ⟨RX3, TX3, 4, rfl, by decide, tbX3, tb_in 249 (by decide +kernel) rfl, rfl⟩
theorem ft_X8_copy__X3_find : mfit M_X8_copy M_X3_find := ⟨by decide, by decide⟩
theorem ft_X9_copy__X9_in : mfit M_X9_copy M_X9_in := ⟨by decide, by decide⟩
theorem fd_X9_77 : mfd RX9 77 9 32 := ⟨RX9, TX9, 33, rfl, by decide, tbX9, tb_in 747 (by decide +kernel) rfl, rfl⟩
