abbrev mX8_init : zM := (yX8_init, cX8_init, 2, none)
abbrev mX1_init : zM := (yX1_init, cX1_init, 1, none)
abbrev mX3_init : zM := (yX3_init, cX3_init, 1, none)
abbrev mX2_init : zM := (yX2_init, cX2_init, 1, none)
abbrev mX0_init : zM := (yX0_init, cX0_init, 2, none)
abbrev mX4_init : zM := (yX4_init, cX4_init, 1, none)
abbrev mX6_init : zM := (yX6_init, cX6_init, 1, none)
abbrev mX5_init : zM := (yX5_init, cX5_init, 1, none)
abbrev mX7_init : zM := (yX7_init, cX7_init, 1, none)
abbrev mX2_beginOn : zM := (yX2_beginOn, cX2_beginOn, 2, none)
abbrev mJ7_fill_53178 : zM := (yJ7_fill_53178, cJ7_fill_53178, 4, none)
abbrev mX8_type : zM := (yX8_type, cX8_type, 2, some .int)
abbrev mX8_clear : zM := (yX8_clear, cX8_clear, 2, some .int)
abbrev mX8_plate : zM := (yX8_plate, cX8_plate, 3, some .int)
abbrev mX3_read : zM := (yX3_read, cX3_read, 5, some .int)
abbrev mX1_wipe : zM := (yX1_wipe, cX1_wipe, 1, none)
abbrev mX3_readToken : zM := (yX3_readToken, cX3_readToken, 6, none)
abbrev mX3_isDigit : zM := (yX3_isDigit, cX3_isDigit, 1, some .boolean)
abbrev mX3_readNumber : zM := (yX3_readNumber, cX3_readNumber, 6, none)
abbrev mX3_takesToken : zM := (yX3_takesToken, cX3_takesToken, 2, some .boolean)
abbrev mX3_beginsItem : zM := (yX3_beginsItem, cX3_beginsItem, 2, some .boolean)
abbrev mX3_endsItem : zM := (yX3_endsItem, cX3_endsItem, 3, some .boolean)
abbrev mX3_endsRing : zM := (yX3_endsRing, cX3_endsRing, 2, some .boolean)
abbrev mX1_join : zM := (yX1_join, cX1_join, 3, some .boolean)
abbrev mX1_hasCorner : zM := (yX1_hasCorner, cX1_hasCorner, 2, some .boolean)
abbrev mX8_has : zM := (yX8_has, cX8_has, 2, some .boolean)
abbrev mX3_takesNumber : zM := (yX3_takesNumber, cX3_takesNumber, 2, some .boolean)
abbrev mX3_takesHeat : zM := (yX3_takesHeat, cX3_takesHeat, 2, some .boolean)
abbrev mX3_takesPlace : zM := (yX3_takesPlace, cX3_takesPlace, 2, some .boolean)
abbrev mX1_addCorner : zM := (yX1_addCorner, cX1_addCorner, 4, some .boolean)
abbrev mX3_takesRingCorner : zM := (yX3_takesRingCorner, cX3_takesRingCorner, 4, some .boolean)
abbrev mX3_takesSeamCorner : zM := (yX3_takesSeamCorner, cX3_takesSeamCorner, 2, some .boolean)
abbrev mX1_settle : zM := (yX1_settle, cX1_settle, 2, none)
abbrev mX1_numberCuts : zM := (yX1_numberCuts, cX1_numberCuts, 4, none)
abbrev mX1_cutsOfRing : zM := (yX1_cutsOfRing, cX1_cutsOfRing, 5, some .int)
abbrev mX1_nextInRing : zM := (yX1_nextInRing, cX1_nextInRing, 3, some .int)
abbrev mX1_cutBetween : zM := (yX1_cutBetween, cX1_cutBetween, 6, some .int)
abbrev mX1_partsAround : zM := (yX1_partsAround, cX1_partsAround, 4, some .int)
abbrev mX1_goesRound : zM := (yX1_goesRound, cX1_goesRound, 7, some .boolean)
abbrev mX1_liesOn : zM := (yX1_liesOn, cX1_liesOn, 4, some .boolean)
abbrev mX1_side : zM := (yX1_side, cX1_side, 4, some .int)
abbrev mX1_crossing : zM := (yX1_crossing, cX1_crossing, 4, some .int)
abbrev mX0_lose : zM := (yX0_lose, cX0_lose, 1, none)
abbrev mX7_lose : zM := (yX7_lose, cX7_lose, 1, none)
abbrev mX8_outdate : zM := (yX8_outdate, cX8_outdate, 1, none)
abbrev mX8_corner : zM := (yX8_corner, cX8_corner, 3, some .int)
abbrev mX1_cutsAt : zM := (yX1_cutsAt, cX1_cutsAt, 5, some .int)
abbrev mX8_cut : zM := (yX8_cut, cX8_cut, 3, some .int)
abbrev mX8_surveyed : zM := (yX8_surveyed, cX8_surveyed, 1, some (.object "TorchPlate$Survey"))
abbrev mX4_look : zM := (yX4_look, cX4_look, 4, none)
abbrev mX4_findPieces : zM := (yX4_findPieces, cX4_findPieces, 6, none)
abbrev mX6_lay : zM := (yX6_lay, cX6_lay, 4, none)
abbrev mX6_turn : zM := (yX6_turn, cX6_turn, 3, none)
abbrev mX6_reach : zM := (yX6_reach, cX6_reach, 7, some .int)
abbrev mX4_cutsAmong : zM := (yX4_cutsAmong, cX4_cutsAmong, 5, some .int)
abbrev mX4_oddAmong : zM := (yX4_oddAmong, cX4_oddAmong, 4, some .int)
abbrev mJ6_bitCount_0f7a4 : zM := (yJ6_bitCount_0f7a4, cJ6_bitCount_0f7a4, 1, some .int)
abbrev mX4_leastPairs : zM := (yX4_leastPairs, cX4_leastPairs, 8, some .int)
abbrev mJ6_numberOfTrailingZeros_0f7a4 : zM := (yJ6_numberOfTrailingZeros_0f7a4, cJ6_numberOfTrailingZeros_0f7a4, 2, some .int)
abbrev mX1_way : zM := (yX1_way, cX1_way, 3, some .int)
abbrev mX4_pairUp : zM := (yX4_pairUp, cX4_pairUp, 11, none)
abbrev mX4_piecesAhead : zM := (yX4_piecesAhead, cX4_piecesAhead, 6, some .int)
abbrev mX4_partsIn : zM := (yX4_partsIn, cX4_partsIn, 5, some .int)
abbrev mX4_isAnyWithin : zM := (yX4_isAnyWithin, cX4_isAnyWithin, 4, some .boolean)
abbrev mX4_findTour : zM := (yX4_findTour, cX4_findTour, 9, none)
abbrev mX4_leastTour : zM := (yX4_leastTour, cX4_leastTour, 9, some .int)
abbrev mX4_mayBeNext : zM := (yX4_mayBeNext, cX4_mayBeNext, 3, some .boolean)
abbrev mX4_pieceOf : zM := (yX4_pieceOf, cX4_pieceOf, 3, some .int)
abbrev mX8_part : zM := (yX8_part, cX8_part, 3, some .int)
abbrev mX8_burns : zM := (yX8_burns, cX8_burns, 2, some .int)
abbrev mX8_burnTo : zM := (yX8_burnTo, cX8_burnTo, 3, some .boolean)
abbrev mX2_mayLose : zM := (yX2_mayLose, cX2_mayLose, 6, some .boolean)
abbrev mX0_remember : zM := (yX0_remember, cX0_remember, 2, none)
abbrev mX2_become : zM := (yX2_become, cX2_become, 2, none)
abbrev mX2_burn : zM := (yX2_burn, cX2_burn, 5, none)
abbrev mX2_beginOfBurn : zM := (yX2_beginOfBurn, cX2_beginOfBurn, 4, some .int)
abbrev mX2_coolAt : zM := (yX2_coolAt, cX2_coolAt, 3, some .int)
abbrev mX8_moves : zM := (yX8_moves, cX8_moves, 2, some .int)
abbrev mX8_moveTo : zM := (yX8_moveTo, cX8_moveTo, 2, none)
abbrev mX2_move : zM := (yX2_move, cX2_move, 3, none)
abbrev mX8_follows : zM := (yX8_follows, cX8_follows, 4, some .int)
abbrev mX4_startOf : zM := (yX4_startOf, cX4_startOf, 2, some .int)
abbrev mX4_hasPiece : zM := (yX4_hasPiece, cX4_hasPiece, 2, some .boolean)
abbrev mX5_go : zM := (yX5_go, cX5_go, 6, none)
abbrev mX5_layOut : zM := (yX5_layOut, cX5_layOut, 5, none)
abbrev mX4_stepsOf : zM := (yX4_stepsOf, cX4_stepsOf, 2, some .int)
abbrev mX5_takesStep : zM := (yX5_takesStep, cX5_takesStep, 3, some .boolean)
abbrev mX5_takesTie : zM := (yX5_takesTie, cX5_takesTie, 4, some .boolean)
abbrev mX6_allReachedFrom : zM := (yX6_allReachedFrom, cX6_allReachedFrom, 4, some .boolean)
abbrev mX5_notes : zM := (yX5_notes, cX5_notes, 3, some .boolean)
abbrev mX8_undo : zM := (yX8_undo, cX8_undo, 1, some .int)
abbrev mX0_restore : zM := (yX0_restore, cX0_restore, 2, some .boolean)
abbrev mX8_piece : zM := (yX8_piece, cX8_piece, 4, some .int)
abbrev mX8_link : zM := (yX8_link, cX8_link, 2, some .int)
abbrev mX8_round : zM := (yX8_round, cX8_round, 5, some .int)
abbrev mX8_tour : zM := (yX8_tour, cX8_tour, 3, some .int)
abbrev mX4_idle : zM := (yX4_idle, cX4_idle, 3, some .int)
abbrev mX8_sees : zM := (yX8_sees, cX8_sees, 4, some .int)
abbrev mX7_add : zM := (yX7_add, cX7_add, 4, some .boolean)
abbrev mX8_forget : zM := (yX8_forget, cX8_forget, 2, some .int)
abbrev mX8_unseen : zM := (yX8_unseen, cX8_unseen, 1, some .int)
abbrev mX7_suspects : zM := (yX7_suspects, cX7_suspects, 5, some .int)
abbrev mX7_allIsAsSeen : zM := (yX7_allIsAsSeen, cX7_allIsAsSeen, 3, some .boolean)
abbrev mX8_ask : zM := (yX8_ask, cX8_ask, 1, some .int)
abbrev mX7_bestQuestion : zM := (yX7_bestQuestion, cX7_bestQuestion, 11, some .int)
abbrev mX7_tallyPairs : zM := (yX7_tallyPairs, cX7_tallyPairs, 6, none)
abbrev mX7_countReached : zM := (yX7_countReached, cX7_countReached, 5, none)
abbrev mX8_keep : zM := (yX8_keep, cX8_keep, 2, some .int)
abbrev mX8_back : zM := (yX8_back, cX8_back, 2, some .int)
abbrev mX8_count : zM := (yX8_count, cX8_count, 2, some .int)
abbrev mX9_init : zM := (yX9_init, cX9_init, 1, none)
abbrev mX9_begins : zM := (yX9_begins, cX9_begins, 2, none)
abbrev mX9_settles : zM := (yX9_settles, cX9_settles, 3, none)
abbrev mX9_isWithin : zM := (yX9_isWithin, cX9_isWithin, 10, some .boolean)
abbrev mX9_ringAt : zM := (yX9_ringAt, cX9_ringAt, 3, some .int)
abbrev mX9_isOn : zM := (yX9_isOn, cX9_isOn, 6, some .boolean)
abbrev mX9_in : zM := (yX9_in, cX9_in, 3, some .boolean)
abbrev mX9_side : zM := (yX9_side, cX9_side, 4, some .int)
abbrev mX9_type : zM := (yX9_type, cX9_type, 2, some .int)
abbrev mX9_clear : zM := (yX9_clear, cX9_clear, 2, some .int)
abbrev mX9_plate : zM := (yX9_plate, cX9_plate, 3, some .int)
abbrev mX9_advances : zM := (yX9_advances, cX9_advances, 2, none)
abbrev mX9_letterAt : zM := (yX9_letterAt, cX9_letterAt, 2, some .int)
abbrev mX9_isWell : zM := (yX9_isWell, cX9_isWell, 1, some .boolean)
abbrev mX9_mayBegin : zM := (yX9_mayBegin, cX9_mayBegin, 1, some .boolean)
abbrev mX9_takes : zM := (yX9_takes, cX9_takes, 3, some .int)
abbrev mX9_readsItem : zM := (yX9_readsItem, cX9_readsItem, 2, none)
abbrev mX9_isNumber : zM := (yX9_isNumber, cX9_isNumber, 3, some .boolean)
abbrev mX9_readsCorner : zM := (yX9_readsCorner, cX9_readsCorner, 3, none)
abbrev mX9_isFreeAt : zM := (yX9_isFreeAt, cX9_isFreeAt, 5, some .boolean)
abbrev mX9_readsPart : zM := (yX9_readsPart, cX9_readsPart, 7, none)
abbrev mX9_isCorner : zM := (yX9_isCorner, cX9_isCorner, 1, some .boolean)
abbrev mX9_has : zM := (yX9_has, cX9_has, 2, some .boolean)
abbrev mX9_hasRoom : zM := (yX9_hasRoom, cX9_hasRoom, 3, some .boolean)
abbrev mX9_cutOf : zM := (yX9_cutOf, cX9_cutOf, 6, some .int)
abbrev mX9_cuts : zM := (yX9_cuts, cX9_cuts, 4, none)
abbrev mX9_readsSeam : zM := (yX9_readsSeam, cX9_readsSeam, 3, none)
abbrev mX9_sorts : zM := (yX9_sorts, cX9_sorts, 5, none)
abbrev mX9_corner : zM := (yX9_corner, cX9_corner, 3, some .int)
abbrev mX9_isCornerNow : zM := (yX9_isCornerNow, cX9_isCornerNow, 2, some .boolean)
abbrev mX9_endsAt : zM := (yX9_endsAt, cX9_endsAt, 5, some .int)
abbrev mX9_cut : zM := (yX9_cut, cX9_cut, 3, some .int)
abbrev mX9_pieces : zM := (yX9_pieces, cX9_pieces, 2, none)
abbrev mX9_roots : zM := (yX9_roots, cX9_roots, 7, none)
abbrev mX9_way : zM := (yX9_way, cX9_way, 5, some .int)
abbrev mX9_pieceOf : zM := (yX9_pieceOf, cX9_pieceOf, 3, some .int)
abbrev mX9_part : zM := (yX9_part, cX9_part, 3, some .int)
abbrev mX9_cutsOfPart : zM := (yX9_cutsOfPart, cX9_cutsOfPart, 4, some .int)
abbrev mX9_ones : zM := (yX9_ones, cX9_ones, 3, some .int)
abbrev mX9_burns : zM := (yX9_burns, cX9_burns, 2, some .int)
abbrev mX9_mayBurn : zM := (yX9_mayBurn, cX9_mayBurn, 3, some .boolean)
abbrev mX9_wouldFall : zM := (yX9_wouldFall, cX9_wouldFall, 5, some .boolean)
abbrev mX9_burn : zM := (yX9_burn, cX9_burn, 4, some .int)
abbrev mX9_notes : zM := (yX9_notes, cX9_notes, 2, none)
abbrev mX9_beginsAt : zM := (yX9_beginsAt, cX9_beginsAt, 8, some .int)
abbrev mX9_isCool : zM := (yX9_isCool, cX9_isCool, 3, some .boolean)
abbrev mX9_moves : zM := (yX9_moves, cX9_moves, 2, some .int)
abbrev mX9_move : zM := (yX9_move, cX9_move, 2, some .int)
abbrev mX9_follows : zM := (yX9_follows, cX9_follows, 3, some .int)
abbrev mX9_tours : zM := (yX9_tours, cX9_tours, 11, some .boolean)
abbrev mX9_aheadOf : zM := (yX9_aheadOf, cX9_aheadOf, 6, some .int)
abbrev mX9_cutsOf : zM := (yX9_cutsOf, cX9_cutsOf, 4, some .int)
abbrev mX9_startOf : zM := (yX9_startOf, cX9_startOf, 3, some .int)
abbrev mX9_rounds : zM := (yX9_rounds, cX9_rounds, 7, some .int)
abbrev mX9_links : zM := (yX9_links, cX9_links, 6, some .int)
abbrev mX9_oddOf : zM := (yX9_oddOf, cX9_oddOf, 4, some .int)
abbrev mX9_pairs : zM := (yX9_pairs, cX9_pairs, 6, none)
abbrev mX9_lowest : zM := (yX9_lowest, cX9_lowest, 2, some .int)
abbrev mX9_opens : zM := (yX9_opens, cX9_opens, 4, none)
abbrev mX9_goesOn : zM := (yX9_goesOn, cX9_goesOn, 4, some .boolean)
abbrev mX9_isOpen : zM := (yX9_isOpen, cX9_isOpen, 4, some .boolean)
abbrev mX9_shuts : zM := (yX9_shuts, cX9_shuts, 4, none)
abbrev mX9_isAllFrom : zM := (yX9_isAllFrom, cX9_isAllFrom, 6, some .boolean)
abbrev mX9_undo : zM := (yX9_undo, cX9_undo, 2, some .int)
abbrev mX9_link : zM := (yX9_link, cX9_link, 4, some .int)
abbrev mX9_piece : zM := (yX9_piece, cX9_piece, 3, some .int)
abbrev mX9_round : zM := (yX9_round, cX9_round, 4, some .int)
abbrev mX9_tour : zM := (yX9_tour, cX9_tour, 4, some .int)
abbrev mX9_sees : zM := (yX9_sees, cX9_sees, 4, some .int)
abbrev mX9_forget : zM := (yX9_forget, cX9_forget, 2, some .int)
abbrev mX9_unseen : zM := (yX9_unseen, cX9_unseen, 1, some .int)
abbrev mX9_unseenSet : zM := (yX9_unseenSet, cX9_unseenSet, 5, some .int)
abbrev mX9_ask : zM := (yX9_ask, cX9_ask, 9, some .int)
abbrev mX9_keep : zM := (yX9_keep, cX9_keep, 3, some .int)
abbrev mX9_back : zM := (yX9_back, cX9_back, 3, some .int)
abbrev mX9_count : zM := (yX9_count, cX9_count, 2, some .int)
theorem zt_1_185 : (Jvm.Cond.laysFinal "TorchPlate$Past" "TorchPlate$Past" "rows" "[LTorchPlate$Plight;") ∈ wsL_law := z_in1 (List.mem_of_getElem? (i := 185) rfl) rfl
theorem zt_1_187 : (Jvm.Cond.lays "TorchPlate$Past" "TorchPlate$Past" "next" "I") ∈ wsL_law := z_in1 (List.mem_of_getElem? (i := 187) rfl) rfl
theorem zt_1_189 : (Jvm.Cond.lays "TorchPlate$Past" "TorchPlate$Past" "size" "I") ∈ wsL_law := z_in1 (List.mem_of_getElem? (i := 189) rfl) rfl
theorem inlX0 : ∀ w ∈ u_ws RX0 TX0 3, w ∈ wsL_law := show ∀ w ∈ [u_lay RX0 TX0 0, u_lay RX0 TX0 1, u_lay RX0 TX0 2], w ∈ wsL_law from List.forall_mem_cons.mpr ⟨zt_1_185, List.forall_mem_cons.mpr ⟨zt_1_187, List.forall_mem_cons.mpr ⟨zt_1_189, fun _ h => absurd h List.not_mem_nil⟩⟩⟩
theorem zt_1_80 : (Jvm.Cond.lays "TorchPlate$Plate" "TorchPlate$Plate" "corners" "I") ∈ wsL_law := z_in1 (List.mem_of_getElem? (i := 80) rfl) rfl
theorem zt_1_82 : (Jvm.Cond.laysFinal "TorchPlate$Plate" "TorchPlate$Plate" "x" "[I") ∈ wsL_law := z_in1 (List.mem_of_getElem? (i := 82) rfl) rfl
theorem zt_1_84 : (Jvm.Cond.laysFinal "TorchPlate$Plate" "TorchPlate$Plate" "y" "[I") ∈ wsL_law := z_in1 (List.mem_of_getElem? (i := 84) rfl) rfl
theorem zt_1_86 : (Jvm.Cond.laysFinal "TorchPlate$Plate" "TorchPlate$Plate" "joined" "[I") ∈ wsL_law := z_in1 (List.mem_of_getElem? (i := 86) rfl) rfl
theorem zt_1_88 : (Jvm.Cond.lays "TorchPlate$Plate" "TorchPlate$Plate" "cuts" "I") ∈ wsL_law := z_in1 (List.mem_of_getElem? (i := 88) rfl) rfl
theorem zt_1_90 : (Jvm.Cond.laysFinal "TorchPlate$Plate" "TorchPlate$Plate" "low" "[I") ∈ wsL_law := z_in1 (List.mem_of_getElem? (i := 90) rfl) rfl
theorem zt_1_92 : (Jvm.Cond.laysFinal "TorchPlate$Plate" "TorchPlate$Plate" "high" "[I") ∈ wsL_law := z_in1 (List.mem_of_getElem? (i := 92) rfl) rfl
theorem zt_1_94 : (Jvm.Cond.lays "TorchPlate$Plate" "TorchPlate$Plate" "parts" "I") ∈ wsL_law := z_in1 (List.mem_of_getElem? (i := 94) rfl) rfl
theorem zt_1_96 : (Jvm.Cond.laysFinal "TorchPlate$Plate" "TorchPlate$Plate" "ringSize" "[I") ∈ wsL_law := z_in1 (List.mem_of_getElem? (i := 96) rfl) rfl
theorem zt_1_98 : (Jvm.Cond.laysFinal "TorchPlate$Plate" "TorchPlate$Plate" "ring" "[[I") ∈ wsL_law := z_in1 (List.mem_of_getElem? (i := 98) rfl) rfl
theorem zt_1_100 : (Jvm.Cond.laysFinal "TorchPlate$Plate" "TorchPlate$Plate" "ringCuts" "[I") ∈ wsL_law := z_in1 (List.mem_of_getElem? (i := 100) rfl) rfl
theorem zt_1_102 : (Jvm.Cond.laysFinal "TorchPlate$Plate" "TorchPlate$Plate" "within" "[I") ∈ wsL_law := z_in1 (List.mem_of_getElem? (i := 102) rfl) rfl
theorem zt_1_104 : (Jvm.Cond.lays "TorchPlate$Plate" "TorchPlate$Plate" "heat" "I") ∈ wsL_law := z_in1 (List.mem_of_getElem? (i := 104) rfl) rfl
theorem zt_1_106 : (Jvm.Cond.lays "TorchPlate$Plate" "TorchPlate$Plate" "items" "I") ∈ wsL_law := z_in1 (List.mem_of_getElem? (i := 106) rfl) rfl
theorem inlX1 : ∀ w ∈ u_ws RX1 TX1 14, w ∈ wsL_law := show ∀ w ∈ [u_lay RX1 TX1 0, u_lay RX1 TX1 1, u_lay RX1 TX1 2, u_lay RX1 TX1 3, u_lay RX1 TX1 4, u_lay RX1 TX1 5, u_lay RX1 TX1 6, u_lay RX1 TX1 7, u_lay RX1 TX1 8, u_lay RX1 TX1 9, u_lay RX1 TX1 10, u_lay RX1 TX1 11, u_lay RX1 TX1 12, u_lay RX1 TX1 13], w ∈ wsL_law from List.forall_mem_cons.mpr ⟨zt_1_80, List.forall_mem_cons.mpr ⟨zt_1_82, List.forall_mem_cons.mpr ⟨zt_1_84, List.forall_mem_cons.mpr ⟨zt_1_86, List.forall_mem_cons.mpr ⟨zt_1_88, List.forall_mem_cons.mpr ⟨zt_1_90, List.forall_mem_cons.mpr ⟨zt_1_92, List.forall_mem_cons.mpr ⟨zt_1_94, List.forall_mem_cons.mpr ⟨zt_1_96, List.forall_mem_cons.mpr ⟨zt_1_98, List.forall_mem_cons.mpr ⟨zt_1_100, List.forall_mem_cons.mpr ⟨zt_1_102, List.forall_mem_cons.mpr ⟨zt_1_104, List.forall_mem_cons.mpr ⟨zt_1_106, fun _ h => absurd h List.not_mem_nil⟩⟩⟩⟩⟩⟩⟩⟩⟩⟩⟩⟩⟩⟩
theorem zt_1_161 : (Jvm.Cond.lays "TorchPlate$Plight" "TorchPlate$Plight" "left" "I") ∈ wsL_law := z_in1 (List.mem_of_getElem? (i := 161) rfl) rfl
theorem zt_1_163 : (Jvm.Cond.lays "TorchPlate$Plight" "TorchPlate$Plight" "torch" "I") ∈ wsL_law := z_in1 (List.mem_of_getElem? (i := 163) rfl) rfl
theorem zt_1_165 : (Jvm.Cond.lays "TorchPlate$Plight" "TorchPlate$Plight" "time" "I") ∈ wsL_law := z_in1 (List.mem_of_getElem? (i := 165) rfl) rfl
theorem zt_1_167 : (Jvm.Cond.lays "TorchPlate$Plight" "TorchPlate$Plight" "justEnded" "Z") ∈ wsL_law := z_in1 (List.mem_of_getElem? (i := 167) rfl) rfl
theorem zt_1_169 : (Jvm.Cond.laysFinal "TorchPlate$Plight" "TorchPlate$Plight" "burntAt" "[I") ∈ wsL_law := z_in1 (List.mem_of_getElem? (i := 169) rfl) rfl
theorem inlX2 : ∀ w ∈ u_ws RX2 TX2 5, w ∈ wsL_law := show ∀ w ∈ [u_lay RX2 TX2 0, u_lay RX2 TX2 1, u_lay RX2 TX2 2, u_lay RX2 TX2 3, u_lay RX2 TX2 4], w ∈ wsL_law from List.forall_mem_cons.mpr ⟨zt_1_161, List.forall_mem_cons.mpr ⟨zt_1_163, List.forall_mem_cons.mpr ⟨zt_1_165, List.forall_mem_cons.mpr ⟨zt_1_167, List.forall_mem_cons.mpr ⟨zt_1_169, fun _ h => absurd h List.not_mem_nil⟩⟩⟩⟩⟩
theorem zt_1_125 : (Jvm.Cond.lays "TorchPlate$Reader" "TorchPlate$Reader" "place" "I") ∈ wsL_law := z_in1 (List.mem_of_getElem? (i := 125) rfl) rfl
theorem zt_1_127 : (Jvm.Cond.lays "TorchPlate$Reader" "TorchPlate$Reader" "next" "I") ∈ wsL_law := z_in1 (List.mem_of_getElem? (i := 127) rfl) rfl
theorem zt_1_129 : (Jvm.Cond.lays "TorchPlate$Reader" "TorchPlate$Reader" "token" "I") ∈ wsL_law := z_in1 (List.mem_of_getElem? (i := 129) rfl) rfl
theorem zt_1_131 : (Jvm.Cond.lays "TorchPlate$Reader" "TorchPlate$Reader" "value" "I") ∈ wsL_law := z_in1 (List.mem_of_getElem? (i := 131) rfl) rfl
theorem zt_1_133 : (Jvm.Cond.lays "TorchPlate$Reader" "TorchPlate$Reader" "item" "I") ∈ wsL_law := z_in1 (List.mem_of_getElem? (i := 133) rfl) rfl
theorem zt_1_135 : (Jvm.Cond.lays "TorchPlate$Reader" "TorchPlate$Reader" "told" "I") ∈ wsL_law := z_in1 (List.mem_of_getElem? (i := 135) rfl) rfl
theorem zt_1_137 : (Jvm.Cond.lays "TorchPlate$Reader" "TorchPlate$Reader" "first" "I") ∈ wsL_law := z_in1 (List.mem_of_getElem? (i := 137) rfl) rfl
theorem zt_1_139 : (Jvm.Cond.lays "TorchPlate$Reader" "TorchPlate$Reader" "last" "I") ∈ wsL_law := z_in1 (List.mem_of_getElem? (i := 139) rfl) rfl
theorem zt_1_141 : (Jvm.Cond.lays "TorchPlate$Reader" "TorchPlate$Reader" "heatTold" "Z") ∈ wsL_law := z_in1 (List.mem_of_getElem? (i := 141) rfl) rfl
theorem inlX3 : ∀ w ∈ u_ws RX3 TX3 9, w ∈ wsL_law := show ∀ w ∈ [u_lay RX3 TX3 0, u_lay RX3 TX3 1, u_lay RX3 TX3 2, u_lay RX3 TX3 3, u_lay RX3 TX3 4, u_lay RX3 TX3 5, u_lay RX3 TX3 6, u_lay RX3 TX3 7, u_lay RX3 TX3 8], w ∈ wsL_law from List.forall_mem_cons.mpr ⟨zt_1_125, List.forall_mem_cons.mpr ⟨zt_1_127, List.forall_mem_cons.mpr ⟨zt_1_129, List.forall_mem_cons.mpr ⟨zt_1_131, List.forall_mem_cons.mpr ⟨zt_1_133, List.forall_mem_cons.mpr ⟨zt_1_135, List.forall_mem_cons.mpr ⟨zt_1_137, List.forall_mem_cons.mpr ⟨zt_1_139, List.forall_mem_cons.mpr ⟨zt_1_141, fun _ h => absurd h List.not_mem_nil⟩⟩⟩⟩⟩⟩⟩⟩⟩
theorem zt_1_238 : (Jvm.Cond.lays "TorchPlate$Survey" "TorchPlate$Survey" "fresh" "Z") ∈ wsL_law := z_in1 (List.mem_of_getElem? (i := 238) rfl) rfl
theorem zt_2_0 : (Jvm.Cond.lays "TorchPlate$Survey" "TorchPlate$Survey" "pieces" "I") ∈ wsL_law := z_in2 (List.mem_of_getElem? (i := 0) rfl) rfl
theorem zt_2_2 : (Jvm.Cond.laysFinal "TorchPlate$Survey" "TorchPlate$Survey" "cuts" "[I") ∈ wsL_law := z_in2 (List.mem_of_getElem? (i := 2) rfl) rfl
theorem zt_2_4 : (Jvm.Cond.laysFinal "TorchPlate$Survey" "TorchPlate$Survey" "corners" "[I") ∈ wsL_law := z_in2 (List.mem_of_getElem? (i := 4) rfl) rfl
theorem zt_2_6 : (Jvm.Cond.laysFinal "TorchPlate$Survey" "TorchPlate$Survey" "odd" "[I") ∈ wsL_law := z_in2 (List.mem_of_getElem? (i := 6) rfl) rfl
theorem zt_2_8 : (Jvm.Cond.laysFinal "TorchPlate$Survey" "TorchPlate$Survey" "start" "[I") ∈ wsL_law := z_in2 (List.mem_of_getElem? (i := 8) rfl) rfl
theorem zt_2_10 : (Jvm.Cond.laysFinal "TorchPlate$Survey" "TorchPlate$Survey" "linkWay" "[I") ∈ wsL_law := z_in2 (List.mem_of_getElem? (i := 10) rfl) rfl
theorem zt_2_12 : (Jvm.Cond.laysFinal "TorchPlate$Survey" "TorchPlate$Survey" "ahead" "[I") ∈ wsL_law := z_in2 (List.mem_of_getElem? (i := 12) rfl) rfl
theorem zt_2_14 : (Jvm.Cond.laysFinal "TorchPlate$Survey" "TorchPlate$Survey" "partner" "[I") ∈ wsL_law := z_in2 (List.mem_of_getElem? (i := 14) rfl) rfl
theorem zt_2_16 : (Jvm.Cond.laysFinal "TorchPlate$Survey" "TorchPlate$Survey" "order" "[I") ∈ wsL_law := z_in2 (List.mem_of_getElem? (i := 16) rfl) rfl
theorem zt_2_18 : (Jvm.Cond.lays "TorchPlate$Survey" "TorchPlate$Survey" "tourWay" "I") ∈ wsL_law := z_in2 (List.mem_of_getElem? (i := 18) rfl) rfl
theorem zt_2_20 : (Jvm.Cond.laysFinal "TorchPlate$Survey" "TorchPlate$Survey" "web" "LTorchPlate$Web;") ∈ wsL_law := z_in2 (List.mem_of_getElem? (i := 20) rfl) rfl
theorem inlX4 : ∀ w ∈ u_ws RX4 TX4 12, w ∈ wsL_law := show ∀ w ∈ [u_lay RX4 TX4 0, u_lay RX4 TX4 1, u_lay RX4 TX4 2, u_lay RX4 TX4 3, u_lay RX4 TX4 4, u_lay RX4 TX4 5, u_lay RX4 TX4 6, u_lay RX4 TX4 7, u_lay RX4 TX4 8, u_lay RX4 TX4 9, u_lay RX4 TX4 10, u_lay RX4 TX4 11], w ∈ wsL_law from List.forall_mem_cons.mpr ⟨zt_1_238, List.forall_mem_cons.mpr ⟨zt_2_0, List.forall_mem_cons.mpr ⟨zt_2_2, List.forall_mem_cons.mpr ⟨zt_2_4, List.forall_mem_cons.mpr ⟨zt_2_6, List.forall_mem_cons.mpr ⟨zt_2_8, List.forall_mem_cons.mpr ⟨zt_2_10, List.forall_mem_cons.mpr ⟨zt_2_12, List.forall_mem_cons.mpr ⟨zt_2_14, List.forall_mem_cons.mpr ⟨zt_2_16, List.forall_mem_cons.mpr ⟨zt_2_18, List.forall_mem_cons.mpr ⟨zt_2_20, fun _ h => absurd h List.not_mem_nil⟩⟩⟩⟩⟩⟩⟩⟩⟩⟩⟩⟩
theorem zt_2_40 : (Jvm.Cond.lays "TorchPlate$Walk" "TorchPlate$Walk" "piece" "I") ∈ wsL_law := z_in2 (List.mem_of_getElem? (i := 40) rfl) rfl
theorem zt_2_42 : (Jvm.Cond.lays "TorchPlate$Walk" "TorchPlate$Walk" "steps" "I") ∈ wsL_law := z_in2 (List.mem_of_getElem? (i := 42) rfl) rfl
theorem zt_2_44 : (Jvm.Cond.laysFinal "TorchPlate$Walk" "TorchPlate$Walk" "to" "[I") ∈ wsL_law := z_in2 (List.mem_of_getElem? (i := 44) rfl) rfl
theorem zt_2_46 : (Jvm.Cond.laysFinal "TorchPlate$Walk" "TorchPlate$Walk" "byCut" "[I") ∈ wsL_law := z_in2 (List.mem_of_getElem? (i := 46) rfl) rfl
theorem zt_2_48 : (Jvm.Cond.laysFinal "TorchPlate$Walk" "TorchPlate$Walk" "web" "LTorchPlate$Web;") ∈ wsL_law := z_in2 (List.mem_of_getElem? (i := 48) rfl) rfl
theorem inlX5 : ∀ w ∈ u_ws RX5 TX5 5, w ∈ wsL_law := show ∀ w ∈ [u_lay RX5 TX5 0, u_lay RX5 TX5 1, u_lay RX5 TX5 2, u_lay RX5 TX5 3, u_lay RX5 TX5 4], w ∈ wsL_law from List.forall_mem_cons.mpr ⟨zt_2_40, List.forall_mem_cons.mpr ⟨zt_2_42, List.forall_mem_cons.mpr ⟨zt_2_44, List.forall_mem_cons.mpr ⟨zt_2_46, List.forall_mem_cons.mpr ⟨zt_2_48, fun _ h => absurd h List.not_mem_nil⟩⟩⟩⟩⟩
theorem zt_1_209 : (Jvm.Cond.laysFinal "TorchPlate$Web" "TorchPlate$Web" "cuts" "[I") ∈ wsL_law := z_in1 (List.mem_of_getElem? (i := 209) rfl) rfl
theorem zt_1_211 : (Jvm.Cond.laysFinal "TorchPlate$Web" "TorchPlate$Web" "links" "[I") ∈ wsL_law := z_in1 (List.mem_of_getElem? (i := 211) rfl) rfl
theorem inlX6 : ∀ w ∈ u_ws RX6 TX6 2, w ∈ wsL_law := show ∀ w ∈ [u_lay RX6 TX6 0, u_lay RX6 TX6 1], w ∈ wsL_law from List.forall_mem_cons.mpr ⟨zt_1_209, List.forall_mem_cons.mpr ⟨zt_1_211, fun _ h => absurd h List.not_mem_nil⟩⟩
theorem zt_2_66 : (Jvm.Cond.lays "TorchPlate$Witness" "TorchPlate$Witness" "size" "I") ∈ wsL_law := z_in2 (List.mem_of_getElem? (i := 66) rfl) rfl
theorem zt_2_68 : (Jvm.Cond.laysFinal "TorchPlate$Witness" "TorchPlate$Witness" "one" "[I") ∈ wsL_law := z_in2 (List.mem_of_getElem? (i := 68) rfl) rfl
theorem zt_2_70 : (Jvm.Cond.laysFinal "TorchPlate$Witness" "TorchPlate$Witness" "other" "[I") ∈ wsL_law := z_in2 (List.mem_of_getElem? (i := 70) rfl) rfl
theorem zt_2_72 : (Jvm.Cond.laysFinal "TorchPlate$Witness" "TorchPlate$Witness" "together" "[I") ∈ wsL_law := z_in2 (List.mem_of_getElem? (i := 72) rfl) rfl
theorem zt_2_74 : (Jvm.Cond.laysFinal "TorchPlate$Witness" "TorchPlate$Witness" "tally" "[I") ∈ wsL_law := z_in2 (List.mem_of_getElem? (i := 74) rfl) rfl
theorem zt_2_76 : (Jvm.Cond.laysFinal "TorchPlate$Witness" "TorchPlate$Witness" "web" "LTorchPlate$Web;") ∈ wsL_law := z_in2 (List.mem_of_getElem? (i := 76) rfl) rfl
theorem inlX7 : ∀ w ∈ u_ws RX7 TX7 6, w ∈ wsL_law := show ∀ w ∈ [u_lay RX7 TX7 0, u_lay RX7 TX7 1, u_lay RX7 TX7 2, u_lay RX7 TX7 3, u_lay RX7 TX7 4, u_lay RX7 TX7 5], w ∈ wsL_law from List.forall_mem_cons.mpr ⟨zt_2_66, List.forall_mem_cons.mpr ⟨zt_2_68, List.forall_mem_cons.mpr ⟨zt_2_70, List.forall_mem_cons.mpr ⟨zt_2_72, List.forall_mem_cons.mpr ⟨zt_2_74, List.forall_mem_cons.mpr ⟨zt_2_76, fun _ h => absurd h List.not_mem_nil⟩⟩⟩⟩⟩⟩
theorem zt_2_98 : (Jvm.Cond.laysFinal "TorchPlate" "TorchPlate" "letters" "[I") ∈ wsL_law := z_in2 (List.mem_of_getElem? (i := 98) rfl) rfl
theorem zt_2_100 : (Jvm.Cond.lays "TorchPlate" "TorchPlate" "length" "I") ∈ wsL_law := z_in2 (List.mem_of_getElem? (i := 100) rfl) rfl
theorem zt_2_102 : (Jvm.Cond.lays "TorchPlate" "TorchPlate" "plate" "LTorchPlate$Plate;") ∈ wsL_law := z_in2 (List.mem_of_getElem? (i := 102) rfl) rfl
theorem zt_2_104 : (Jvm.Cond.lays "TorchPlate" "TorchPlate" "draft" "LTorchPlate$Plate;") ∈ wsL_law := z_in2 (List.mem_of_getElem? (i := 104) rfl) rfl
theorem zt_2_106 : (Jvm.Cond.laysFinal "TorchPlate" "TorchPlate" "reader" "LTorchPlate$Reader;") ∈ wsL_law := z_in2 (List.mem_of_getElem? (i := 106) rfl) rfl
theorem zt_2_108 : (Jvm.Cond.laysFinal "TorchPlate" "TorchPlate" "now" "LTorchPlate$Plight;") ∈ wsL_law := z_in2 (List.mem_of_getElem? (i := 108) rfl) rfl
theorem zt_2_110 : (Jvm.Cond.laysFinal "TorchPlate" "TorchPlate" "past" "LTorchPlate$Past;") ∈ wsL_law := z_in2 (List.mem_of_getElem? (i := 110) rfl) rfl
theorem zt_2_112 : (Jvm.Cond.laysFinal "TorchPlate" "TorchPlate" "images" "[LTorchPlate$Plight;") ∈ wsL_law := z_in2 (List.mem_of_getElem? (i := 112) rfl) rfl
theorem zt_2_114 : (Jvm.Cond.lays "TorchPlate" "TorchPlate" "keptImages" "I") ∈ wsL_law := z_in2 (List.mem_of_getElem? (i := 114) rfl) rfl
theorem zt_2_116 : (Jvm.Cond.laysFinal "TorchPlate" "TorchPlate" "survey" "LTorchPlate$Survey;") ∈ wsL_law := z_in2 (List.mem_of_getElem? (i := 116) rfl) rfl
theorem zt_2_118 : (Jvm.Cond.laysFinal "TorchPlate" "TorchPlate" "walk" "LTorchPlate$Walk;") ∈ wsL_law := z_in2 (List.mem_of_getElem? (i := 118) rfl) rfl
theorem zt_2_120 : (Jvm.Cond.laysFinal "TorchPlate" "TorchPlate" "witness" "LTorchPlate$Witness;") ∈ wsL_law := z_in2 (List.mem_of_getElem? (i := 120) rfl) rfl
theorem inlX8 : ∀ w ∈ u_ws RX8 TX8 12, w ∈ wsL_law := show ∀ w ∈ [u_lay RX8 TX8 0, u_lay RX8 TX8 1, u_lay RX8 TX8 2, u_lay RX8 TX8 3, u_lay RX8 TX8 4, u_lay RX8 TX8 5, u_lay RX8 TX8 6, u_lay RX8 TX8 7, u_lay RX8 TX8 8, u_lay RX8 TX8 9, u_lay RX8 TX8 10, u_lay RX8 TX8 11], w ∈ wsL_law from List.forall_mem_cons.mpr ⟨zt_2_98, List.forall_mem_cons.mpr ⟨zt_2_100, List.forall_mem_cons.mpr ⟨zt_2_102, List.forall_mem_cons.mpr ⟨zt_2_104, List.forall_mem_cons.mpr ⟨zt_2_106, List.forall_mem_cons.mpr ⟨zt_2_108, List.forall_mem_cons.mpr ⟨zt_2_110, List.forall_mem_cons.mpr ⟨zt_2_112, List.forall_mem_cons.mpr ⟨zt_2_114, List.forall_mem_cons.mpr ⟨zt_2_116, List.forall_mem_cons.mpr ⟨zt_2_118, List.forall_mem_cons.mpr ⟨zt_2_120, fun _ h => absurd h List.not_mem_nil⟩⟩⟩⟩⟩⟩⟩⟩⟩⟩⟩⟩
theorem zt_4_151 : (Jvm.Cond.lays "TorchPlateModel" "TorchPlateModel" "thrown" "I") ∈ wsL_law := z_in4 (List.mem_of_getElem? (i := 151) rfl) rfl
theorem zt_4_153 : (Jvm.Cond.laysFinal "TorchPlateModel" "TorchPlateModel" "text" "[I") ∈ wsL_law := z_in4 (List.mem_of_getElem? (i := 153) rfl) rfl
theorem zt_4_155 : (Jvm.Cond.lays "TorchPlateModel" "TorchPlateModel" "typed" "I") ∈ wsL_law := z_in4 (List.mem_of_getElem? (i := 155) rfl) rfl
theorem zt_4_157 : (Jvm.Cond.lays "TorchPlateModel" "TorchPlateModel" "at" "I") ∈ wsL_law := z_in4 (List.mem_of_getElem? (i := 157) rfl) rfl
theorem zt_4_159 : (Jvm.Cond.lays "TorchPlateModel" "TorchPlateModel" "token" "I") ∈ wsL_law := z_in4 (List.mem_of_getElem? (i := 159) rfl) rfl
theorem zt_4_161 : (Jvm.Cond.lays "TorchPlateModel" "TorchPlateModel" "start" "I") ∈ wsL_law := z_in4 (List.mem_of_getElem? (i := 161) rfl) rfl
theorem zt_4_163 : (Jvm.Cond.lays "TorchPlateModel" "TorchPlateModel" "value" "I") ∈ wsL_law := z_in4 (List.mem_of_getElem? (i := 163) rfl) rfl
theorem zt_4_165 : (Jvm.Cond.lays "TorchPlateModel" "TorchPlateModel" "fault" "I") ∈ wsL_law := z_in4 (List.mem_of_getElem? (i := 165) rfl) rfl
theorem zt_4_167 : (Jvm.Cond.lays "TorchPlateModel" "TorchPlateModel" "heated" "Z") ∈ wsL_law := z_in4 (List.mem_of_getElem? (i := 167) rfl) rfl
theorem zt_4_169 : (Jvm.Cond.laysFinal "TorchPlateModel" "TorchPlateModel" "told" "[I") ∈ wsL_law := z_in4 (List.mem_of_getElem? (i := 169) rfl) rfl
theorem zt_4_171 : (Jvm.Cond.laysFinal "TorchPlateModel" "TorchPlateModel" "draft" "[I") ∈ wsL_law := z_in4 (List.mem_of_getElem? (i := 171) rfl) rfl
theorem zt_4_173 : (Jvm.Cond.laysFinal "TorchPlateModel" "TorchPlateModel" "s" "[I") ∈ wsL_law := z_in4 (List.mem_of_getElem? (i := 173) rfl) rfl
theorem zt_4_175 : (Jvm.Cond.laysFinal "TorchPlateModel" "TorchPlateModel" "undos" "[I") ∈ wsL_law := z_in4 (List.mem_of_getElem? (i := 175) rfl) rfl
theorem zt_4_177 : (Jvm.Cond.lays "TorchPlateModel" "TorchPlateModel" "undoMany" "I") ∈ wsL_law := z_in4 (List.mem_of_getElem? (i := 177) rfl) rfl
theorem zt_4_179 : (Jvm.Cond.laysFinal "TorchPlateModel" "TorchPlateModel" "kept" "[I") ∈ wsL_law := z_in4 (List.mem_of_getElem? (i := 179) rfl) rfl
theorem zt_4_181 : (Jvm.Cond.laysFinal "TorchPlateModel" "TorchPlateModel" "isKept" "[Z") ∈ wsL_law := z_in4 (List.mem_of_getElem? (i := 181) rfl) rfl
theorem zt_4_183 : (Jvm.Cond.laysFinal "TorchPlateModel" "TorchPlateModel" "seenA" "[I") ∈ wsL_law := z_in4 (List.mem_of_getElem? (i := 183) rfl) rfl
theorem zt_4_185 : (Jvm.Cond.laysFinal "TorchPlateModel" "TorchPlateModel" "seenB" "[I") ∈ wsL_law := z_in4 (List.mem_of_getElem? (i := 185) rfl) rfl
theorem zt_4_187 : (Jvm.Cond.laysFinal "TorchPlateModel" "TorchPlateModel" "seenIs" "[I") ∈ wsL_law := z_in4 (List.mem_of_getElem? (i := 187) rfl) rfl
theorem zt_4_189 : (Jvm.Cond.lays "TorchPlateModel" "TorchPlateModel" "seenMany" "I") ∈ wsL_law := z_in4 (List.mem_of_getElem? (i := 189) rfl) rfl
theorem zt_4_191 : (Jvm.Cond.laysFinal "TorchPlateModel" "TorchPlateModel" "inside" "[I") ∈ wsL_law := z_in4 (List.mem_of_getElem? (i := 191) rfl) rfl
theorem zt_4_193 : (Jvm.Cond.laysFinal "TorchPlateModel" "TorchPlateModel" "root" "[I") ∈ wsL_law := z_in4 (List.mem_of_getElem? (i := 193) rfl) rfl
theorem zt_4_195 : (Jvm.Cond.laysFinal "TorchPlateModel" "TorchPlateModel" "pieceRoot" "[I") ∈ wsL_law := z_in4 (List.mem_of_getElem? (i := 195) rfl) rfl
theorem zt_4_197 : (Jvm.Cond.lays "TorchPlateModel" "TorchPlateModel" "pieceMany" "I") ∈ wsL_law := z_in4 (List.mem_of_getElem? (i := 197) rfl) rfl
theorem zt_4_199 : (Jvm.Cond.laysFinal "TorchPlateModel" "TorchPlateModel" "mate" "[I") ∈ wsL_law := z_in4 (List.mem_of_getElem? (i := 199) rfl) rfl
theorem zt_4_201 : (Jvm.Cond.laysFinal "TorchPlateModel" "TorchPlateModel" "least" "[I") ∈ wsL_law := z_in4 (List.mem_of_getElem? (i := 201) rfl) rfl
theorem zt_4_203 : (Jvm.Cond.laysFinal "TorchPlateModel" "TorchPlateModel" "steps" "[I") ∈ wsL_law := z_in4 (List.mem_of_getElem? (i := 203) rfl) rfl
theorem zt_4_205 : (Jvm.Cond.laysFinal "TorchPlateModel" "TorchPlateModel" "stepCut" "[Z") ∈ wsL_law := z_in4 (List.mem_of_getElem? (i := 205) rfl) rfl
theorem zt_4_207 : (Jvm.Cond.lays "TorchPlateModel" "TorchPlateModel" "stepMany" "I") ∈ wsL_law := z_in4 (List.mem_of_getElem? (i := 207) rfl) rfl
theorem zt_4_209 : (Jvm.Cond.laysFinal "TorchPlateModel" "TorchPlateModel" "open" "[I") ∈ wsL_law := z_in4 (List.mem_of_getElem? (i := 209) rfl) rfl
theorem zt_4_211 : (Jvm.Cond.laysFinal "TorchPlateModel" "TorchPlateModel" "order" "[I") ∈ wsL_law := z_in4 (List.mem_of_getElem? (i := 211) rfl) rfl
theorem zt_4_213 : (Jvm.Cond.laysFinal "TorchPlateModel" "TorchPlateModel" "bestOrder" "[I") ∈ wsL_law := z_in4 (List.mem_of_getElem? (i := 213) rfl) rfl
theorem zt_4_215 : (Jvm.Cond.lays "TorchPlateModel" "TorchPlateModel" "tourWay" "I") ∈ wsL_law := z_in4 (List.mem_of_getElem? (i := 215) rfl) rfl
theorem zt_4_217 : (Jvm.Cond.laysFinal "TorchPlateModel" "TorchPlateModel" "by" "[I") ∈ wsL_law := z_in4 (List.mem_of_getElem? (i := 217) rfl) rfl
theorem inlX9 : ∀ w ∈ u_ws RX9 TX9 34, w ∈ wsL_law := show ∀ w ∈ [u_lay RX9 TX9 0, u_lay RX9 TX9 1, u_lay RX9 TX9 2, u_lay RX9 TX9 3, u_lay RX9 TX9 4, u_lay RX9 TX9 5, u_lay RX9 TX9 6, u_lay RX9 TX9 7, u_lay RX9 TX9 8, u_lay RX9 TX9 9, u_lay RX9 TX9 10, u_lay RX9 TX9 11, u_lay RX9 TX9 12, u_lay RX9 TX9 13, u_lay RX9 TX9 14, u_lay RX9 TX9 15, u_lay RX9 TX9 16, u_lay RX9 TX9 17, u_lay RX9 TX9 18, u_lay RX9 TX9 19, u_lay RX9 TX9 20, u_lay RX9 TX9 21, u_lay RX9 TX9 22, u_lay RX9 TX9 23, u_lay RX9 TX9 24, u_lay RX9 TX9 25, u_lay RX9 TX9 26, u_lay RX9 TX9 27, u_lay RX9 TX9 28, u_lay RX9 TX9 29, u_lay RX9 TX9 30, u_lay RX9 TX9 31, u_lay RX9 TX9 32, u_lay RX9 TX9 33], w ∈ wsL_law from List.forall_mem_cons.mpr ⟨zt_4_151, List.forall_mem_cons.mpr ⟨zt_4_153, List.forall_mem_cons.mpr ⟨zt_4_155, List.forall_mem_cons.mpr ⟨zt_4_157, List.forall_mem_cons.mpr ⟨zt_4_159, List.forall_mem_cons.mpr ⟨zt_4_161, List.forall_mem_cons.mpr ⟨zt_4_163, List.forall_mem_cons.mpr ⟨zt_4_165, List.forall_mem_cons.mpr ⟨zt_4_167, List.forall_mem_cons.mpr ⟨zt_4_169, List.forall_mem_cons.mpr ⟨zt_4_171, List.forall_mem_cons.mpr ⟨zt_4_173, List.forall_mem_cons.mpr ⟨zt_4_175, List.forall_mem_cons.mpr ⟨zt_4_177, List.forall_mem_cons.mpr ⟨zt_4_179, List.forall_mem_cons.mpr ⟨zt_4_181, List.forall_mem_cons.mpr ⟨zt_4_183, List.forall_mem_cons.mpr ⟨zt_4_185, List.forall_mem_cons.mpr ⟨zt_4_187, List.forall_mem_cons.mpr ⟨zt_4_189, List.forall_mem_cons.mpr ⟨zt_4_191, List.forall_mem_cons.mpr ⟨zt_4_193, List.forall_mem_cons.mpr ⟨zt_4_195, List.forall_mem_cons.mpr ⟨zt_4_197, List.forall_mem_cons.mpr ⟨zt_4_199, List.forall_mem_cons.mpr ⟨zt_4_201, List.forall_mem_cons.mpr ⟨zt_4_203, List.forall_mem_cons.mpr ⟨zt_4_205, List.forall_mem_cons.mpr ⟨zt_4_207, List.forall_mem_cons.mpr ⟨zt_4_209, List.forall_mem_cons.mpr ⟨zt_4_211, List.forall_mem_cons.mpr ⟨zt_4_213, List.forall_mem_cons.mpr ⟨zt_4_215, List.forall_mem_cons.mpr ⟨zt_4_217, fun _ h => absurd h List.not_mem_nil⟩⟩⟩⟩⟩⟩⟩⟩⟩⟩⟩⟩⟩⟩⟩⟩⟩⟩⟩⟩⟩⟩⟩⟩⟩⟩⟩⟩⟩⟩⟩⟩⟩⟩
theorem zt_1_181 : (Jvm.Cond.fieldLink "TorchPlate$Past" (11 : Nat) "TorchPlate$Past" "rows" "[LTorchPlate$Plight;") ∈ wsL_law := z_in1 (List.mem_of_getElem? (i := 181) rfl) rfl
theorem zf_X0_11 : z_F RX0 11 0 0 true := ⟨RX0, TX0, 3, rfl, by decide, zt_1_181, inlX0, tyX0_ok, nmX0, rfl⟩
theorem zt_1_182 : (Jvm.Cond.fieldLink "TorchPlate$Past" (17 : Nat) "TorchPlate$Past" "next" "I") ∈ wsL_law := z_in1 (List.mem_of_getElem? (i := 182) rfl) rfl
theorem zf_X0_17 : z_F RX0 17 0 1 false := ⟨RX0, TX0, 3, rfl, by decide, zt_1_182, inlX0, tyX0_ok, nmX0, rfl⟩
theorem zt_1_183 : (Jvm.Cond.fieldLink "TorchPlate$Past" (21 : Nat) "TorchPlate$Past" "size" "I") ∈ wsL_law := z_in1 (List.mem_of_getElem? (i := 183) rfl) rfl
theorem zf_X0_21 : z_F RX0 21 0 2 false := ⟨RX0, TX0, 3, rfl, by decide, zt_1_183, inlX0, tyX0_ok, nmX0, rfl⟩
theorem zt_1_31 : (Jvm.Cond.fieldLink "TorchPlate$Plate" (9 : Nat) "TorchPlate$Plate" "corners" "I") ∈ wsL_law := z_in1 (List.mem_of_getElem? (i := 31) rfl) rfl
theorem zf_X1_9 : z_F RX1 9 1 0 false := ⟨RX1, TX1, 14, rfl, by decide, zt_1_31, inlX1, tyX1_ok, nmX1, rfl⟩
theorem zt_1_37 : (Jvm.Cond.fieldLink "TorchPlate$Plate" (15 : Nat) "TorchPlate$Plate" "x" "[I") ∈ wsL_law := z_in1 (List.mem_of_getElem? (i := 37) rfl) rfl
theorem zf_X1_15 : z_F RX1 15 1 1 true := ⟨RX1, TX1, 14, rfl, by decide, zt_1_37, inlX1, tyX1_ok, nmX1, rfl⟩
theorem zt_1_39 : (Jvm.Cond.fieldLink "TorchPlate$Plate" (19 : Nat) "TorchPlate$Plate" "y" "[I") ∈ wsL_law := z_in1 (List.mem_of_getElem? (i := 39) rfl) rfl
theorem zf_X1_19 : z_F RX1 19 1 2 true := ⟨RX1, TX1, 14, rfl, by decide, zt_1_39, inlX1, tyX1_ok, nmX1, rfl⟩
theorem zt_1_41 : (Jvm.Cond.fieldLink "TorchPlate$Plate" (22 : Nat) "TorchPlate$Plate" "joined" "[I") ∈ wsL_law := z_in1 (List.mem_of_getElem? (i := 41) rfl) rfl
theorem zf_X1_22 : z_F RX1 22 1 3 true := ⟨RX1, TX1, 14, rfl, by decide, zt_1_41, inlX1, tyX1_ok, nmX1, rfl⟩
theorem zt_1_42 : (Jvm.Cond.fieldLink "TorchPlate$Plate" (25 : Nat) "TorchPlate$Plate" "cuts" "I") ∈ wsL_law := z_in1 (List.mem_of_getElem? (i := 42) rfl) rfl
theorem zf_X1_25 : z_F RX1 25 1 4 false := ⟨RX1, TX1, 14, rfl, by decide, zt_1_42, inlX1, tyX1_ok, nmX1, rfl⟩
theorem zt_1_48 : (Jvm.Cond.fieldLink "TorchPlate$Plate" (28 : Nat) "TorchPlate$Plate" "low" "[I") ∈ wsL_law := z_in1 (List.mem_of_getElem? (i := 48) rfl) rfl
theorem zf_X1_28 : z_F RX1 28 1 5 true := ⟨RX1, TX1, 14, rfl, by decide, zt_1_48, inlX1, tyX1_ok, nmX1, rfl⟩
theorem zt_1_52 : (Jvm.Cond.fieldLink "TorchPlate$Plate" (31 : Nat) "TorchPlate$Plate" "high" "[I") ∈ wsL_law := z_in1 (List.mem_of_getElem? (i := 52) rfl) rfl
theorem zf_X1_31 : z_F RX1 31 1 6 true := ⟨RX1, TX1, 14, rfl, by decide, zt_1_52, inlX1, tyX1_ok, nmX1, rfl⟩
theorem zt_1_55 : (Jvm.Cond.fieldLink "TorchPlate$Plate" (34 : Nat) "TorchPlate$Plate" "parts" "I") ∈ wsL_law := z_in1 (List.mem_of_getElem? (i := 55) rfl) rfl
theorem zf_X1_34 : z_F RX1 34 1 7 false := ⟨RX1, TX1, 14, rfl, by decide, zt_1_55, inlX1, tyX1_ok, nmX1, rfl⟩
theorem zt_1_60 : (Jvm.Cond.fieldLink "TorchPlate$Plate" (37 : Nat) "TorchPlate$Plate" "ringSize" "[I") ∈ wsL_law := z_in1 (List.mem_of_getElem? (i := 60) rfl) rfl
theorem zf_X1_37 : z_F RX1 37 1 8 true := ⟨RX1, TX1, 14, rfl, by decide, zt_1_60, inlX1, tyX1_ok, nmX1, rfl⟩
theorem zt_1_63 : (Jvm.Cond.fieldLink "TorchPlate$Plate" (42 : Nat) "TorchPlate$Plate" "ring" "[[I") ∈ wsL_law := z_in1 (List.mem_of_getElem? (i := 63) rfl) rfl
theorem zf_X1_42 : z_F RX1 42 1 9 true := ⟨RX1, TX1, 14, rfl, by decide, zt_1_63, inlX1, tyX1_ok, nmX1, rfl⟩
theorem zt_1_65 : (Jvm.Cond.fieldLink "TorchPlate$Plate" (45 : Nat) "TorchPlate$Plate" "ringCuts" "[I") ∈ wsL_law := z_in1 (List.mem_of_getElem? (i := 65) rfl) rfl
theorem zf_X1_45 : z_F RX1 45 1 10 true := ⟨RX1, TX1, 14, rfl, by decide, zt_1_65, inlX1, tyX1_ok, nmX1, rfl⟩
theorem zt_1_69 : (Jvm.Cond.fieldLink "TorchPlate$Plate" (48 : Nat) "TorchPlate$Plate" "within" "[I") ∈ wsL_law := z_in1 (List.mem_of_getElem? (i := 69) rfl) rfl
theorem zf_X1_48 : z_F RX1 48 1 11 true := ⟨RX1, TX1, 14, rfl, by decide, zt_1_69, inlX1, tyX1_ok, nmX1, rfl⟩
theorem zt_1_73 : (Jvm.Cond.fieldLink "TorchPlate$Plate" (51 : Nat) "TorchPlate$Plate" "heat" "I") ∈ wsL_law := z_in1 (List.mem_of_getElem? (i := 73) rfl) rfl
theorem zf_X1_51 : z_F RX1 51 1 12 false := ⟨RX1, TX1, 14, rfl, by decide, zt_1_73, inlX1, tyX1_ok, nmX1, rfl⟩
theorem zt_1_77 : (Jvm.Cond.fieldLink "TorchPlate$Plate" (54 : Nat) "TorchPlate$Plate" "items" "I") ∈ wsL_law := z_in1 (List.mem_of_getElem? (i := 77) rfl) rfl
theorem zf_X1_54 : z_F RX1 54 1 13 false := ⟨RX1, TX1, 14, rfl, by decide, zt_1_77, inlX1, tyX1_ok, nmX1, rfl⟩
theorem zt_1_150 : (Jvm.Cond.fieldLink "TorchPlate$Plight" (9 : Nat) "TorchPlate$Plight" "left" "I") ∈ wsL_law := z_in1 (List.mem_of_getElem? (i := 150) rfl) rfl
theorem zf_X2_9 : z_F RX2 9 2 0 false := ⟨RX2, TX2, 5, rfl, by decide, zt_1_150, inlX2, tyX2_ok, nmX2, rfl⟩
theorem zt_1_153 : (Jvm.Cond.fieldLink "TorchPlate$Plight" (15 : Nat) "TorchPlate$Plight" "torch" "I") ∈ wsL_law := z_in1 (List.mem_of_getElem? (i := 153) rfl) rfl
theorem zf_X2_15 : z_F RX2 15 2 1 false := ⟨RX2, TX2, 5, rfl, by decide, zt_1_153, inlX2, tyX2_ok, nmX2, rfl⟩
theorem zt_1_156 : (Jvm.Cond.fieldLink "TorchPlate$Plight" (18 : Nat) "TorchPlate$Plight" "time" "I") ∈ wsL_law := z_in1 (List.mem_of_getElem? (i := 156) rfl) rfl
theorem zf_X2_18 : z_F RX2 18 2 2 false := ⟨RX2, TX2, 5, rfl, by decide, zt_1_156, inlX2, tyX2_ok, nmX2, rfl⟩
theorem zt_1_158 : (Jvm.Cond.fieldLink "TorchPlate$Plight" (21 : Nat) "TorchPlate$Plight" "justEnded" "Z") ∈ wsL_law := z_in1 (List.mem_of_getElem? (i := 158) rfl) rfl
theorem zf_X2_21 : z_F RX2 21 2 3 false := ⟨RX2, TX2, 5, rfl, by decide, zt_1_158, inlX2, tyX2_ok, nmX2, rfl⟩
theorem zt_1_159 : (Jvm.Cond.fieldLink "TorchPlate$Plight" (25 : Nat) "TorchPlate$Plight" "burntAt" "[I") ∈ wsL_law := z_in1 (List.mem_of_getElem? (i := 159) rfl) rfl
theorem zf_X2_25 : z_F RX2 25 2 4 true := ⟨RX2, TX2, 5, rfl, by decide, zt_1_159, inlX2, tyX2_ok, nmX2, rfl⟩
theorem zt_1_43 : (Jvm.Cond.fieldLink "TorchPlate$Plight" (29 : Nat) "TorchPlate$Plate" "cuts" "I") ∈ wsL_law := z_in1 (List.mem_of_getElem? (i := 43) rfl) rfl
theorem zf_X2_29 : z_F RX2 29 1 4 false := ⟨RX1, TX1, 14, rfl, by decide, zt_1_43, inlX1, tyX1_ok, nmX1, rfl⟩
theorem zt_1_32 : (Jvm.Cond.fieldLink "TorchPlate$Plight" (34 : Nat) "TorchPlate$Plate" "corners" "I") ∈ wsL_law := z_in1 (List.mem_of_getElem? (i := 32) rfl) rfl
theorem zf_X2_34 : z_F RX2 34 1 0 false := ⟨RX1, TX1, 14, rfl, by decide, zt_1_32, inlX1, tyX1_ok, nmX1, rfl⟩
theorem zt_1_74 : (Jvm.Cond.fieldLink "TorchPlate$Plight" (61 : Nat) "TorchPlate$Plate" "heat" "I") ∈ wsL_law := z_in1 (List.mem_of_getElem? (i := 74) rfl) rfl
theorem zf_X2_61 : z_F RX2 61 1 12 false := ⟨RX1, TX1, 14, rfl, by decide, zt_1_74, inlX1, tyX1_ok, nmX1, rfl⟩
theorem zt_1_58 : (Jvm.Cond.fieldLink "TorchPlate$Plight" (72 : Nat) "TorchPlate$Plate" "parts" "I") ∈ wsL_law := z_in1 (List.mem_of_getElem? (i := 58) rfl) rfl
theorem zf_X2_72 : z_F RX2 72 1 7 false := ⟨RX1, TX1, 14, rfl, by decide, zt_1_58, inlX1, tyX1_ok, nmX1, rfl⟩
theorem zt_1_67 : (Jvm.Cond.fieldLink "TorchPlate$Plight" (75 : Nat) "TorchPlate$Plate" "ringCuts" "[I") ∈ wsL_law := z_in1 (List.mem_of_getElem? (i := 67) rfl) rfl
theorem zf_X2_75 : z_F RX2 75 1 10 true := ⟨RX1, TX1, 14, rfl, by decide, zt_1_67, inlX1, tyX1_ok, nmX1, rfl⟩
theorem zt_1_71 : (Jvm.Cond.fieldLink "TorchPlate$Plight" (78 : Nat) "TorchPlate$Plate" "within" "[I") ∈ wsL_law := z_in1 (List.mem_of_getElem? (i := 71) rfl) rfl
theorem zf_X2_78 : z_F RX2 78 1 11 true := ⟨RX1, TX1, 14, rfl, by decide, zt_1_71, inlX1, tyX1_ok, nmX1, rfl⟩
theorem zt_1_116 : (Jvm.Cond.fieldLink "TorchPlate$Reader" (9 : Nat) "TorchPlate$Reader" "place" "I") ∈ wsL_law := z_in1 (List.mem_of_getElem? (i := 116) rfl) rfl
theorem zf_X3_9 : z_F RX3 9 3 0 false := ⟨RX3, TX3, 9, rfl, by decide, zt_1_116, inlX3, tyX3_ok, nmX3, rfl⟩
theorem zt_1_117 : (Jvm.Cond.fieldLink "TorchPlate$Reader" (15 : Nat) "TorchPlate$Reader" "next" "I") ∈ wsL_law := z_in1 (List.mem_of_getElem? (i := 117) rfl) rfl
theorem zf_X3_15 : z_F RX3 15 3 1 false := ⟨RX3, TX3, 9, rfl, by decide, zt_1_117, inlX3, tyX3_ok, nmX3, rfl⟩
theorem zt_1_118 : (Jvm.Cond.fieldLink "TorchPlate$Reader" (18 : Nat) "TorchPlate$Reader" "token" "I") ∈ wsL_law := z_in1 (List.mem_of_getElem? (i := 118) rfl) rfl
theorem zf_X3_18 : z_F RX3 18 3 2 false := ⟨RX3, TX3, 9, rfl, by decide, zt_1_118, inlX3, tyX3_ok, nmX3, rfl⟩
theorem zt_1_119 : (Jvm.Cond.fieldLink "TorchPlate$Reader" (21 : Nat) "TorchPlate$Reader" "value" "I") ∈ wsL_law := z_in1 (List.mem_of_getElem? (i := 119) rfl) rfl
theorem zf_X3_21 : z_F RX3 21 3 3 false := ⟨RX3, TX3, 9, rfl, by decide, zt_1_119, inlX3, tyX3_ok, nmX3, rfl⟩
theorem zt_1_120 : (Jvm.Cond.fieldLink "TorchPlate$Reader" (24 : Nat) "TorchPlate$Reader" "item" "I") ∈ wsL_law := z_in1 (List.mem_of_getElem? (i := 120) rfl) rfl
theorem zf_X3_24 : z_F RX3 24 3 4 false := ⟨RX3, TX3, 9, rfl, by decide, zt_1_120, inlX3, tyX3_ok, nmX3, rfl⟩
theorem zt_1_121 : (Jvm.Cond.fieldLink "TorchPlate$Reader" (27 : Nat) "TorchPlate$Reader" "told" "I") ∈ wsL_law := z_in1 (List.mem_of_getElem? (i := 121) rfl) rfl
theorem zf_X3_27 : z_F RX3 27 3 5 false := ⟨RX3, TX3, 9, rfl, by decide, zt_1_121, inlX3, tyX3_ok, nmX3, rfl⟩
theorem zt_1_122 : (Jvm.Cond.fieldLink "TorchPlate$Reader" (30 : Nat) "TorchPlate$Reader" "first" "I") ∈ wsL_law := z_in1 (List.mem_of_getElem? (i := 122) rfl) rfl
theorem zf_X3_30 : z_F RX3 30 3 6 false := ⟨RX3, TX3, 9, rfl, by decide, zt_1_122, inlX3, tyX3_ok, nmX3, rfl⟩
theorem zt_1_123 : (Jvm.Cond.fieldLink "TorchPlate$Reader" (33 : Nat) "TorchPlate$Reader" "last" "I") ∈ wsL_law := z_in1 (List.mem_of_getElem? (i := 123) rfl) rfl
theorem zf_X3_33 : z_F RX3 33 3 7 false := ⟨RX3, TX3, 9, rfl, by decide, zt_1_123, inlX3, tyX3_ok, nmX3, rfl⟩
theorem zt_1_124 : (Jvm.Cond.fieldLink "TorchPlate$Reader" (36 : Nat) "TorchPlate$Reader" "heatTold" "Z") ∈ wsL_law := z_in1 (List.mem_of_getElem? (i := 124) rfl) rfl
theorem zf_X3_36 : z_F RX3 36 3 8 false := ⟨RX3, TX3, 9, rfl, by decide, zt_1_124, inlX3, tyX3_ok, nmX3, rfl⟩
theorem zt_1_34 : (Jvm.Cond.fieldLink "TorchPlate$Reader" (78 : Nat) "TorchPlate$Plate" "corners" "I") ∈ wsL_law := z_in1 (List.mem_of_getElem? (i := 34) rfl) rfl
theorem zf_X3_78 : z_F RX3 78 1 0 false := ⟨RX1, TX1, 14, rfl, by decide, zt_1_34, inlX1, tyX1_ok, nmX1, rfl⟩
theorem zt_1_57 : (Jvm.Cond.fieldLink "TorchPlate$Reader" (81 : Nat) "TorchPlate$Plate" "parts" "I") ∈ wsL_law := z_in1 (List.mem_of_getElem? (i := 57) rfl) rfl
theorem zf_X3_81 : z_F RX3 81 1 7 false := ⟨RX1, TX1, 14, rfl, by decide, zt_1_57, inlX1, tyX1_ok, nmX1, rfl⟩
theorem zt_1_75 : (Jvm.Cond.fieldLink "TorchPlate$Reader" (96 : Nat) "TorchPlate$Plate" "heat" "I") ∈ wsL_law := z_in1 (List.mem_of_getElem? (i := 75) rfl) rfl
theorem zf_X3_96 : z_F RX3 96 1 12 false := ⟨RX1, TX1, 14, rfl, by decide, zt_1_75, inlX1, tyX1_ok, nmX1, rfl⟩
theorem zt_1_64 : (Jvm.Cond.fieldLink "TorchPlate$Reader" (106 : Nat) "TorchPlate$Plate" "ring" "[[I") ∈ wsL_law := z_in1 (List.mem_of_getElem? (i := 64) rfl) rfl
theorem zf_X3_106 : z_F RX3 106 1 9 true := ⟨RX1, TX1, 14, rfl, by decide, zt_1_64, inlX1, tyX1_ok, nmX1, rfl⟩
theorem zt_1_79 : (Jvm.Cond.fieldLink "TorchPlate$Reader" (116 : Nat) "TorchPlate$Plate" "items" "I") ∈ wsL_law := z_in1 (List.mem_of_getElem? (i := 79) rfl) rfl
theorem zf_X3_116 : z_F RX3 116 1 13 false := ⟨RX1, TX1, 14, rfl, by decide, zt_1_79, inlX1, tyX1_ok, nmX1, rfl⟩
theorem zt_1_62 : (Jvm.Cond.fieldLink "TorchPlate$Reader" (119 : Nat) "TorchPlate$Plate" "ringSize" "[I") ∈ wsL_law := z_in1 (List.mem_of_getElem? (i := 62) rfl) rfl
theorem zf_X3_119 : z_F RX3 119 1 8 true := ⟨RX1, TX1, 14, rfl, by decide, zt_1_62, inlX1, tyX1_ok, nmX1, rfl⟩
theorem zt_1_214 : (Jvm.Cond.fieldLink "TorchPlate$Survey" (9 : Nat) "TorchPlate$Survey" "fresh" "Z") ∈ wsL_law := z_in1 (List.mem_of_getElem? (i := 214) rfl) rfl
theorem zf_X4_9 : z_F RX4 9 4 0 false := ⟨RX4, TX4, 12, rfl, by decide, zt_1_214, inlX4, tyX4_ok, nmX4, rfl⟩
theorem zt_1_216 : (Jvm.Cond.fieldLink "TorchPlate$Survey" (15 : Nat) "TorchPlate$Survey" "pieces" "I") ∈ wsL_law := z_in1 (List.mem_of_getElem? (i := 216) rfl) rfl
theorem zf_X4_15 : z_F RX4 15 4 1 false := ⟨RX4, TX4, 12, rfl, by decide, zt_1_216, inlX4, tyX4_ok, nmX4, rfl⟩
theorem zt_1_218 : (Jvm.Cond.fieldLink "TorchPlate$Survey" (19 : Nat) "TorchPlate$Survey" "cuts" "[I") ∈ wsL_law := z_in1 (List.mem_of_getElem? (i := 218) rfl) rfl
theorem zf_X4_19 : z_F RX4 19 4 2 true := ⟨RX4, TX4, 12, rfl, by decide, zt_1_218, inlX4, tyX4_ok, nmX4, rfl⟩
theorem zt_1_221 : (Jvm.Cond.fieldLink "TorchPlate$Survey" (23 : Nat) "TorchPlate$Survey" "corners" "[I") ∈ wsL_law := z_in1 (List.mem_of_getElem? (i := 221) rfl) rfl
theorem zf_X4_23 : z_F RX4 23 4 3 true := ⟨RX4, TX4, 12, rfl, by decide, zt_1_221, inlX4, tyX4_ok, nmX4, rfl⟩
theorem zt_1_222 : (Jvm.Cond.fieldLink "TorchPlate$Survey" (26 : Nat) "TorchPlate$Survey" "odd" "[I") ∈ wsL_law := z_in1 (List.mem_of_getElem? (i := 222) rfl) rfl
theorem zf_X4_26 : z_F RX4 26 4 4 true := ⟨RX4, TX4, 12, rfl, by decide, zt_1_222, inlX4, tyX4_ok, nmX4, rfl⟩
theorem zt_1_225 : (Jvm.Cond.fieldLink "TorchPlate$Survey" (29 : Nat) "TorchPlate$Survey" "start" "[I") ∈ wsL_law := z_in1 (List.mem_of_getElem? (i := 225) rfl) rfl
theorem zf_X4_29 : z_F RX4 29 4 5 true := ⟨RX4, TX4, 12, rfl, by decide, zt_1_225, inlX4, tyX4_ok, nmX4, rfl⟩
theorem zt_1_226 : (Jvm.Cond.fieldLink "TorchPlate$Survey" (32 : Nat) "TorchPlate$Survey" "linkWay" "[I") ∈ wsL_law := z_in1 (List.mem_of_getElem? (i := 226) rfl) rfl
theorem zf_X4_32 : z_F RX4 32 4 6 true := ⟨RX4, TX4, 12, rfl, by decide, zt_1_226, inlX4, tyX4_ok, nmX4, rfl⟩
theorem zt_1_228 : (Jvm.Cond.fieldLink "TorchPlate$Survey" (35 : Nat) "TorchPlate$Survey" "ahead" "[I") ∈ wsL_law := z_in1 (List.mem_of_getElem? (i := 228) rfl) rfl
theorem zf_X4_35 : z_F RX4 35 4 7 true := ⟨RX4, TX4, 12, rfl, by decide, zt_1_228, inlX4, tyX4_ok, nmX4, rfl⟩
theorem zt_1_230 : (Jvm.Cond.fieldLink "TorchPlate$Survey" (38 : Nat) "TorchPlate$Survey" "partner" "[I") ∈ wsL_law := z_in1 (List.mem_of_getElem? (i := 230) rfl) rfl
theorem zf_X4_38 : z_F RX4 38 4 8 true := ⟨RX4, TX4, 12, rfl, by decide, zt_1_230, inlX4, tyX4_ok, nmX4, rfl⟩
theorem zt_1_233 : (Jvm.Cond.fieldLink "TorchPlate$Survey" (41 : Nat) "TorchPlate$Survey" "order" "[I") ∈ wsL_law := z_in1 (List.mem_of_getElem? (i := 233) rfl) rfl
theorem zf_X4_41 : z_F RX4 41 4 9 true := ⟨RX4, TX4, 12, rfl, by decide, zt_1_233, inlX4, tyX4_ok, nmX4, rfl⟩
theorem zt_1_235 : (Jvm.Cond.fieldLink "TorchPlate$Survey" (44 : Nat) "TorchPlate$Survey" "tourWay" "I") ∈ wsL_law := z_in1 (List.mem_of_getElem? (i := 235) rfl) rfl
theorem zf_X4_44 : z_F RX4 44 4 10 false := ⟨RX4, TX4, 12, rfl, by decide, zt_1_235, inlX4, tyX4_ok, nmX4, rfl⟩
theorem zt_1_237 : (Jvm.Cond.fieldLink "TorchPlate$Survey" (50 : Nat) "TorchPlate$Survey" "web" "LTorchPlate$Web;") ∈ wsL_law := z_in1 (List.mem_of_getElem? (i := 237) rfl) rfl
theorem zf_X4_50 : z_F RX4 50 4 11 true := ⟨RX4, TX4, 12, rfl, by decide, zt_1_237, inlX4, tyX4_ok, nmX4, rfl⟩
theorem zt_1_154 : (Jvm.Cond.fieldLink "TorchPlate$Survey" (76 : Nat) "TorchPlate$Plight" "torch" "I") ∈ wsL_law := z_in1 (List.mem_of_getElem? (i := 154) rfl) rfl
theorem zf_X4_76 : z_F RX4 76 2 1 false := ⟨RX2, TX2, 5, rfl, by decide, zt_1_154, inlX2, tyX2_ok, nmX2, rfl⟩
theorem zt_1_152 : (Jvm.Cond.fieldLink "TorchPlate$Survey" (99 : Nat) "TorchPlate$Plight" "left" "I") ∈ wsL_law := z_in1 (List.mem_of_getElem? (i := 152) rfl) rfl
theorem zf_X4_99 : z_F RX4 99 2 0 false := ⟨RX2, TX2, 5, rfl, by decide, zt_1_152, inlX2, tyX2_ok, nmX2, rfl⟩
theorem zt_1_35 : (Jvm.Cond.fieldLink "TorchPlate$Survey" (105 : Nat) "TorchPlate$Plate" "corners" "I") ∈ wsL_law := z_in1 (List.mem_of_getElem? (i := 35) rfl) rfl
theorem zf_X4_105 : z_F RX4 105 1 0 false := ⟨RX1, TX1, 14, rfl, by decide, zt_1_35, inlX1, tyX1_ok, nmX1, rfl⟩
theorem zt_1_206 : (Jvm.Cond.fieldLink "TorchPlate$Survey" (109 : Nat) "TorchPlate$Web" "cuts" "[I") ∈ wsL_law := z_in1 (List.mem_of_getElem? (i := 206) rfl) rfl
theorem zf_X4_109 : z_F RX4 109 6 0 true := ⟨RX6, TX6, 2, rfl, by decide, zt_1_206, inlX6, tyX6_ok, nmX6, rfl⟩
theorem zt_1_47 : (Jvm.Cond.fieldLink "TorchPlate$Survey" (119 : Nat) "TorchPlate$Plate" "cuts" "I") ∈ wsL_law := z_in1 (List.mem_of_getElem? (i := 47) rfl) rfl
theorem zf_X4_119 : z_F RX4 119 1 4 false := ⟨RX1, TX1, 14, rfl, by decide, zt_1_47, inlX1, tyX1_ok, nmX1, rfl⟩
theorem zt_1_51 : (Jvm.Cond.fieldLink "TorchPlate$Survey" (121 : Nat) "TorchPlate$Plate" "low" "[I") ∈ wsL_law := z_in1 (List.mem_of_getElem? (i := 51) rfl) rfl
theorem zf_X4_121 : z_F RX4 121 1 5 true := ⟨RX1, TX1, 14, rfl, by decide, zt_1_51, inlX1, tyX1_ok, nmX1, rfl⟩
theorem zt_1_59 : (Jvm.Cond.fieldLink "TorchPlate$Survey" (144 : Nat) "TorchPlate$Plate" "parts" "I") ∈ wsL_law := z_in1 (List.mem_of_getElem? (i := 59) rfl) rfl
theorem zf_X4_144 : z_F RX4 144 1 7 false := ⟨RX1, TX1, 14, rfl, by decide, zt_1_59, inlX1, tyX1_ok, nmX1, rfl⟩
theorem zt_1_68 : (Jvm.Cond.fieldLink "TorchPlate$Survey" (147 : Nat) "TorchPlate$Plate" "ringCuts" "[I") ∈ wsL_law := z_in1 (List.mem_of_getElem? (i := 68) rfl) rfl
theorem zf_X4_147 : z_F RX4 147 1 10 true := ⟨RX1, TX1, 14, rfl, by decide, zt_1_68, inlX1, tyX1_ok, nmX1, rfl⟩
theorem zt_1_72 : (Jvm.Cond.fieldLink "TorchPlate$Survey" (150 : Nat) "TorchPlate$Plate" "within" "[I") ∈ wsL_law := z_in1 (List.mem_of_getElem? (i := 72) rfl) rfl
theorem zf_X4_150 : z_F RX4 150 1 11 true := ⟨RX1, TX1, 14, rfl, by decide, zt_1_72, inlX1, tyX1_ok, nmX1, rfl⟩
theorem zt_2_31 : (Jvm.Cond.fieldLink "TorchPlate$Walk" (9 : Nat) "TorchPlate$Walk" "piece" "I") ∈ wsL_law := z_in2 (List.mem_of_getElem? (i := 31) rfl) rfl
theorem zf_X5_9 : z_F RX5 9 5 0 false := ⟨RX5, TX5, 5, rfl, by decide, zt_2_31, inlX5, tyX5_ok, nmX5, rfl⟩
theorem zt_2_33 : (Jvm.Cond.fieldLink "TorchPlate$Walk" (15 : Nat) "TorchPlate$Walk" "steps" "I") ∈ wsL_law := z_in2 (List.mem_of_getElem? (i := 33) rfl) rfl
theorem zf_X5_15 : z_F RX5 15 5 1 false := ⟨RX5, TX5, 5, rfl, by decide, zt_2_33, inlX5, tyX5_ok, nmX5, rfl⟩
theorem zt_2_35 : (Jvm.Cond.fieldLink "TorchPlate$Walk" (18 : Nat) "TorchPlate$Walk" "to" "[I") ∈ wsL_law := z_in2 (List.mem_of_getElem? (i := 35) rfl) rfl
theorem zf_X5_18 : z_F RX5 18 5 2 true := ⟨RX5, TX5, 5, rfl, by decide, zt_2_35, inlX5, tyX5_ok, nmX5, rfl⟩
theorem zt_2_37 : (Jvm.Cond.fieldLink "TorchPlate$Walk" (22 : Nat) "TorchPlate$Walk" "byCut" "[I") ∈ wsL_law := z_in2 (List.mem_of_getElem? (i := 37) rfl) rfl
theorem zf_X5_22 : z_F RX5 22 5 3 true := ⟨RX5, TX5, 5, rfl, by decide, zt_2_37, inlX5, tyX5_ok, nmX5, rfl⟩
theorem zt_2_39 : (Jvm.Cond.fieldLink "TorchPlate$Walk" (28 : Nat) "TorchPlate$Walk" "web" "LTorchPlate$Web;") ∈ wsL_law := z_in2 (List.mem_of_getElem? (i := 39) rfl) rfl
theorem zf_X5_28 : z_F RX5 28 5 4 true := ⟨RX5, TX5, 5, rfl, by decide, zt_2_39, inlX5, tyX5_ok, nmX5, rfl⟩
theorem zt_1_219 : (Jvm.Cond.fieldLink "TorchPlate$Walk" (58 : Nat) "TorchPlate$Survey" "cuts" "[I") ∈ wsL_law := z_in1 (List.mem_of_getElem? (i := 219) rfl) rfl
theorem zf_X5_58 : z_F RX5 58 4 2 true := ⟨RX4, TX4, 12, rfl, by decide, zt_1_219, inlX4, tyX4_ok, nmX4, rfl⟩
theorem zt_1_223 : (Jvm.Cond.fieldLink "TorchPlate$Walk" (65 : Nat) "TorchPlate$Survey" "odd" "[I") ∈ wsL_law := z_in1 (List.mem_of_getElem? (i := 223) rfl) rfl
theorem zf_X5_65 : z_F RX5 65 4 4 true := ⟨RX4, TX4, 12, rfl, by decide, zt_1_223, inlX4, tyX4_ok, nmX4, rfl⟩
theorem zt_1_231 : (Jvm.Cond.fieldLink "TorchPlate$Walk" (72 : Nat) "TorchPlate$Survey" "partner" "[I") ∈ wsL_law := z_in1 (List.mem_of_getElem? (i := 231) rfl) rfl
theorem zf_X5_72 : z_F RX5 72 4 8 true := ⟨RX4, TX4, 12, rfl, by decide, zt_1_231, inlX4, tyX4_ok, nmX4, rfl⟩
theorem zt_1_208 : (Jvm.Cond.fieldLink "TorchPlate$Walk" (75 : Nat) "TorchPlate$Web" "links" "[I") ∈ wsL_law := z_in1 (List.mem_of_getElem? (i := 208) rfl) rfl
theorem zf_X5_75 : z_F RX5 75 6 1 true := ⟨RX6, TX6, 2, rfl, by decide, zt_1_208, inlX6, tyX6_ok, nmX6, rfl⟩
theorem zt_1_205 : (Jvm.Cond.fieldLink "TorchPlate$Walk" (82 : Nat) "TorchPlate$Web" "cuts" "[I") ∈ wsL_law := z_in1 (List.mem_of_getElem? (i := 205) rfl) rfl
theorem zf_X5_82 : z_F RX5 82 6 0 true := ⟨RX6, TX6, 2, rfl, by decide, zt_1_205, inlX6, tyX6_ok, nmX6, rfl⟩
theorem zt_1_204 : (Jvm.Cond.fieldLink "TorchPlate$Web" (9 : Nat) "TorchPlate$Web" "cuts" "[I") ∈ wsL_law := z_in1 (List.mem_of_getElem? (i := 204) rfl) rfl
theorem zf_X6_9 : z_F RX6 9 6 0 true := ⟨RX6, TX6, 2, rfl, by decide, zt_1_204, inlX6, tyX6_ok, nmX6, rfl⟩
theorem zt_1_207 : (Jvm.Cond.fieldLink "TorchPlate$Web" (15 : Nat) "TorchPlate$Web" "links" "[I") ∈ wsL_law := z_in1 (List.mem_of_getElem? (i := 207) rfl) rfl
theorem zf_X6_15 : z_F RX6 15 6 1 true := ⟨RX6, TX6, 2, rfl, by decide, zt_1_207, inlX6, tyX6_ok, nmX6, rfl⟩
theorem zt_1_44 : (Jvm.Cond.fieldLink "TorchPlate$Web" (24 : Nat) "TorchPlate$Plate" "cuts" "I") ∈ wsL_law := z_in1 (List.mem_of_getElem? (i := 44) rfl) rfl
theorem zf_X6_24 : z_F RX6 24 1 4 false := ⟨RX1, TX1, 14, rfl, by decide, zt_1_44, inlX1, tyX1_ok, nmX1, rfl⟩
theorem zt_1_49 : (Jvm.Cond.fieldLink "TorchPlate$Web" (33 : Nat) "TorchPlate$Plate" "low" "[I") ∈ wsL_law := z_in1 (List.mem_of_getElem? (i := 49) rfl) rfl
theorem zf_X6_33 : z_F RX6 33 1 5 true := ⟨RX1, TX1, 14, rfl, by decide, zt_1_49, inlX1, tyX1_ok, nmX1, rfl⟩
theorem zt_1_53 : (Jvm.Cond.fieldLink "TorchPlate$Web" (36 : Nat) "TorchPlate$Plate" "high" "[I") ∈ wsL_law := z_in1 (List.mem_of_getElem? (i := 53) rfl) rfl
theorem zf_X6_36 : z_F RX6 36 1 6 true := ⟨RX1, TX1, 14, rfl, by decide, zt_1_53, inlX1, tyX1_ok, nmX1, rfl⟩
theorem zt_2_59 : (Jvm.Cond.fieldLink "TorchPlate$Witness" (9 : Nat) "TorchPlate$Witness" "size" "I") ∈ wsL_law := z_in2 (List.mem_of_getElem? (i := 59) rfl) rfl
theorem zf_X7_9 : z_F RX7 9 7 0 false := ⟨RX7, TX7, 6, rfl, by decide, zt_2_59, inlX7, tyX7_ok, nmX7, rfl⟩
theorem zt_2_61 : (Jvm.Cond.fieldLink "TorchPlate$Witness" (15 : Nat) "TorchPlate$Witness" "one" "[I") ∈ wsL_law := z_in2 (List.mem_of_getElem? (i := 61) rfl) rfl
theorem zf_X7_15 : z_F RX7 15 7 1 true := ⟨RX7, TX7, 6, rfl, by decide, zt_2_61, inlX7, tyX7_ok, nmX7, rfl⟩
theorem zt_2_62 : (Jvm.Cond.fieldLink "TorchPlate$Witness" (19 : Nat) "TorchPlate$Witness" "other" "[I") ∈ wsL_law := z_in2 (List.mem_of_getElem? (i := 62) rfl) rfl
theorem zf_X7_19 : z_F RX7 19 7 2 true := ⟨RX7, TX7, 6, rfl, by decide, zt_2_62, inlX7, tyX7_ok, nmX7, rfl⟩
theorem zt_2_63 : (Jvm.Cond.fieldLink "TorchPlate$Witness" (22 : Nat) "TorchPlate$Witness" "together" "[I") ∈ wsL_law := z_in2 (List.mem_of_getElem? (i := 63) rfl) rfl
theorem zf_X7_22 : z_F RX7 22 7 3 true := ⟨RX7, TX7, 6, rfl, by decide, zt_2_63, inlX7, tyX7_ok, nmX7, rfl⟩
theorem zt_2_64 : (Jvm.Cond.fieldLink "TorchPlate$Witness" (25 : Nat) "TorchPlate$Witness" "tally" "[I") ∈ wsL_law := z_in2 (List.mem_of_getElem? (i := 64) rfl) rfl
theorem zf_X7_25 : z_F RX7 25 7 4 true := ⟨RX7, TX7, 6, rfl, by decide, zt_2_64, inlX7, tyX7_ok, nmX7, rfl⟩
theorem zt_2_65 : (Jvm.Cond.fieldLink "TorchPlate$Witness" (31 : Nat) "TorchPlate$Witness" "web" "LTorchPlate$Web;") ∈ wsL_law := z_in2 (List.mem_of_getElem? (i := 65) rfl) rfl
theorem zf_X7_31 : z_F RX7 31 7 5 true := ⟨RX7, TX7, 6, rfl, by decide, zt_2_65, inlX7, tyX7_ok, nmX7, rfl⟩
theorem zt_1_45 : (Jvm.Cond.fieldLink "TorchPlate$Witness" (35 : Nat) "TorchPlate$Plate" "cuts" "I") ∈ wsL_law := z_in1 (List.mem_of_getElem? (i := 45) rfl) rfl
theorem zf_X7_35 : z_F RX7 35 1 4 false := ⟨RX1, TX1, 14, rfl, by decide, zt_1_45, inlX1, tyX1_ok, nmX1, rfl⟩
theorem zt_1_33 : (Jvm.Cond.fieldLink "TorchPlate$Witness" (70 : Nat) "TorchPlate$Plate" "corners" "I") ∈ wsL_law := z_in1 (List.mem_of_getElem? (i := 33) rfl) rfl
theorem zf_X7_70 : z_F RX7 70 1 0 false := ⟨RX1, TX1, 14, rfl, by decide, zt_1_33, inlX1, tyX1_ok, nmX1, rfl⟩
theorem zt_2_86 : (Jvm.Cond.fieldLink "TorchPlate" (9 : Nat) "TorchPlate" "letters" "[I") ∈ wsL_law := z_in2 (List.mem_of_getElem? (i := 86) rfl) rfl
theorem zf_X8_9 : z_F RX8 9 8 0 true := ⟨RX8, TX8, 12, rfl, by decide, zt_2_86, inlX8, tyX8_ok, nmX8, rfl⟩
theorem zt_2_87 : (Jvm.Cond.fieldLink "TorchPlate" (13 : Nat) "TorchPlate" "length" "I") ∈ wsL_law := z_in2 (List.mem_of_getElem? (i := 87) rfl) rfl
theorem zf_X8_13 : z_F RX8 13 8 1 false := ⟨RX8, TX8, 12, rfl, by decide, zt_2_87, inlX8, tyX8_ok, nmX8, rfl⟩
theorem zt_2_88 : (Jvm.Cond.fieldLink "TorchPlate" (20 : Nat) "TorchPlate" "plate" "LTorchPlate$Plate;") ∈ wsL_law := z_in2 (List.mem_of_getElem? (i := 88) rfl) rfl
theorem zf_X8_20 : z_F RX8 20 8 2 false := ⟨RX8, TX8, 12, rfl, by decide, zt_2_88, inlX8, tyX8_ok, nmX8, rfl⟩
theorem zt_2_89 : (Jvm.Cond.fieldLink "TorchPlate" (24 : Nat) "TorchPlate" "draft" "LTorchPlate$Plate;") ∈ wsL_law := z_in2 (List.mem_of_getElem? (i := 89) rfl) rfl
theorem zf_X8_24 : z_F RX8 24 8 3 false := ⟨RX8, TX8, 12, rfl, by decide, zt_2_89, inlX8, tyX8_ok, nmX8, rfl⟩
theorem zt_2_90 : (Jvm.Cond.fieldLink "TorchPlate" (30 : Nat) "TorchPlate" "reader" "LTorchPlate$Reader;") ∈ wsL_law := z_in2 (List.mem_of_getElem? (i := 90) rfl) rfl
theorem zf_X8_30 : z_F RX8 30 8 4 true := ⟨RX8, TX8, 12, rfl, by decide, zt_2_90, inlX8, tyX8_ok, nmX8, rfl⟩
theorem zt_2_91 : (Jvm.Cond.fieldLink "TorchPlate" (37 : Nat) "TorchPlate" "now" "LTorchPlate$Plight;") ∈ wsL_law := z_in2 (List.mem_of_getElem? (i := 91) rfl) rfl
theorem zf_X8_37 : z_F RX8 37 8 5 true := ⟨RX8, TX8, 12, rfl, by decide, zt_2_91, inlX8, tyX8_ok, nmX8, rfl⟩
theorem zt_2_92 : (Jvm.Cond.fieldLink "TorchPlate" (44 : Nat) "TorchPlate" "past" "LTorchPlate$Past;") ∈ wsL_law := z_in2 (List.mem_of_getElem? (i := 92) rfl) rfl
theorem zf_X8_44 : z_F RX8 44 8 6 true := ⟨RX8, TX8, 12, rfl, by decide, zt_2_92, inlX8, tyX8_ok, nmX8, rfl⟩
theorem zt_2_93 : (Jvm.Cond.fieldLink "TorchPlate" (48 : Nat) "TorchPlate" "images" "[LTorchPlate$Plight;") ∈ wsL_law := z_in2 (List.mem_of_getElem? (i := 93) rfl) rfl
theorem zf_X8_48 : z_F RX8 48 8 7 true := ⟨RX8, TX8, 12, rfl, by decide, zt_2_93, inlX8, tyX8_ok, nmX8, rfl⟩
theorem zt_2_94 : (Jvm.Cond.fieldLink "TorchPlate" (52 : Nat) "TorchPlate" "keptImages" "I") ∈ wsL_law := z_in2 (List.mem_of_getElem? (i := 94) rfl) rfl
theorem zf_X8_52 : z_F RX8 52 8 8 false := ⟨RX8, TX8, 12, rfl, by decide, zt_2_94, inlX8, tyX8_ok, nmX8, rfl⟩
theorem zt_2_95 : (Jvm.Cond.fieldLink "TorchPlate" (58 : Nat) "TorchPlate" "survey" "LTorchPlate$Survey;") ∈ wsL_law := z_in2 (List.mem_of_getElem? (i := 95) rfl) rfl
theorem zf_X8_58 : z_F RX8 58 8 9 true := ⟨RX8, TX8, 12, rfl, by decide, zt_2_95, inlX8, tyX8_ok, nmX8, rfl⟩
theorem zt_2_96 : (Jvm.Cond.fieldLink "TorchPlate" (65 : Nat) "TorchPlate" "walk" "LTorchPlate$Walk;") ∈ wsL_law := z_in2 (List.mem_of_getElem? (i := 96) rfl) rfl
theorem zf_X8_65 : z_F RX8 65 8 10 true := ⟨RX8, TX8, 12, rfl, by decide, zt_2_96, inlX8, tyX8_ok, nmX8, rfl⟩
theorem zt_2_97 : (Jvm.Cond.fieldLink "TorchPlate" (72 : Nat) "TorchPlate" "witness" "LTorchPlate$Witness;") ∈ wsL_law := z_in2 (List.mem_of_getElem? (i := 97) rfl) rfl
theorem zf_X8_72 : z_F RX8 72 8 11 true := ⟨RX8, TX8, 12, rfl, by decide, zt_2_97, inlX8, tyX8_ok, nmX8, rfl⟩
theorem zt_1_78 : (Jvm.Cond.fieldLink "TorchPlate" (91 : Nat) "TorchPlate$Plate" "items" "I") ∈ wsL_law := z_in1 (List.mem_of_getElem? (i := 78) rfl) rfl
theorem zf_X8_91 : z_F RX8 91 1 13 false := ⟨RX1, TX1, 14, rfl, by decide, zt_1_78, inlX1, tyX1_ok, nmX1, rfl⟩
theorem zt_1_38 : (Jvm.Cond.fieldLink "TorchPlate" (98 : Nat) "TorchPlate$Plate" "x" "[I") ∈ wsL_law := z_in1 (List.mem_of_getElem? (i := 38) rfl) rfl
theorem zf_X8_98 : z_F RX8 98 1 1 true := ⟨RX1, TX1, 14, rfl, by decide, zt_1_38, inlX1, tyX1_ok, nmX1, rfl⟩
theorem zt_1_40 : (Jvm.Cond.fieldLink "TorchPlate" (101 : Nat) "TorchPlate$Plate" "y" "[I") ∈ wsL_law := z_in1 (List.mem_of_getElem? (i := 40) rfl) rfl
theorem zf_X8_101 : z_F RX8 101 1 2 true := ⟨RX1, TX1, 14, rfl, by decide, zt_1_40, inlX1, tyX1_ok, nmX1, rfl⟩
theorem zt_1_151 : (Jvm.Cond.fieldLink "TorchPlate" (104 : Nat) "TorchPlate$Plight" "left" "I") ∈ wsL_law := z_in1 (List.mem_of_getElem? (i := 151) rfl) rfl
theorem zf_X8_104 : z_F RX8 104 2 0 false := ⟨RX2, TX2, 5, rfl, by decide, zt_1_151, inlX2, tyX2_ok, nmX2, rfl⟩
theorem zt_1_160 : (Jvm.Cond.fieldLink "TorchPlate" (111 : Nat) "TorchPlate$Plight" "burntAt" "[I") ∈ wsL_law := z_in1 (List.mem_of_getElem? (i := 160) rfl) rfl
theorem zf_X8_111 : z_F RX8 111 2 4 true := ⟨RX2, TX2, 5, rfl, by decide, zt_1_160, inlX2, tyX2_ok, nmX2, rfl⟩
theorem zt_1_46 : (Jvm.Cond.fieldLink "TorchPlate" (114 : Nat) "TorchPlate$Plate" "cuts" "I") ∈ wsL_law := z_in1 (List.mem_of_getElem? (i := 46) rfl) rfl
theorem zf_X8_114 : z_F RX8 114 1 4 false := ⟨RX1, TX1, 14, rfl, by decide, zt_1_46, inlX1, tyX1_ok, nmX1, rfl⟩
theorem zt_1_50 : (Jvm.Cond.fieldLink "TorchPlate" (117 : Nat) "TorchPlate$Plate" "low" "[I") ∈ wsL_law := z_in1 (List.mem_of_getElem? (i := 50) rfl) rfl
theorem zf_X8_117 : z_F RX8 117 1 5 true := ⟨RX1, TX1, 14, rfl, by decide, zt_1_50, inlX1, tyX1_ok, nmX1, rfl⟩
theorem zt_1_54 : (Jvm.Cond.fieldLink "TorchPlate" (120 : Nat) "TorchPlate$Plate" "high" "[I") ∈ wsL_law := z_in1 (List.mem_of_getElem? (i := 54) rfl) rfl
theorem zf_X8_120 : z_F RX8 120 1 6 true := ⟨RX1, TX1, 14, rfl, by decide, zt_1_54, inlX1, tyX1_ok, nmX1, rfl⟩
theorem zt_1_56 : (Jvm.Cond.fieldLink "TorchPlate" (138 : Nat) "TorchPlate$Plate" "parts" "I") ∈ wsL_law := z_in1 (List.mem_of_getElem? (i := 56) rfl) rfl
theorem zf_X8_138 : z_F RX8 138 1 7 false := ⟨RX1, TX1, 14, rfl, by decide, zt_1_56, inlX1, tyX1_ok, nmX1, rfl⟩
theorem zt_1_61 : (Jvm.Cond.fieldLink "TorchPlate" (141 : Nat) "TorchPlate$Plate" "ringSize" "[I") ∈ wsL_law := z_in1 (List.mem_of_getElem? (i := 61) rfl) rfl
theorem zf_X8_141 : z_F RX8 141 1 8 true := ⟨RX1, TX1, 14, rfl, by decide, zt_1_61, inlX1, tyX1_ok, nmX1, rfl⟩
theorem zt_1_66 : (Jvm.Cond.fieldLink "TorchPlate" (144 : Nat) "TorchPlate$Plate" "ringCuts" "[I") ∈ wsL_law := z_in1 (List.mem_of_getElem? (i := 66) rfl) rfl
theorem zf_X8_144 : z_F RX8 144 1 10 true := ⟨RX1, TX1, 14, rfl, by decide, zt_1_66, inlX1, tyX1_ok, nmX1, rfl⟩
theorem zt_1_70 : (Jvm.Cond.fieldLink "TorchPlate" (152 : Nat) "TorchPlate$Plate" "within" "[I") ∈ wsL_law := z_in1 (List.mem_of_getElem? (i := 70) rfl) rfl
theorem zf_X8_152 : z_F RX8 152 1 11 true := ⟨RX1, TX1, 14, rfl, by decide, zt_1_70, inlX1, tyX1_ok, nmX1, rfl⟩
theorem zt_1_155 : (Jvm.Cond.fieldLink "TorchPlate" (155 : Nat) "TorchPlate$Plight" "torch" "I") ∈ wsL_law := z_in1 (List.mem_of_getElem? (i := 155) rfl) rfl
theorem zf_X8_155 : z_F RX8 155 2 1 false := ⟨RX2, TX2, 5, rfl, by decide, zt_1_155, inlX2, tyX2_ok, nmX2, rfl⟩
theorem zt_1_157 : (Jvm.Cond.fieldLink "TorchPlate" (161 : Nat) "TorchPlate$Plight" "time" "I") ∈ wsL_law := z_in1 (List.mem_of_getElem? (i := 157) rfl) rfl
theorem zf_X8_161 : z_F RX8 161 2 2 false := ⟨RX2, TX2, 5, rfl, by decide, zt_1_157, inlX2, tyX2_ok, nmX2, rfl⟩
theorem zt_1_236 : (Jvm.Cond.fieldLink "TorchPlate" (168 : Nat) "TorchPlate$Survey" "tourWay" "I") ∈ wsL_law := z_in1 (List.mem_of_getElem? (i := 236) rfl) rfl
theorem zf_X8_168 : z_F RX8 168 4 10 false := ⟨RX4, TX4, 12, rfl, by decide, zt_1_236, inlX4, tyX4_ok, nmX4, rfl⟩
theorem zt_1_234 : (Jvm.Cond.fieldLink "TorchPlate" (172 : Nat) "TorchPlate$Survey" "order" "[I") ∈ wsL_law := z_in1 (List.mem_of_getElem? (i := 234) rfl) rfl
theorem zf_X8_172 : z_F RX8 172 4 9 true := ⟨RX4, TX4, 12, rfl, by decide, zt_1_234, inlX4, tyX4_ok, nmX4, rfl⟩
theorem zt_2_36 : (Jvm.Cond.fieldLink "TorchPlate" (182 : Nat) "TorchPlate$Walk" "to" "[I") ∈ wsL_law := z_in2 (List.mem_of_getElem? (i := 36) rfl) rfl
theorem zf_X8_182 : z_F RX8 182 5 2 true := ⟨RX5, TX5, 5, rfl, by decide, zt_2_36, inlX5, tyX5_ok, nmX5, rfl⟩
theorem zt_1_184 : (Jvm.Cond.fieldLink "TorchPlate" (189 : Nat) "TorchPlate$Past" "size" "I") ∈ wsL_law := z_in1 (List.mem_of_getElem? (i := 184) rfl) rfl
theorem zf_X8_189 : z_F RX8 189 0 2 false := ⟨RX0, TX0, 3, rfl, by decide, zt_1_184, inlX0, tyX0_ok, nmX0, rfl⟩
theorem zt_1_220 : (Jvm.Cond.fieldLink "TorchPlate" (195 : Nat) "TorchPlate$Survey" "cuts" "[I") ∈ wsL_law := z_in1 (List.mem_of_getElem? (i := 220) rfl) rfl
theorem zf_X8_195 : z_F RX8 195 4 2 true := ⟨RX4, TX4, 12, rfl, by decide, zt_1_220, inlX4, tyX4_ok, nmX4, rfl⟩
theorem zt_1_224 : (Jvm.Cond.fieldLink "TorchPlate" (197 : Nat) "TorchPlate$Survey" "odd" "[I") ∈ wsL_law := z_in1 (List.mem_of_getElem? (i := 224) rfl) rfl
theorem zf_X8_197 : z_F RX8 197 4 4 true := ⟨RX4, TX4, 12, rfl, by decide, zt_1_224, inlX4, tyX4_ok, nmX4, rfl⟩
theorem zt_1_227 : (Jvm.Cond.fieldLink "TorchPlate" (200 : Nat) "TorchPlate$Survey" "linkWay" "[I") ∈ wsL_law := z_in1 (List.mem_of_getElem? (i := 227) rfl) rfl
theorem zf_X8_200 : z_F RX8 200 4 6 true := ⟨RX4, TX4, 12, rfl, by decide, zt_1_227, inlX4, tyX4_ok, nmX4, rfl⟩
theorem zt_1_229 : (Jvm.Cond.fieldLink "TorchPlate" (206 : Nat) "TorchPlate$Survey" "ahead" "[I") ∈ wsL_law := z_in1 (List.mem_of_getElem? (i := 229) rfl) rfl
theorem zf_X8_206 : z_F RX8 206 4 7 true := ⟨RX4, TX4, 12, rfl, by decide, zt_1_229, inlX4, tyX4_ok, nmX4, rfl⟩
theorem zt_1_232 : (Jvm.Cond.fieldLink "TorchPlate" (209 : Nat) "TorchPlate$Survey" "partner" "[I") ∈ wsL_law := z_in1 (List.mem_of_getElem? (i := 232) rfl) rfl
theorem zf_X8_209 : z_F RX8 209 4 8 true := ⟨RX4, TX4, 12, rfl, by decide, zt_1_232, inlX4, tyX4_ok, nmX4, rfl⟩
theorem zt_2_34 : (Jvm.Cond.fieldLink "TorchPlate" (212 : Nat) "TorchPlate$Walk" "steps" "I") ∈ wsL_law := z_in2 (List.mem_of_getElem? (i := 34) rfl) rfl
theorem zf_X8_212 : z_F RX8 212 5 1 false := ⟨RX5, TX5, 5, rfl, by decide, zt_2_34, inlX5, tyX5_ok, nmX5, rfl⟩
theorem zt_2_38 : (Jvm.Cond.fieldLink "TorchPlate" (215 : Nat) "TorchPlate$Walk" "byCut" "[I") ∈ wsL_law := z_in2 (List.mem_of_getElem? (i := 38) rfl) rfl
theorem zf_X8_215 : z_F RX8 215 5 3 true := ⟨RX5, TX5, 5, rfl, by decide, zt_2_38, inlX5, tyX5_ok, nmX5, rfl⟩
theorem zt_2_60 : (Jvm.Cond.fieldLink "TorchPlate" (226 : Nat) "TorchPlate$Witness" "size" "I") ∈ wsL_law := z_in2 (List.mem_of_getElem? (i := 60) rfl) rfl
theorem zf_X8_226 : z_F RX8 226 7 0 false := ⟨RX7, TX7, 6, rfl, by decide, zt_2_60, inlX7, tyX7_ok, nmX7, rfl⟩
theorem zt_1_36 : (Jvm.Cond.fieldLink "TorchPlate" (238 : Nat) "TorchPlate$Plate" "corners" "I") ∈ wsL_law := z_in1 (List.mem_of_getElem? (i := 36) rfl) rfl
theorem zf_X8_238 : z_F RX8 238 1 0 false := ⟨RX1, TX1, 14, rfl, by decide, zt_1_36, inlX1, tyX1_ok, nmX1, rfl⟩
theorem zt_1_76 : (Jvm.Cond.fieldLink "TorchPlate" (241 : Nat) "TorchPlate$Plate" "heat" "I") ∈ wsL_law := z_in1 (List.mem_of_getElem? (i := 76) rfl) rfl
theorem zf_X8_241 : z_F RX8 241 1 12 false := ⟨RX1, TX1, 14, rfl, by decide, zt_1_76, inlX1, tyX1_ok, nmX1, rfl⟩
theorem zt_1_217 : (Jvm.Cond.fieldLink "TorchPlate" (244 : Nat) "TorchPlate$Survey" "pieces" "I") ∈ wsL_law := z_in1 (List.mem_of_getElem? (i := 217) rfl) rfl
theorem zf_X8_244 : z_F RX8 244 4 1 false := ⟨RX4, TX4, 12, rfl, by decide, zt_1_217, inlX4, tyX4_ok, nmX4, rfl⟩
theorem zt_1_215 : (Jvm.Cond.fieldLink "TorchPlate" (269 : Nat) "TorchPlate$Survey" "fresh" "Z") ∈ wsL_law := z_in1 (List.mem_of_getElem? (i := 215) rfl) rfl
theorem zf_X8_269 : z_F RX8 269 4 0 false := ⟨RX4, TX4, 12, rfl, by decide, zt_1_215, inlX4, tyX4_ok, nmX4, rfl⟩
theorem zt_2_32 : (Jvm.Cond.fieldLink "TorchPlate" (273 : Nat) "TorchPlate$Walk" "piece" "I") ∈ wsL_law := z_in2 (List.mem_of_getElem? (i := 32) rfl) rfl
theorem zf_X8_273 : z_F RX8 273 5 0 false := ⟨RX5, TX5, 5, rfl, by decide, zt_2_32, inlX5, tyX5_ok, nmX5, rfl⟩
theorem zt_4_118 : (Jvm.Cond.fieldLink "TorchPlateModel" (7 : Nat) "TorchPlateModel" "text" "[I") ∈ wsL_law := z_in4 (List.mem_of_getElem? (i := 118) rfl) rfl
theorem zf_X9_7 : z_F RX9 7 9 1 true := ⟨RX9, TX9, 34, rfl, by decide, zt_4_118, inlX9, tyX9_ok, nmX9, rfl⟩
theorem zt_4_126 : (Jvm.Cond.fieldLink "TorchPlateModel" (13 : Nat) "TorchPlateModel" "told" "[I") ∈ wsL_law := z_in4 (List.mem_of_getElem? (i := 126) rfl) rfl
theorem zf_X9_13 : z_F RX9 13 9 9 true := ⟨RX9, TX9, 34, rfl, by decide, zt_4_126, inlX9, tyX9_ok, nmX9, rfl⟩
theorem zt_4_127 : (Jvm.Cond.fieldLink "TorchPlateModel" (16 : Nat) "TorchPlateModel" "draft" "[I") ∈ wsL_law := z_in4 (List.mem_of_getElem? (i := 127) rfl) rfl
theorem zf_X9_16 : z_F RX9 16 9 10 true := ⟨RX9, TX9, 34, rfl, by decide, zt_4_127, inlX9, tyX9_ok, nmX9, rfl⟩
theorem zt_4_128 : (Jvm.Cond.fieldLink "TorchPlateModel" (19 : Nat) "TorchPlateModel" "s" "[I") ∈ wsL_law := z_in4 (List.mem_of_getElem? (i := 128) rfl) rfl
theorem zf_X9_19 : z_F RX9 19 9 11 true := ⟨RX9, TX9, 34, rfl, by decide, zt_4_128, inlX9, tyX9_ok, nmX9, rfl⟩
theorem zt_4_129 : (Jvm.Cond.fieldLink "TorchPlateModel" (22 : Nat) "TorchPlateModel" "undos" "[I") ∈ wsL_law := z_in4 (List.mem_of_getElem? (i := 129) rfl) rfl
theorem zf_X9_22 : z_F RX9 22 9 12 true := ⟨RX9, TX9, 34, rfl, by decide, zt_4_129, inlX9, tyX9_ok, nmX9, rfl⟩
theorem zt_4_131 : (Jvm.Cond.fieldLink "TorchPlateModel" (25 : Nat) "TorchPlateModel" "kept" "[I") ∈ wsL_law := z_in4 (List.mem_of_getElem? (i := 131) rfl) rfl
theorem zf_X9_25 : z_F RX9 25 9 14 true := ⟨RX9, TX9, 34, rfl, by decide, zt_4_131, inlX9, tyX9_ok, nmX9, rfl⟩
theorem zt_4_132 : (Jvm.Cond.fieldLink "TorchPlateModel" (28 : Nat) "TorchPlateModel" "isKept" "[Z") ∈ wsL_law := z_in4 (List.mem_of_getElem? (i := 132) rfl) rfl
theorem zf_X9_28 : z_F RX9 28 9 15 true := ⟨RX9, TX9, 34, rfl, by decide, zt_4_132, inlX9, tyX9_ok, nmX9, rfl⟩
theorem zt_4_133 : (Jvm.Cond.fieldLink "TorchPlateModel" (32 : Nat) "TorchPlateModel" "seenA" "[I") ∈ wsL_law := z_in4 (List.mem_of_getElem? (i := 133) rfl) rfl
theorem zf_X9_32 : z_F RX9 32 9 16 true := ⟨RX9, TX9, 34, rfl, by decide, zt_4_133, inlX9, tyX9_ok, nmX9, rfl⟩
theorem zt_4_134 : (Jvm.Cond.fieldLink "TorchPlateModel" (35 : Nat) "TorchPlateModel" "seenB" "[I") ∈ wsL_law := z_in4 (List.mem_of_getElem? (i := 134) rfl) rfl
theorem zf_X9_35 : z_F RX9 35 9 17 true := ⟨RX9, TX9, 34, rfl, by decide, zt_4_134, inlX9, tyX9_ok, nmX9, rfl⟩
theorem zt_4_135 : (Jvm.Cond.fieldLink "TorchPlateModel" (38 : Nat) "TorchPlateModel" "seenIs" "[I") ∈ wsL_law := z_in4 (List.mem_of_getElem? (i := 135) rfl) rfl
theorem zf_X9_38 : z_F RX9 38 9 18 true := ⟨RX9, TX9, 34, rfl, by decide, zt_4_135, inlX9, tyX9_ok, nmX9, rfl⟩
theorem zt_4_137 : (Jvm.Cond.fieldLink "TorchPlateModel" (41 : Nat) "TorchPlateModel" "inside" "[I") ∈ wsL_law := z_in4 (List.mem_of_getElem? (i := 137) rfl) rfl
theorem zf_X9_41 : z_F RX9 41 9 20 true := ⟨RX9, TX9, 34, rfl, by decide, zt_4_137, inlX9, tyX9_ok, nmX9, rfl⟩
theorem zt_4_138 : (Jvm.Cond.fieldLink "TorchPlateModel" (44 : Nat) "TorchPlateModel" "root" "[I") ∈ wsL_law := z_in4 (List.mem_of_getElem? (i := 138) rfl) rfl
theorem zf_X9_44 : z_F RX9 44 9 21 true := ⟨RX9, TX9, 34, rfl, by decide, zt_4_138, inlX9, tyX9_ok, nmX9, rfl⟩
theorem zt_4_139 : (Jvm.Cond.fieldLink "TorchPlateModel" (47 : Nat) "TorchPlateModel" "pieceRoot" "[I") ∈ wsL_law := z_in4 (List.mem_of_getElem? (i := 139) rfl) rfl
theorem zf_X9_47 : z_F RX9 47 9 22 true := ⟨RX9, TX9, 34, rfl, by decide, zt_4_139, inlX9, tyX9_ok, nmX9, rfl⟩
theorem zt_4_141 : (Jvm.Cond.fieldLink "TorchPlateModel" (50 : Nat) "TorchPlateModel" "mate" "[I") ∈ wsL_law := z_in4 (List.mem_of_getElem? (i := 141) rfl) rfl
theorem zf_X9_50 : z_F RX9 50 9 24 true := ⟨RX9, TX9, 34, rfl, by decide, zt_4_141, inlX9, tyX9_ok, nmX9, rfl⟩
theorem zt_4_142 : (Jvm.Cond.fieldLink "TorchPlateModel" (53 : Nat) "TorchPlateModel" "least" "[I") ∈ wsL_law := z_in4 (List.mem_of_getElem? (i := 142) rfl) rfl
theorem zf_X9_53 : z_F RX9 53 9 25 true := ⟨RX9, TX9, 34, rfl, by decide, zt_4_142, inlX9, tyX9_ok, nmX9, rfl⟩
theorem zt_4_143 : (Jvm.Cond.fieldLink "TorchPlateModel" (56 : Nat) "TorchPlateModel" "steps" "[I") ∈ wsL_law := z_in4 (List.mem_of_getElem? (i := 143) rfl) rfl
theorem zf_X9_56 : z_F RX9 56 9 26 true := ⟨RX9, TX9, 34, rfl, by decide, zt_4_143, inlX9, tyX9_ok, nmX9, rfl⟩
theorem zt_4_144 : (Jvm.Cond.fieldLink "TorchPlateModel" (59 : Nat) "TorchPlateModel" "stepCut" "[Z") ∈ wsL_law := z_in4 (List.mem_of_getElem? (i := 144) rfl) rfl
theorem zf_X9_59 : z_F RX9 59 9 27 true := ⟨RX9, TX9, 34, rfl, by decide, zt_4_144, inlX9, tyX9_ok, nmX9, rfl⟩
theorem zt_4_146 : (Jvm.Cond.fieldLink "TorchPlateModel" (62 : Nat) "TorchPlateModel" "open" "[I") ∈ wsL_law := z_in4 (List.mem_of_getElem? (i := 146) rfl) rfl
theorem zf_X9_62 : z_F RX9 62 9 29 true := ⟨RX9, TX9, 34, rfl, by decide, zt_4_146, inlX9, tyX9_ok, nmX9, rfl⟩
theorem zt_4_147 : (Jvm.Cond.fieldLink "TorchPlateModel" (65 : Nat) "TorchPlateModel" "order" "[I") ∈ wsL_law := z_in4 (List.mem_of_getElem? (i := 147) rfl) rfl
theorem zf_X9_65 : z_F RX9 65 9 30 true := ⟨RX9, TX9, 34, rfl, by decide, zt_4_147, inlX9, tyX9_ok, nmX9, rfl⟩
theorem zt_4_148 : (Jvm.Cond.fieldLink "TorchPlateModel" (68 : Nat) "TorchPlateModel" "bestOrder" "[I") ∈ wsL_law := z_in4 (List.mem_of_getElem? (i := 148) rfl) rfl
theorem zf_X9_68 : z_F RX9 68 9 31 true := ⟨RX9, TX9, 34, rfl, by decide, zt_4_148, inlX9, tyX9_ok, nmX9, rfl⟩
theorem zt_4_150 : (Jvm.Cond.fieldLink "TorchPlateModel" (71 : Nat) "TorchPlateModel" "by" "[I") ∈ wsL_law := z_in4 (List.mem_of_getElem? (i := 150) rfl) rfl
theorem zf_X9_71 : z_F RX9 71 9 33 true := ⟨RX9, TX9, 34, rfl, by decide, zt_4_150, inlX9, tyX9_ok, nmX9, rfl⟩
theorem zt_4_117 : (Jvm.Cond.fieldLink "TorchPlateModel" (80 : Nat) "TorchPlateModel" "thrown" "I") ∈ wsL_law := z_in4 (List.mem_of_getElem? (i := 117) rfl) rfl
theorem zf_X9_80 : z_F RX9 80 9 0 false := ⟨RX9, TX9, 34, rfl, by decide, zt_4_117, inlX9, tyX9_ok, nmX9, rfl⟩
theorem zt_4_119 : (Jvm.Cond.fieldLink "TorchPlateModel" (92 : Nat) "TorchPlateModel" "typed" "I") ∈ wsL_law := z_in4 (List.mem_of_getElem? (i := 119) rfl) rfl
theorem zf_X9_92 : z_F RX9 92 9 2 false := ⟨RX9, TX9, 34, rfl, by decide, zt_4_119, inlX9, tyX9_ok, nmX9, rfl⟩
theorem zt_4_120 : (Jvm.Cond.fieldLink "TorchPlateModel" (95 : Nat) "TorchPlateModel" "at" "I") ∈ wsL_law := z_in4 (List.mem_of_getElem? (i := 120) rfl) rfl
theorem zf_X9_95 : z_F RX9 95 9 3 false := ⟨RX9, TX9, 34, rfl, by decide, zt_4_120, inlX9, tyX9_ok, nmX9, rfl⟩
theorem zt_4_122 : (Jvm.Cond.fieldLink "TorchPlateModel" (102 : Nat) "TorchPlateModel" "start" "I") ∈ wsL_law := z_in4 (List.mem_of_getElem? (i := 122) rfl) rfl
theorem zf_X9_102 : z_F RX9 102 9 5 false := ⟨RX9, TX9, 34, rfl, by decide, zt_4_122, inlX9, tyX9_ok, nmX9, rfl⟩
theorem zt_4_121 : (Jvm.Cond.fieldLink "TorchPlateModel" (105 : Nat) "TorchPlateModel" "token" "I") ∈ wsL_law := z_in4 (List.mem_of_getElem? (i := 121) rfl) rfl
theorem zf_X9_105 : z_F RX9 105 9 4 false := ⟨RX9, TX9, 34, rfl, by decide, zt_4_121, inlX9, tyX9_ok, nmX9, rfl⟩
theorem zt_4_123 : (Jvm.Cond.fieldLink "TorchPlateModel" (108 : Nat) "TorchPlateModel" "value" "I") ∈ wsL_law := z_in4 (List.mem_of_getElem? (i := 123) rfl) rfl
theorem zf_X9_108 : z_F RX9 108 9 6 false := ⟨RX9, TX9, 34, rfl, by decide, zt_4_123, inlX9, tyX9_ok, nmX9, rfl⟩
theorem zt_4_124 : (Jvm.Cond.fieldLink "TorchPlateModel" (111 : Nat) "TorchPlateModel" "fault" "I") ∈ wsL_law := z_in4 (List.mem_of_getElem? (i := 124) rfl) rfl
theorem zf_X9_111 : z_F RX9 111 9 7 false := ⟨RX9, TX9, 34, rfl, by decide, zt_4_124, inlX9, tyX9_ok, nmX9, rfl⟩
theorem zt_4_125 : (Jvm.Cond.fieldLink "TorchPlateModel" (121 : Nat) "TorchPlateModel" "heated" "Z") ∈ wsL_law := z_in4 (List.mem_of_getElem? (i := 125) rfl) rfl
theorem zf_X9_121 : z_F RX9 121 9 8 false := ⟨RX9, TX9, 34, rfl, by decide, zt_4_125, inlX9, tyX9_ok, nmX9, rfl⟩
theorem zt_4_136 : (Jvm.Cond.fieldLink "TorchPlateModel" (171 : Nat) "TorchPlateModel" "seenMany" "I") ∈ wsL_law := z_in4 (List.mem_of_getElem? (i := 136) rfl) rfl
theorem zf_X9_171 : z_F RX9 171 9 19 false := ⟨RX9, TX9, 34, rfl, by decide, zt_4_136, inlX9, tyX9_ok, nmX9, rfl⟩
theorem zt_4_130 : (Jvm.Cond.fieldLink "TorchPlateModel" (174 : Nat) "TorchPlateModel" "undoMany" "I") ∈ wsL_law := z_in4 (List.mem_of_getElem? (i := 130) rfl) rfl
theorem zf_X9_174 : z_F RX9 174 9 13 false := ⟨RX9, TX9, 34, rfl, by decide, zt_4_130, inlX9, tyX9_ok, nmX9, rfl⟩
theorem zt_4_140 : (Jvm.Cond.fieldLink "TorchPlateModel" (198 : Nat) "TorchPlateModel" "pieceMany" "I") ∈ wsL_law := z_in4 (List.mem_of_getElem? (i := 140) rfl) rfl
theorem zf_X9_198 : z_F RX9 198 9 23 false := ⟨RX9, TX9, 34, rfl, by decide, zt_4_140, inlX9, tyX9_ok, nmX9, rfl⟩
theorem zt_4_145 : (Jvm.Cond.fieldLink "TorchPlateModel" (272 : Nat) "TorchPlateModel" "stepMany" "I") ∈ wsL_law := z_in4 (List.mem_of_getElem? (i := 145) rfl) rfl
theorem zf_X9_272 : z_F RX9 272 9 28 false := ⟨RX9, TX9, 34, rfl, by decide, zt_4_145, inlX9, tyX9_ok, nmX9, rfl⟩
theorem zt_4_149 : (Jvm.Cond.fieldLink "TorchPlateModel" (281 : Nat) "TorchPlateModel" "tourWay" "I") ∈ wsL_law := z_in4 (List.mem_of_getElem? (i := 149) rfl) rfl
theorem zf_X9_281 : z_F RX9 281 9 32 false := ⟨RX9, TX9, 34, rfl, by decide, zt_4_149, inlX9, tyX9_ok, nmX9, rfl⟩
theorem zt_1_19 : (Jvm.Cond.code ({ cls := "TorchPlate", name := "<init>", desc := "()V" } : Jvm.MethodName) prog_1_method_1_code (2 : Nat) (Option.none : Option Jvm.ClassFile.FieldType)) ∈ wsL_law := z_in1 (List.mem_of_getElem? (i := 19) rfl) rfl
theorem zt_1_1 : (Jvm.Cond.initialized "TorchPlate") ∈ wsL_law := z_in1 (List.mem_of_getElem? (i := 1) rfl) rfl
theorem zk0_X8_init : z_K0 mX8_init 0 := ⟨zt_1_19, zt_1_1, ⟨by decide +kernel, by decide +kernel⟩, by decide +kernel, by decide +kernel, by decide⟩
theorem zt_1_27 : (Jvm.Cond.code ({ cls := "TorchPlate$Plate", name := "<init>", desc := "()V" } : Jvm.MethodName) prog_3_method_1_code (1 : Nat) (Option.none : Option Jvm.ClassFile.FieldType)) ∈ wsL_law := z_in1 (List.mem_of_getElem? (i := 27) rfl) rfl
theorem zt_1_2 : (Jvm.Cond.initialized "TorchPlate$Plate") ∈ wsL_law := z_in1 (List.mem_of_getElem? (i := 2) rfl) rfl
theorem zk0_X1_init : z_K0 mX1_init 0 := ⟨zt_1_27, zt_1_2, ⟨by decide +kernel, by decide +kernel⟩, by decide +kernel, by decide +kernel, by decide⟩
theorem zt_1_114 : (Jvm.Cond.code ({ cls := "TorchPlate$Reader", name := "<init>", desc := "()V" } : Jvm.MethodName) prog_5_method_1_code (1 : Nat) (Option.none : Option Jvm.ClassFile.FieldType)) ∈ wsL_law := z_in1 (List.mem_of_getElem? (i := 114) rfl) rfl
theorem zt_1_3 : (Jvm.Cond.initialized "TorchPlate$Reader") ∈ wsL_law := z_in1 (List.mem_of_getElem? (i := 3) rfl) rfl
theorem zk0_X3_init : z_K0 mX3_init 0 := ⟨zt_1_114, zt_1_3, ⟨by decide +kernel, by decide +kernel⟩, by decide +kernel, by decide +kernel, by decide⟩
theorem zt_1_148 : (Jvm.Cond.code ({ cls := "TorchPlate$Plight", name := "<init>", desc := "()V" } : Jvm.MethodName) prog_4_method_1_code (1 : Nat) (Option.none : Option Jvm.ClassFile.FieldType)) ∈ wsL_law := z_in1 (List.mem_of_getElem? (i := 148) rfl) rfl
theorem zt_1_4 : (Jvm.Cond.initialized "TorchPlate$Plight") ∈ wsL_law := z_in1 (List.mem_of_getElem? (i := 4) rfl) rfl
theorem zk0_X2_init : z_K0 mX2_init 0 := ⟨zt_1_148, zt_1_4, ⟨by decide +kernel, by decide +kernel⟩, by decide +kernel, by decide +kernel, by decide⟩
theorem zt_1_176 : (Jvm.Cond.code ({ cls := "TorchPlate$Past", name := "<init>", desc := "()V" } : Jvm.MethodName) prog_2_method_1_code (2 : Nat) (Option.none : Option Jvm.ClassFile.FieldType)) ∈ wsL_law := z_in1 (List.mem_of_getElem? (i := 176) rfl) rfl
theorem zt_1_5 : (Jvm.Cond.initialized "TorchPlate$Past") ∈ wsL_law := z_in1 (List.mem_of_getElem? (i := 5) rfl) rfl
theorem zk0_X0_init : z_K0 mX0_init 0 := ⟨zt_1_176, zt_1_5, ⟨by decide +kernel, by decide +kernel⟩, by decide +kernel, by decide +kernel, by decide⟩
theorem zt_1_196 : (Jvm.Cond.code ({ cls := "TorchPlate$Survey", name := "<init>", desc := "()V" } : Jvm.MethodName) prog_6_method_1_code (1 : Nat) (Option.none : Option Jvm.ClassFile.FieldType)) ∈ wsL_law := z_in1 (List.mem_of_getElem? (i := 196) rfl) rfl
theorem zt_1_6 : (Jvm.Cond.initialized "TorchPlate$Survey") ∈ wsL_law := z_in1 (List.mem_of_getElem? (i := 6) rfl) rfl
theorem zk0_X4_init : z_K0 mX4_init 0 := ⟨zt_1_196, zt_1_6, ⟨by decide +kernel, by decide +kernel⟩, by decide +kernel, by decide +kernel, by decide⟩
theorem zt_1_202 : (Jvm.Cond.code ({ cls := "TorchPlate$Web", name := "<init>", desc := "()V" } : Jvm.MethodName) prog_8_method_1_code (1 : Nat) (Option.none : Option Jvm.ClassFile.FieldType)) ∈ wsL_law := z_in1 (List.mem_of_getElem? (i := 202) rfl) rfl
theorem zt_1_7 : (Jvm.Cond.initialized "TorchPlate$Web") ∈ wsL_law := z_in1 (List.mem_of_getElem? (i := 7) rfl) rfl
theorem zk0_X6_init : z_K0 mX6_init 0 := ⟨zt_1_202, zt_1_7, ⟨by decide +kernel, by decide +kernel⟩, by decide +kernel, by decide +kernel, by decide⟩
theorem zt_2_27 : (Jvm.Cond.code ({ cls := "TorchPlate$Walk", name := "<init>", desc := "()V" } : Jvm.MethodName) prog_7_method_1_code (1 : Nat) (Option.none : Option Jvm.ClassFile.FieldType)) ∈ wsL_law := z_in2 (List.mem_of_getElem? (i := 27) rfl) rfl
theorem zt_1_8 : (Jvm.Cond.initialized "TorchPlate$Walk") ∈ wsL_law := z_in1 (List.mem_of_getElem? (i := 8) rfl) rfl
theorem zk0_X5_init : z_K0 mX5_init 0 := ⟨zt_2_27, zt_1_8, ⟨by decide +kernel, by decide +kernel⟩, by decide +kernel, by decide +kernel, by decide⟩
theorem zt_2_55 : (Jvm.Cond.code ({ cls := "TorchPlate$Witness", name := "<init>", desc := "()V" } : Jvm.MethodName) prog_9_method_1_code (1 : Nat) (Option.none : Option Jvm.ClassFile.FieldType)) ∈ wsL_law := z_in2 (List.mem_of_getElem? (i := 55) rfl) rfl
theorem zt_1_9 : (Jvm.Cond.initialized "TorchPlate$Witness") ∈ wsL_law := z_in1 (List.mem_of_getElem? (i := 9) rfl) rfl
theorem zk0_X7_init : z_K0 mX7_init 0 := ⟨zt_2_55, zt_1_9, ⟨by decide +kernel, by decide +kernel⟩, by decide +kernel, by decide +kernel, by decide⟩
theorem zt_2_82 : (Jvm.Cond.code ({ cls := "TorchPlate$Plight", name := "beginOn", desc := "(LTorchPlate$Plate;)V" } : Jvm.MethodName) prog_4_method_2_code (2 : Nat) (Option.none : Option Jvm.ClassFile.FieldType)) ∈ wsL_law := z_in2 (List.mem_of_getElem? (i := 82) rfl) rfl
theorem zk0_X2_beginOn : z_K0 mX2_beginOn 1 := ⟨zt_2_82, zt_1_4, ⟨by decide +kernel, by decide +kernel⟩, by decide +kernel, by decide +kernel, by decide⟩
theorem zt_2_85 : (Jvm.Cond.code ({ cls := "java/util/Arrays", name := "fill", desc := "([II)V" } : Jvm.MethodName) prog_15_method_103_code (4 : Nat) (Option.none : Option Jvm.ClassFile.FieldType)) ∈ wsL_law := z_in2 (List.mem_of_getElem? (i := 85) rfl) rfl
theorem zt_1_10 : (Jvm.Cond.initialized "java/util/Arrays") ∈ wsL_law := z_in1 (List.mem_of_getElem? (i := 10) rfl) rfl
theorem zk0_J7_fill_53178 : z_K0 mJ7_fill_53178 2 := ⟨zt_2_85, zt_1_10, ⟨by decide +kernel, by decide +kernel⟩, by decide +kernel, by decide +kernel, by decide⟩
theorem zt_2_126 : (Jvm.Cond.code ({ cls := "TorchPlate", name := "type", desc := "(I)I" } : Jvm.MethodName) prog_1_method_2_code (2 : Nat) (Option.some Jvm.ClassFile.FieldType.int)) ∈ wsL_law := z_in2 (List.mem_of_getElem? (i := 126) rfl) rfl
theorem zk0_X8_type : z_K0 mX8_type 1 := ⟨zt_2_126, zt_1_1, ⟨by decide +kernel, by decide +kernel⟩, by decide +kernel, by decide +kernel, by decide⟩
theorem zt_2_130 : (Jvm.Cond.code ({ cls := "TorchPlate", name := "clear", desc := "()I" } : Jvm.MethodName) prog_1_method_3_code (2 : Nat) (Option.some Jvm.ClassFile.FieldType.int)) ∈ wsL_law := z_in2 (List.mem_of_getElem? (i := 130) rfl) rfl
theorem zk0_X8_clear : z_K0 mX8_clear 0 := ⟨zt_2_130, zt_1_1, ⟨by decide +kernel, by decide +kernel⟩, by decide +kernel, by decide +kernel, by decide⟩
theorem zt_2_134 : (Jvm.Cond.code ({ cls := "TorchPlate", name := "plate", desc := "()I" } : Jvm.MethodName) prog_1_method_4_code (3 : Nat) (Option.some Jvm.ClassFile.FieldType.int)) ∈ wsL_law := z_in2 (List.mem_of_getElem? (i := 134) rfl) rfl
theorem zk0_X8_plate : z_K0 mX8_plate 0 := ⟨zt_2_134, zt_1_1, ⟨by decide +kernel, by decide +kernel⟩, by decide +kernel, by decide +kernel, by decide⟩
theorem zt_2_138 : (Jvm.Cond.code ({ cls := "TorchPlate$Reader", name := "read", desc := "([IILTorchPlate$Plate;)I" } : Jvm.MethodName) prog_5_method_2_code (5 : Nat) (Option.some Jvm.ClassFile.FieldType.int)) ∈ wsL_law := z_in2 (List.mem_of_getElem? (i := 138) rfl) rfl
theorem zk0_X3_read : z_K0 mX3_read 3 := ⟨zt_2_138, zt_1_3, ⟨by decide +kernel, by decide +kernel⟩, by decide +kernel, by decide +kernel, by decide⟩
theorem zt_2_142 : (Jvm.Cond.code ({ cls := "TorchPlate$Plate", name := "wipe", desc := "()V" } : Jvm.MethodName) prog_3_method_2_code (1 : Nat) (Option.none : Option Jvm.ClassFile.FieldType)) ∈ wsL_law := z_in2 (List.mem_of_getElem? (i := 142) rfl) rfl
theorem zk0_X1_wipe : z_K0 mX1_wipe 0 := ⟨zt_2_142, zt_1_2, ⟨by decide +kernel, by decide +kernel⟩, by decide +kernel, by decide +kernel, by decide⟩
theorem zt_2_147 : (Jvm.Cond.code ({ cls := "TorchPlate$Reader", name := "readToken", desc := "([II)V" } : Jvm.MethodName) prog_5_method_3_code (6 : Nat) (Option.none : Option Jvm.ClassFile.FieldType)) ∈ wsL_law := z_in2 (List.mem_of_getElem? (i := 147) rfl) rfl
theorem zk0_X3_readToken : z_K0 mX3_readToken 2 := ⟨zt_2_147, zt_1_3, ⟨by decide +kernel, by decide +kernel⟩, by decide +kernel, by decide +kernel, by decide⟩
theorem zt_2_153 : (Jvm.Cond.code ({ cls := "TorchPlate$Reader", name := "isDigit", desc := "(I)Z" } : Jvm.MethodName) prog_5_method_5_code (1 : Nat) (Option.some Jvm.ClassFile.FieldType.boolean)) ∈ wsL_law := z_in2 (List.mem_of_getElem? (i := 153) rfl) rfl
theorem zk0_X3_isDigit : z_K0 mX3_isDigit 1 := ⟨zt_2_153, zt_1_3, ⟨by decide +kernel, by decide +kernel⟩, by decide +kernel, by decide +kernel, by decide⟩
theorem zt_2_157 : (Jvm.Cond.code ({ cls := "TorchPlate$Reader", name := "readNumber", desc := "([II)V" } : Jvm.MethodName) prog_5_method_4_code (6 : Nat) (Option.none : Option Jvm.ClassFile.FieldType)) ∈ wsL_law := z_in2 (List.mem_of_getElem? (i := 157) rfl) rfl
theorem zk0_X3_readNumber : z_K0 mX3_readNumber 2 := ⟨zt_2_157, zt_1_3, ⟨by decide +kernel, by decide +kernel⟩, by decide +kernel, by decide +kernel, by decide⟩
theorem zt_2_161 : (Jvm.Cond.code ({ cls := "TorchPlate$Reader", name := "takesToken", desc := "(LTorchPlate$Plate;)Z" } : Jvm.MethodName) prog_5_method_6_code (2 : Nat) (Option.some Jvm.ClassFile.FieldType.boolean)) ∈ wsL_law := z_in2 (List.mem_of_getElem? (i := 161) rfl) rfl
theorem zk0_X3_takesToken : z_K0 mX3_takesToken 1 := ⟨zt_2_161, zt_1_3, ⟨by decide +kernel, by decide +kernel⟩, by decide +kernel, by decide +kernel, by decide⟩
theorem zt_2_165 : (Jvm.Cond.code ({ cls := "TorchPlate$Reader", name := "beginsItem", desc := "(LTorchPlate$Plate;)Z" } : Jvm.MethodName) prog_5_method_7_code (2 : Nat) (Option.some Jvm.ClassFile.FieldType.boolean)) ∈ wsL_law := z_in2 (List.mem_of_getElem? (i := 165) rfl) rfl
theorem zk0_X3_beginsItem : z_K0 mX3_beginsItem 1 := ⟨zt_2_165, zt_1_3, ⟨by decide +kernel, by decide +kernel⟩, by decide +kernel, by decide +kernel, by decide⟩
theorem zt_2_169 : (Jvm.Cond.code ({ cls := "TorchPlate$Reader", name := "endsItem", desc := "(LTorchPlate$Plate;)Z" } : Jvm.MethodName) prog_5_method_13_code (3 : Nat) (Option.some Jvm.ClassFile.FieldType.boolean)) ∈ wsL_law := z_in2 (List.mem_of_getElem? (i := 169) rfl) rfl
theorem zk0_X3_endsItem : z_K0 mX3_endsItem 1 := ⟨zt_2_169, zt_1_3, ⟨by decide +kernel, by decide +kernel⟩, by decide +kernel, by decide +kernel, by decide⟩
theorem zt_2_173 : (Jvm.Cond.code ({ cls := "TorchPlate$Reader", name := "endsRing", desc := "(LTorchPlate$Plate;)Z" } : Jvm.MethodName) prog_5_method_14_code (2 : Nat) (Option.some Jvm.ClassFile.FieldType.boolean)) ∈ wsL_law := z_in2 (List.mem_of_getElem? (i := 173) rfl) rfl
theorem zk0_X3_endsRing : z_K0 mX3_endsRing 1 := ⟨zt_2_173, zt_1_3, ⟨by decide +kernel, by decide +kernel⟩, by decide +kernel, by decide +kernel, by decide⟩
theorem zt_2_177 : (Jvm.Cond.code ({ cls := "TorchPlate$Plate", name := "join", desc := "(II)Z" } : Jvm.MethodName) prog_3_method_6_code (3 : Nat) (Option.some Jvm.ClassFile.FieldType.boolean)) ∈ wsL_law := z_in2 (List.mem_of_getElem? (i := 177) rfl) rfl
theorem zk0_X1_join : z_K0 mX1_join 2 := ⟨zt_2_177, zt_1_2, ⟨by decide +kernel, by decide +kernel⟩, by decide +kernel, by decide +kernel, by decide⟩
theorem zt_2_181 : (Jvm.Cond.code ({ cls := "TorchPlate$Plate", name := "hasCorner", desc := "(I)Z" } : Jvm.MethodName) prog_3_method_3_code (2 : Nat) (Option.some Jvm.ClassFile.FieldType.boolean)) ∈ wsL_law := z_in2 (List.mem_of_getElem? (i := 181) rfl) rfl
theorem zk0_X1_hasCorner : z_K0 mX1_hasCorner 1 := ⟨zt_2_181, zt_1_2, ⟨by decide +kernel, by decide +kernel⟩, by decide +kernel, by decide +kernel, by decide⟩
theorem zt_2_184 : (Jvm.Cond.code ({ cls := "TorchPlate", name := "has", desc := "(II)Z" } : Jvm.MethodName) prog_1_method_27_code (2 : Nat) (Option.some Jvm.ClassFile.FieldType.boolean)) ∈ wsL_law := z_in2 (List.mem_of_getElem? (i := 184) rfl) rfl
theorem zk0_X8_has : z_K0 mX8_has 2 := ⟨zt_2_184, zt_1_1, ⟨by decide +kernel, by decide +kernel⟩, by decide +kernel, by decide +kernel, by decide⟩
theorem zt_2_188 : (Jvm.Cond.code ({ cls := "TorchPlate$Reader", name := "takesNumber", desc := "(LTorchPlate$Plate;)Z" } : Jvm.MethodName) prog_5_method_8_code (2 : Nat) (Option.some Jvm.ClassFile.FieldType.boolean)) ∈ wsL_law := z_in2 (List.mem_of_getElem? (i := 188) rfl) rfl
theorem zk0_X3_takesNumber : z_K0 mX3_takesNumber 1 := ⟨zt_2_188, zt_1_3, ⟨by decide +kernel, by decide +kernel⟩, by decide +kernel, by decide +kernel, by decide⟩
theorem zt_2_192 : (Jvm.Cond.code ({ cls := "TorchPlate$Reader", name := "takesHeat", desc := "(LTorchPlate$Plate;)Z" } : Jvm.MethodName) prog_5_method_9_code (2 : Nat) (Option.some Jvm.ClassFile.FieldType.boolean)) ∈ wsL_law := z_in2 (List.mem_of_getElem? (i := 192) rfl) rfl
theorem zk0_X3_takesHeat : z_K0 mX3_takesHeat 1 := ⟨zt_2_192, zt_1_3, ⟨by decide +kernel, by decide +kernel⟩, by decide +kernel, by decide +kernel, by decide⟩
theorem zt_2_196 : (Jvm.Cond.code ({ cls := "TorchPlate$Reader", name := "takesPlace", desc := "(LTorchPlate$Plate;)Z" } : Jvm.MethodName) prog_5_method_10_code (2 : Nat) (Option.some Jvm.ClassFile.FieldType.boolean)) ∈ wsL_law := z_in2 (List.mem_of_getElem? (i := 196) rfl) rfl
theorem zk0_X3_takesPlace : z_K0 mX3_takesPlace 1 := ⟨zt_2_196, zt_1_3, ⟨by decide +kernel, by decide +kernel⟩, by decide +kernel, by decide +kernel, by decide⟩
theorem zt_2_200 : (Jvm.Cond.code ({ cls := "TorchPlate$Plate", name := "addCorner", desc := "(II)Z" } : Jvm.MethodName) prog_3_method_5_code (4 : Nat) (Option.some Jvm.ClassFile.FieldType.boolean)) ∈ wsL_law := z_in2 (List.mem_of_getElem? (i := 200) rfl) rfl
theorem zk0_X1_addCorner : z_K0 mX1_addCorner 2 := ⟨zt_2_200, zt_1_2, ⟨by decide +kernel, by decide +kernel⟩, by decide +kernel, by decide +kernel, by decide⟩
theorem zt_2_204 : (Jvm.Cond.code ({ cls := "TorchPlate$Reader", name := "takesRingCorner", desc := "(LTorchPlate$Plate;)Z" } : Jvm.MethodName) prog_5_method_11_code (4 : Nat) (Option.some Jvm.ClassFile.FieldType.boolean)) ∈ wsL_law := z_in2 (List.mem_of_getElem? (i := 204) rfl) rfl
theorem zk0_X3_takesRingCorner : z_K0 mX3_takesRingCorner 1 := ⟨zt_2_204, zt_1_3, ⟨by decide +kernel, by decide +kernel⟩, by decide +kernel, by decide +kernel, by decide⟩
theorem zt_2_209 : (Jvm.Cond.code ({ cls := "TorchPlate$Reader", name := "takesSeamCorner", desc := "(LTorchPlate$Plate;)Z" } : Jvm.MethodName) prog_5_method_12_code (2 : Nat) (Option.some Jvm.ClassFile.FieldType.boolean)) ∈ wsL_law := z_in2 (List.mem_of_getElem? (i := 209) rfl) rfl
theorem zk0_X3_takesSeamCorner : z_K0 mX3_takesSeamCorner 1 := ⟨zt_2_209, zt_1_3, ⟨by decide +kernel, by decide +kernel⟩, by decide +kernel, by decide +kernel, by decide⟩
theorem zt_2_213 : (Jvm.Cond.code ({ cls := "TorchPlate$Plate", name := "settle", desc := "()V" } : Jvm.MethodName) prog_3_method_7_code (2 : Nat) (Option.none : Option Jvm.ClassFile.FieldType)) ∈ wsL_law := z_in2 (List.mem_of_getElem? (i := 213) rfl) rfl
theorem zk0_X1_settle : z_K0 mX1_settle 0 := ⟨zt_2_213, zt_1_2, ⟨by decide +kernel, by decide +kernel⟩, by decide +kernel, by decide +kernel, by decide⟩
theorem zt_2_217 : (Jvm.Cond.code ({ cls := "TorchPlate$Plate", name := "numberCuts", desc := "()V" } : Jvm.MethodName) prog_3_method_8_code (4 : Nat) (Option.none : Option Jvm.ClassFile.FieldType)) ∈ wsL_law := z_in2 (List.mem_of_getElem? (i := 217) rfl) rfl
theorem zk0_X1_numberCuts : z_K0 mX1_numberCuts 0 := ⟨zt_2_217, zt_1_2, ⟨by decide +kernel, by decide +kernel⟩, by decide +kernel, by decide +kernel, by decide⟩
theorem zt_2_221 : (Jvm.Cond.code ({ cls := "TorchPlate$Plate", name := "cutsOfRing", desc := "(I)I" } : Jvm.MethodName) prog_3_method_9_code (5 : Nat) (Option.some Jvm.ClassFile.FieldType.int)) ∈ wsL_law := z_in2 (List.mem_of_getElem? (i := 221) rfl) rfl
theorem zk0_X1_cutsOfRing : z_K0 mX1_cutsOfRing 1 := ⟨zt_2_221, zt_1_2, ⟨by decide +kernel, by decide +kernel⟩, by decide +kernel, by decide +kernel, by decide⟩
theorem zt_2_225 : (Jvm.Cond.code ({ cls := "TorchPlate$Plate", name := "nextInRing", desc := "(II)I" } : Jvm.MethodName) prog_3_method_10_code (3 : Nat) (Option.some Jvm.ClassFile.FieldType.int)) ∈ wsL_law := z_in2 (List.mem_of_getElem? (i := 225) rfl) rfl
theorem zk0_X1_nextInRing : z_K0 mX1_nextInRing 2 := ⟨zt_2_225, zt_1_2, ⟨by decide +kernel, by decide +kernel⟩, by decide +kernel, by decide +kernel, by decide⟩
theorem zt_2_229 : (Jvm.Cond.code ({ cls := "TorchPlate$Plate", name := "cutBetween", desc := "(II)I" } : Jvm.MethodName) prog_3_method_11_code (6 : Nat) (Option.some Jvm.ClassFile.FieldType.int)) ∈ wsL_law := z_in2 (List.mem_of_getElem? (i := 229) rfl) rfl
theorem zk0_X1_cutBetween : z_K0 mX1_cutBetween 2 := ⟨zt_2_229, zt_1_2, ⟨by decide +kernel, by decide +kernel⟩, by decide +kernel, by decide +kernel, by decide⟩
theorem zt_2_237 : (Jvm.Cond.code ({ cls := "TorchPlate$Plate", name := "partsAround", desc := "(I)I" } : Jvm.MethodName) prog_3_method_12_code (4 : Nat) (Option.some Jvm.ClassFile.FieldType.int)) ∈ wsL_law := z_in2 (List.mem_of_getElem? (i := 237) rfl) rfl
theorem zk0_X1_partsAround : z_K0 mX1_partsAround 1 := ⟨zt_2_237, zt_1_2, ⟨by decide +kernel, by decide +kernel⟩, by decide +kernel, by decide +kernel, by decide⟩
theorem zt_3_1 : (Jvm.Cond.code ({ cls := "TorchPlate$Plate", name := "goesRound", desc := "(II)Z" } : Jvm.MethodName) prog_3_method_13_code (7 : Nat) (Option.some Jvm.ClassFile.FieldType.boolean)) ∈ wsL_law := z_in3 (List.mem_of_getElem? (i := 1) rfl) rfl
theorem zk0_X1_goesRound : z_K0 mX1_goesRound 2 := ⟨zt_3_1, zt_1_2, ⟨by decide +kernel, by decide +kernel⟩, by decide +kernel, by decide +kernel, by decide⟩
theorem zt_3_5 : (Jvm.Cond.code ({ cls := "TorchPlate$Plate", name := "liesOn", desc := "(III)Z" } : Jvm.MethodName) prog_3_method_14_code (4 : Nat) (Option.some Jvm.ClassFile.FieldType.boolean)) ∈ wsL_law := z_in3 (List.mem_of_getElem? (i := 5) rfl) rfl
theorem zk0_X1_liesOn : z_K0 mX1_liesOn 3 := ⟨zt_3_5, zt_1_2, ⟨by decide +kernel, by decide +kernel⟩, by decide +kernel, by decide +kernel, by decide⟩
theorem zt_3_9 : (Jvm.Cond.code ({ cls := "TorchPlate$Plate", name := "side", desc := "(III)I" } : Jvm.MethodName) prog_3_method_16_code (4 : Nat) (Option.some Jvm.ClassFile.FieldType.int)) ∈ wsL_law := z_in3 (List.mem_of_getElem? (i := 9) rfl) rfl
theorem zk0_X1_side : z_K0 mX1_side 3 := ⟨zt_3_9, zt_1_2, ⟨by decide +kernel, by decide +kernel⟩, by decide +kernel, by decide +kernel, by decide⟩
theorem zt_3_13 : (Jvm.Cond.code ({ cls := "TorchPlate$Plate", name := "crossing", desc := "(III)I" } : Jvm.MethodName) prog_3_method_15_code (4 : Nat) (Option.some Jvm.ClassFile.FieldType.int)) ∈ wsL_law := z_in3 (List.mem_of_getElem? (i := 13) rfl) rfl
theorem zk0_X1_crossing : z_K0 mX1_crossing 3 := ⟨zt_3_13, zt_1_2, ⟨by decide +kernel, by decide +kernel⟩, by decide +kernel, by decide +kernel, by decide⟩
theorem zt_3_17 : (Jvm.Cond.code ({ cls := "TorchPlate$Past", name := "lose", desc := "()V" } : Jvm.MethodName) prog_2_method_2_code (1 : Nat) (Option.none : Option Jvm.ClassFile.FieldType)) ∈ wsL_law := z_in3 (List.mem_of_getElem? (i := 17) rfl) rfl
theorem zk0_X0_lose : z_K0 mX0_lose 0 := ⟨zt_3_17, zt_1_5, ⟨by decide +kernel, by decide +kernel⟩, by decide +kernel, by decide +kernel, by decide⟩
theorem zt_3_21 : (Jvm.Cond.code ({ cls := "TorchPlate$Witness", name := "lose", desc := "()V" } : Jvm.MethodName) prog_9_method_2_code (1 : Nat) (Option.none : Option Jvm.ClassFile.FieldType)) ∈ wsL_law := z_in3 (List.mem_of_getElem? (i := 21) rfl) rfl
theorem zk0_X7_lose : z_K0 mX7_lose 0 := ⟨zt_3_21, zt_1_9, ⟨by decide +kernel, by decide +kernel⟩, by decide +kernel, by decide +kernel, by decide⟩
theorem zt_3_25 : (Jvm.Cond.code ({ cls := "TorchPlate", name := "outdate", desc := "()V" } : Jvm.MethodName) prog_1_method_26_code (1 : Nat) (Option.none : Option Jvm.ClassFile.FieldType)) ∈ wsL_law := z_in3 (List.mem_of_getElem? (i := 25) rfl) rfl
theorem zk0_X8_outdate : z_K0 mX8_outdate 0 := ⟨zt_3_25, zt_1_1, ⟨by decide +kernel, by decide +kernel⟩, by decide +kernel, by decide +kernel, by decide⟩
theorem zt_3_29 : (Jvm.Cond.code ({ cls := "TorchPlate", name := "corner", desc := "(II)I" } : Jvm.MethodName) prog_1_method_5_code (3 : Nat) (Option.some Jvm.ClassFile.FieldType.int)) ∈ wsL_law := z_in3 (List.mem_of_getElem? (i := 29) rfl) rfl
theorem zk0_X8_corner : z_K0 mX8_corner 2 := ⟨zt_3_29, zt_1_1, ⟨by decide +kernel, by decide +kernel⟩, by decide +kernel, by decide +kernel, by decide⟩
theorem zt_3_34 : (Jvm.Cond.code ({ cls := "TorchPlate$Plate", name := "cutsAt", desc := "(II)I" } : Jvm.MethodName) prog_3_method_17_code (5 : Nat) (Option.some Jvm.ClassFile.FieldType.int)) ∈ wsL_law := z_in3 (List.mem_of_getElem? (i := 34) rfl) rfl
theorem zk0_X1_cutsAt : z_K0 mX1_cutsAt 2 := ⟨zt_3_34, zt_1_2, ⟨by decide +kernel, by decide +kernel⟩, by decide +kernel, by decide +kernel, by decide⟩
theorem zt_3_38 : (Jvm.Cond.code ({ cls := "TorchPlate", name := "cut", desc := "(II)I" } : Jvm.MethodName) prog_1_method_6_code (3 : Nat) (Option.some Jvm.ClassFile.FieldType.int)) ∈ wsL_law := z_in3 (List.mem_of_getElem? (i := 38) rfl) rfl
theorem zk0_X8_cut : z_K0 mX8_cut 2 := ⟨zt_3_38, zt_1_1, ⟨by decide +kernel, by decide +kernel⟩, by decide +kernel, by decide +kernel, by decide⟩
theorem zt_3_43 : (Jvm.Cond.code ({ cls := "TorchPlate", name := "surveyed", desc := "()LTorchPlate$Survey;" } : Jvm.MethodName) prog_1_method_25_code (1 : Nat) (Option.some (Jvm.ClassFile.FieldType.object "TorchPlate$Survey"))) ∈ wsL_law := z_in3 (List.mem_of_getElem? (i := 43) rfl) rfl
theorem zk0_X8_surveyed : z_K0 mX8_surveyed 0 := ⟨zt_3_43, zt_1_1, ⟨by decide +kernel, by decide +kernel⟩, by decide +kernel, by decide +kernel, by decide⟩
theorem zt_3_47 : (Jvm.Cond.code ({ cls := "TorchPlate$Survey", name := "look", desc := "(LTorchPlate$Plate;LTorchPlate$Plight;)V" } : Jvm.MethodName) prog_6_method_2_code (4 : Nat) (Option.none : Option Jvm.ClassFile.FieldType)) ∈ wsL_law := z_in3 (List.mem_of_getElem? (i := 47) rfl) rfl
theorem zk0_X4_look : z_K0 mX4_look 2 := ⟨zt_3_47, zt_1_6, ⟨by decide +kernel, by decide +kernel⟩, by decide +kernel, by decide +kernel, by decide⟩
theorem zt_3_51 : (Jvm.Cond.code ({ cls := "TorchPlate$Survey", name := "findPieces", desc := "(LTorchPlate$Plate;LTorchPlate$Plight;)V" } : Jvm.MethodName) prog_6_method_8_code (6 : Nat) (Option.none : Option Jvm.ClassFile.FieldType)) ∈ wsL_law := z_in3 (List.mem_of_getElem? (i := 51) rfl) rfl
theorem zk0_X4_findPieces : z_K0 mX4_findPieces 2 := ⟨zt_3_51, zt_1_6, ⟨by decide +kernel, by decide +kernel⟩, by decide +kernel, by decide +kernel, by decide⟩
theorem zt_3_55 : (Jvm.Cond.code ({ cls := "TorchPlate$Web", name := "lay", desc := "(LTorchPlate$Plate;I)V" } : Jvm.MethodName) prog_8_method_2_code (4 : Nat) (Option.none : Option Jvm.ClassFile.FieldType)) ∈ wsL_law := z_in3 (List.mem_of_getElem? (i := 55) rfl) rfl
theorem zk0_X6_lay : z_K0 mX6_lay 2 := ⟨zt_3_55, zt_1_7, ⟨by decide +kernel, by decide +kernel⟩, by decide +kernel, by decide +kernel, by decide⟩
theorem zt_3_60 : (Jvm.Cond.code ({ cls := "TorchPlate$Web", name := "turn", desc := "([III)V" } : Jvm.MethodName) prog_8_method_3_code (3 : Nat) (Option.none : Option Jvm.ClassFile.FieldType)) ∈ wsL_law := z_in3 (List.mem_of_getElem? (i := 60) rfl) rfl
theorem zk0_X6_turn : z_K0 mX6_turn 3 := ⟨zt_3_60, zt_1_7, ⟨by decide +kernel, by decide +kernel⟩, by decide +kernel, by decide +kernel, by decide⟩
theorem zt_3_65 : (Jvm.Cond.code ({ cls := "TorchPlate$Web", name := "reach", desc := "(I)I" } : Jvm.MethodName) prog_8_method_4_code (7 : Nat) (Option.some Jvm.ClassFile.FieldType.int)) ∈ wsL_law := z_in3 (List.mem_of_getElem? (i := 65) rfl) rfl
theorem zk0_X6_reach : z_K0 mX6_reach 1 := ⟨zt_3_65, zt_1_7, ⟨by decide +kernel, by decide +kernel⟩, by decide +kernel, by decide +kernel, by decide⟩
theorem zt_3_68 : (Jvm.Cond.code ({ cls := "TorchPlate$Survey", name := "cutsAmong", desc := "(LTorchPlate$Plate;II)I" } : Jvm.MethodName) prog_6_method_9_code (5 : Nat) (Option.some Jvm.ClassFile.FieldType.int)) ∈ wsL_law := z_in3 (List.mem_of_getElem? (i := 68) rfl) rfl
theorem zk0_X4_cutsAmong : z_K0 mX4_cutsAmong 3 := ⟨zt_3_68, zt_1_6, ⟨by decide +kernel, by decide +kernel⟩, by decide +kernel, by decide +kernel, by decide⟩
theorem zt_3_72 : (Jvm.Cond.code ({ cls := "TorchPlate$Survey", name := "oddAmong", desc := "(I)I" } : Jvm.MethodName) prog_6_method_10_code (4 : Nat) (Option.some Jvm.ClassFile.FieldType.int)) ∈ wsL_law := z_in3 (List.mem_of_getElem? (i := 72) rfl) rfl
theorem zk0_X4_oddAmong : z_K0 mX4_oddAmong 1 := ⟨zt_3_72, zt_1_6, ⟨by decide +kernel, by decide +kernel⟩, by decide +kernel, by decide +kernel, by decide⟩
theorem zt_3_75 : (Jvm.Cond.code ({ cls := "java/lang/Integer", name := "bitCount", desc := "(I)I" } : Jvm.MethodName) prog_12_method_49_code (1 : Nat) (Option.some Jvm.ClassFile.FieldType.int)) ∈ wsL_law := z_in3 (List.mem_of_getElem? (i := 75) rfl) rfl
theorem zt_1_13 : (Jvm.Cond.initialized "java/lang/Integer") ∈ wsL_law := z_in1 (List.mem_of_getElem? (i := 13) rfl) rfl
theorem zk0_J6_bitCount_0f7a4 : z_K0 mJ6_bitCount_0f7a4 1 := ⟨zt_3_75, zt_1_13, ⟨by decide +kernel, by decide +kernel⟩, by decide +kernel, by decide +kernel, by decide⟩
theorem zt_3_82 : (Jvm.Cond.code ({ cls := "TorchPlate$Survey", name := "leastPairs", desc := "(LTorchPlate$Plate;II)I" } : Jvm.MethodName) prog_6_method_11_code (8 : Nat) (Option.some Jvm.ClassFile.FieldType.int)) ∈ wsL_law := z_in3 (List.mem_of_getElem? (i := 82) rfl) rfl
theorem zk0_X4_leastPairs : z_K0 mX4_leastPairs 3 := ⟨zt_3_82, zt_1_6, ⟨by decide +kernel, by decide +kernel⟩, by decide +kernel, by decide +kernel, by decide⟩
theorem zt_3_85 : (Jvm.Cond.code ({ cls := "java/lang/Integer", name := "numberOfTrailingZeros", desc := "(I)I" } : Jvm.MethodName) prog_12_method_48_code (2 : Nat) (Option.some Jvm.ClassFile.FieldType.int)) ∈ wsL_law := z_in3 (List.mem_of_getElem? (i := 85) rfl) rfl
theorem zk0_J6_numberOfTrailingZeros_0f7a4 : z_K0 mJ6_numberOfTrailingZeros_0f7a4 1 := ⟨zt_3_85, zt_1_13, ⟨by decide +kernel, by decide +kernel⟩, by decide +kernel, by decide +kernel, by decide⟩
theorem zt_3_91 : (Jvm.Cond.code ({ cls := "TorchPlate$Plate", name := "way", desc := "(II)I" } : Jvm.MethodName) prog_3_method_4_code (3 : Nat) (Option.some Jvm.ClassFile.FieldType.int)) ∈ wsL_law := z_in3 (List.mem_of_getElem? (i := 91) rfl) rfl
theorem zk0_X1_way : z_K0 mX1_way 2 := ⟨zt_3_91, zt_1_2, ⟨by decide +kernel, by decide +kernel⟩, by decide +kernel, by decide +kernel, by decide⟩
theorem zt_3_99 : (Jvm.Cond.code ({ cls := "TorchPlate$Survey", name := "pairUp", desc := "(LTorchPlate$Plate;II)V" } : Jvm.MethodName) prog_6_method_12_code (11 : Nat) (Option.none : Option Jvm.ClassFile.FieldType)) ∈ wsL_law := z_in3 (List.mem_of_getElem? (i := 99) rfl) rfl
theorem zk0_X4_pairUp : z_K0 mX4_pairUp 3 := ⟨zt_3_99, zt_1_6, ⟨by decide +kernel, by decide +kernel⟩, by decide +kernel, by decide +kernel, by decide⟩
theorem zt_3_103 : (Jvm.Cond.code ({ cls := "TorchPlate$Survey", name := "piecesAhead", desc := "(LTorchPlate$Plate;I)I" } : Jvm.MethodName) prog_6_method_13_code (6 : Nat) (Option.some Jvm.ClassFile.FieldType.int)) ∈ wsL_law := z_in3 (List.mem_of_getElem? (i := 103) rfl) rfl
theorem zk0_X4_piecesAhead : z_K0 mX4_piecesAhead 2 := ⟨zt_3_103, zt_1_6, ⟨by decide +kernel, by decide +kernel⟩, by decide +kernel, by decide +kernel, by decide⟩
theorem zt_3_107 : (Jvm.Cond.code ({ cls := "TorchPlate$Survey", name := "partsIn", desc := "(LTorchPlate$Plate;I)I" } : Jvm.MethodName) prog_6_method_14_code (5 : Nat) (Option.some Jvm.ClassFile.FieldType.int)) ∈ wsL_law := z_in3 (List.mem_of_getElem? (i := 107) rfl) rfl
theorem zk0_X4_partsIn : z_K0 mX4_partsIn 2 := ⟨zt_3_107, zt_1_6, ⟨by decide +kernel, by decide +kernel⟩, by decide +kernel, by decide +kernel, by decide⟩
theorem zt_3_110 : (Jvm.Cond.code ({ cls := "TorchPlate$Survey", name := "isAnyWithin", desc := "(LTorchPlate$Plate;II)Z" } : Jvm.MethodName) prog_6_method_15_code (4 : Nat) (Option.some Jvm.ClassFile.FieldType.boolean)) ∈ wsL_law := z_in3 (List.mem_of_getElem? (i := 110) rfl) rfl
theorem zk0_X4_isAnyWithin : z_K0 mX4_isAnyWithin 3 := ⟨zt_3_110, zt_1_6, ⟨by decide +kernel, by decide +kernel⟩, by decide +kernel, by decide +kernel, by decide⟩
theorem zt_3_114 : (Jvm.Cond.code ({ cls := "TorchPlate$Survey", name := "findTour", desc := "(LTorchPlate$Plate;I)V" } : Jvm.MethodName) prog_6_method_16_code (9 : Nat) (Option.none : Option Jvm.ClassFile.FieldType)) ∈ wsL_law := z_in3 (List.mem_of_getElem? (i := 114) rfl) rfl
theorem zk0_X4_findTour : z_K0 mX4_findTour 2 := ⟨zt_3_114, zt_1_6, ⟨by decide +kernel, by decide +kernel⟩, by decide +kernel, by decide +kernel, by decide⟩
theorem zt_3_117 : (Jvm.Cond.code ({ cls := "TorchPlate$Survey", name := "leastTour", desc := "(LTorchPlate$Plate;LTorchPlate$Survey;III)I" } : Jvm.MethodName) prog_6_method_18_code (9 : Nat) (Option.some Jvm.ClassFile.FieldType.int)) ∈ wsL_law := z_in3 (List.mem_of_getElem? (i := 117) rfl) rfl
theorem zk0_X4_leastTour : z_K0 mX4_leastTour 5 := ⟨zt_3_117, zt_1_6, ⟨by decide +kernel, by decide +kernel⟩, by decide +kernel, by decide +kernel, by decide⟩
theorem zt_3_121 : (Jvm.Cond.code ({ cls := "TorchPlate$Survey", name := "mayBeNext", desc := "(II)Z" } : Jvm.MethodName) prog_6_method_17_code (3 : Nat) (Option.some Jvm.ClassFile.FieldType.boolean)) ∈ wsL_law := z_in3 (List.mem_of_getElem? (i := 121) rfl) rfl
theorem zk0_X4_mayBeNext : z_K0 mX4_mayBeNext 2 := ⟨zt_3_121, zt_1_6, ⟨by decide +kernel, by decide +kernel⟩, by decide +kernel, by decide +kernel, by decide⟩
theorem zt_3_125 : (Jvm.Cond.code ({ cls := "TorchPlate$Survey", name := "pieceOf", desc := "(I)I" } : Jvm.MethodName) prog_6_method_6_code (3 : Nat) (Option.some Jvm.ClassFile.FieldType.int)) ∈ wsL_law := z_in3 (List.mem_of_getElem? (i := 125) rfl) rfl
theorem zk0_X4_pieceOf : z_K0 mX4_pieceOf 1 := ⟨zt_3_125, zt_1_6, ⟨by decide +kernel, by decide +kernel⟩, by decide +kernel, by decide +kernel, by decide⟩
theorem zt_3_130 : (Jvm.Cond.code ({ cls := "TorchPlate", name := "part", desc := "(II)I" } : Jvm.MethodName) prog_1_method_7_code (3 : Nat) (Option.some Jvm.ClassFile.FieldType.int)) ∈ wsL_law := z_in3 (List.mem_of_getElem? (i := 130) rfl) rfl
theorem zk0_X8_part : z_K0 mX8_part 2 := ⟨zt_3_130, zt_1_1, ⟨by decide +kernel, by decide +kernel⟩, by decide +kernel, by decide +kernel, by decide⟩
theorem zt_3_135 : (Jvm.Cond.code ({ cls := "TorchPlate", name := "burns", desc := "(I)I" } : Jvm.MethodName) prog_1_method_8_code (2 : Nat) (Option.some Jvm.ClassFile.FieldType.int)) ∈ wsL_law := z_in3 (List.mem_of_getElem? (i := 135) rfl) rfl
theorem zk0_X8_burns : z_K0 mX8_burns 1 := ⟨zt_3_135, zt_1_1, ⟨by decide +kernel, by decide +kernel⟩, by decide +kernel, by decide +kernel, by decide⟩
theorem zt_3_139 : (Jvm.Cond.code ({ cls := "TorchPlate", name := "burnTo", desc := "(I)Z" } : Jvm.MethodName) prog_1_method_23_code (3 : Nat) (Option.some Jvm.ClassFile.FieldType.boolean)) ∈ wsL_law := z_in3 (List.mem_of_getElem? (i := 139) rfl) rfl
theorem zk0_X8_burnTo : z_K0 mX8_burnTo 1 := ⟨zt_3_139, zt_1_1, ⟨by decide +kernel, by decide +kernel⟩, by decide +kernel, by decide +kernel, by decide⟩
theorem zt_3_144 : (Jvm.Cond.code ({ cls := "TorchPlate$Plight", name := "mayLose", desc := "(ILTorchPlate$Plate;)Z" } : Jvm.MethodName) prog_4_method_8_code (6 : Nat) (Option.some Jvm.ClassFile.FieldType.boolean)) ∈ wsL_law := z_in3 (List.mem_of_getElem? (i := 144) rfl) rfl
theorem zk0_X2_mayLose : z_K0 mX2_mayLose 2 := ⟨zt_3_144, zt_1_4, ⟨by decide +kernel, by decide +kernel⟩, by decide +kernel, by decide +kernel, by decide⟩
theorem zt_3_149 : (Jvm.Cond.code ({ cls := "TorchPlate$Past", name := "remember", desc := "(LTorchPlate$Plight;)V" } : Jvm.MethodName) prog_2_method_3_code (2 : Nat) (Option.none : Option Jvm.ClassFile.FieldType)) ∈ wsL_law := z_in3 (List.mem_of_getElem? (i := 149) rfl) rfl
theorem zk0_X0_remember : z_K0 mX0_remember 1 := ⟨zt_3_149, zt_1_5, ⟨by decide +kernel, by decide +kernel⟩, by decide +kernel, by decide +kernel, by decide⟩
theorem zt_3_153 : (Jvm.Cond.code ({ cls := "TorchPlate$Plight", name := "become", desc := "(LTorchPlate$Plight;)V" } : Jvm.MethodName) prog_4_method_3_code (2 : Nat) (Option.none : Option Jvm.ClassFile.FieldType)) ∈ wsL_law := z_in3 (List.mem_of_getElem? (i := 153) rfl) rfl
theorem zk0_X2_become : z_K0 mX2_become 1 := ⟨zt_3_153, zt_1_4, ⟨by decide +kernel, by decide +kernel⟩, by decide +kernel, by decide +kernel, by decide⟩
theorem zt_3_161 : (Jvm.Cond.code ({ cls := "TorchPlate$Plight", name := "burn", desc := "(IILTorchPlate$Plate;)V" } : Jvm.MethodName) prog_4_method_5_code (5 : Nat) (Option.none : Option Jvm.ClassFile.FieldType)) ∈ wsL_law := z_in3 (List.mem_of_getElem? (i := 161) rfl) rfl
theorem zk0_X2_burn : z_K0 mX2_burn 3 := ⟨zt_3_161, zt_1_4, ⟨by decide +kernel, by decide +kernel⟩, by decide +kernel, by decide +kernel, by decide⟩
theorem zt_3_166 : (Jvm.Cond.code ({ cls := "TorchPlate$Plight", name := "beginOfBurn", desc := "(ILTorchPlate$Plate;)I" } : Jvm.MethodName) prog_4_method_6_code (4 : Nat) (Option.some Jvm.ClassFile.FieldType.int)) ∈ wsL_law := z_in3 (List.mem_of_getElem? (i := 166) rfl) rfl
theorem zk0_X2_beginOfBurn : z_K0 mX2_beginOfBurn 2 := ⟨zt_3_166, zt_1_4, ⟨by decide +kernel, by decide +kernel⟩, by decide +kernel, by decide +kernel, by decide⟩
theorem zt_3_170 : (Jvm.Cond.code ({ cls := "TorchPlate$Plight", name := "coolAt", desc := "(II)I" } : Jvm.MethodName) prog_4_method_7_code (3 : Nat) (Option.some Jvm.ClassFile.FieldType.int)) ∈ wsL_law := z_in3 (List.mem_of_getElem? (i := 170) rfl) rfl
theorem zk0_X2_coolAt : z_K0 mX2_coolAt 2 := ⟨zt_3_170, zt_1_4, ⟨by decide +kernel, by decide +kernel⟩, by decide +kernel, by decide +kernel, by decide⟩
theorem zt_3_176 : (Jvm.Cond.code ({ cls := "TorchPlate", name := "moves", desc := "(I)I" } : Jvm.MethodName) prog_1_method_9_code (2 : Nat) (Option.some Jvm.ClassFile.FieldType.int)) ∈ wsL_law := z_in3 (List.mem_of_getElem? (i := 176) rfl) rfl
theorem zk0_X8_moves : z_K0 mX8_moves 1 := ⟨zt_3_176, zt_1_1, ⟨by decide +kernel, by decide +kernel⟩, by decide +kernel, by decide +kernel, by decide⟩
theorem zt_3_180 : (Jvm.Cond.code ({ cls := "TorchPlate", name := "moveTo", desc := "(I)V" } : Jvm.MethodName) prog_1_method_24_code (2 : Nat) (Option.none : Option Jvm.ClassFile.FieldType)) ∈ wsL_law := z_in3 (List.mem_of_getElem? (i := 180) rfl) rfl
theorem zk0_X8_moveTo : z_K0 mX8_moveTo 1 := ⟨zt_3_180, zt_1_1, ⟨by decide +kernel, by decide +kernel⟩, by decide +kernel, by decide +kernel, by decide⟩
theorem zt_3_184 : (Jvm.Cond.code ({ cls := "TorchPlate$Plight", name := "move", desc := "(ILTorchPlate$Plate;)V" } : Jvm.MethodName) prog_4_method_4_code (3 : Nat) (Option.none : Option Jvm.ClassFile.FieldType)) ∈ wsL_law := z_in3 (List.mem_of_getElem? (i := 184) rfl) rfl
theorem zk0_X2_move : z_K0 mX2_move 2 := ⟨zt_3_184, zt_1_4, ⟨by decide +kernel, by decide +kernel⟩, by decide +kernel, by decide +kernel, by decide⟩
theorem zt_3_188 : (Jvm.Cond.code ({ cls := "TorchPlate", name := "follows", desc := "()I" } : Jvm.MethodName) prog_1_method_10_code (4 : Nat) (Option.some Jvm.ClassFile.FieldType.int)) ∈ wsL_law := z_in3 (List.mem_of_getElem? (i := 188) rfl) rfl
theorem zk0_X8_follows : z_K0 mX8_follows 0 := ⟨zt_3_188, zt_1_1, ⟨by decide +kernel, by decide +kernel⟩, by decide +kernel, by decide +kernel, by decide⟩
theorem zt_3_193 : (Jvm.Cond.code ({ cls := "TorchPlate$Survey", name := "startOf", desc := "(I)I" } : Jvm.MethodName) prog_6_method_4_code (2 : Nat) (Option.some Jvm.ClassFile.FieldType.int)) ∈ wsL_law := z_in3 (List.mem_of_getElem? (i := 193) rfl) rfl
theorem zk0_X4_startOf : z_K0 mX4_startOf 1 := ⟨zt_3_193, zt_1_6, ⟨by decide +kernel, by decide +kernel⟩, by decide +kernel, by decide +kernel, by decide⟩
theorem zt_3_197 : (Jvm.Cond.code ({ cls := "TorchPlate$Survey", name := "hasPiece", desc := "(I)Z" } : Jvm.MethodName) prog_6_method_3_code (2 : Nat) (Option.some Jvm.ClassFile.FieldType.boolean)) ∈ wsL_law := z_in3 (List.mem_of_getElem? (i := 197) rfl) rfl
theorem zk0_X4_hasPiece : z_K0 mX4_hasPiece 1 := ⟨zt_3_197, zt_1_6, ⟨by decide +kernel, by decide +kernel⟩, by decide +kernel, by decide +kernel, by decide⟩
theorem zt_3_201 : (Jvm.Cond.code ({ cls := "TorchPlate$Walk", name := "go", desc := "(LTorchPlate$Plate;LTorchPlate$Survey;I)V" } : Jvm.MethodName) prog_7_method_2_code (6 : Nat) (Option.none : Option Jvm.ClassFile.FieldType)) ∈ wsL_law := z_in3 (List.mem_of_getElem? (i := 201) rfl) rfl
theorem zk0_X5_go : z_K0 mX5_go 3 := ⟨zt_3_201, zt_1_8, ⟨by decide +kernel, by decide +kernel⟩, by decide +kernel, by decide +kernel, by decide⟩
theorem zt_3_206 : (Jvm.Cond.code ({ cls := "TorchPlate$Walk", name := "layOut", desc := "(LTorchPlate$Plate;LTorchPlate$Survey;I)V" } : Jvm.MethodName) prog_7_method_3_code (5 : Nat) (Option.none : Option Jvm.ClassFile.FieldType)) ∈ wsL_law := z_in3 (List.mem_of_getElem? (i := 206) rfl) rfl
theorem zk0_X5_layOut : z_K0 mX5_layOut 3 := ⟨zt_3_206, zt_1_8, ⟨by decide +kernel, by decide +kernel⟩, by decide +kernel, by decide +kernel, by decide⟩
theorem zt_3_213 : (Jvm.Cond.code ({ cls := "TorchPlate$Survey", name := "stepsOf", desc := "(I)I" } : Jvm.MethodName) prog_6_method_5_code (2 : Nat) (Option.some Jvm.ClassFile.FieldType.int)) ∈ wsL_law := z_in3 (List.mem_of_getElem? (i := 213) rfl) rfl
theorem zk0_X4_stepsOf : z_K0 mX4_stepsOf 1 := ⟨zt_3_213, zt_1_6, ⟨by decide +kernel, by decide +kernel⟩, by decide +kernel, by decide +kernel, by decide⟩
theorem zt_3_219 : (Jvm.Cond.code ({ cls := "TorchPlate$Walk", name := "takesStep", desc := "(I)Z" } : Jvm.MethodName) prog_7_method_4_code (3 : Nat) (Option.some Jvm.ClassFile.FieldType.boolean)) ∈ wsL_law := z_in3 (List.mem_of_getElem? (i := 219) rfl) rfl
theorem zk0_X5_takesStep : z_K0 mX5_takesStep 1 := ⟨zt_3_219, zt_1_8, ⟨by decide +kernel, by decide +kernel⟩, by decide +kernel, by decide +kernel, by decide⟩
theorem zt_3_223 : (Jvm.Cond.code ({ cls := "TorchPlate$Walk", name := "takesTie", desc := "([III)Z" } : Jvm.MethodName) prog_7_method_5_code (4 : Nat) (Option.some Jvm.ClassFile.FieldType.boolean)) ∈ wsL_law := z_in3 (List.mem_of_getElem? (i := 223) rfl) rfl
theorem zk0_X5_takesTie : z_K0 mX5_takesTie 3 := ⟨zt_3_223, zt_1_8, ⟨by decide +kernel, by decide +kernel⟩, by decide +kernel, by decide +kernel, by decide⟩
theorem zt_3_227 : (Jvm.Cond.code ({ cls := "TorchPlate$Web", name := "allReachedFrom", desc := "(I)Z" } : Jvm.MethodName) prog_8_method_5_code (4 : Nat) (Option.some Jvm.ClassFile.FieldType.boolean)) ∈ wsL_law := z_in3 (List.mem_of_getElem? (i := 227) rfl) rfl
theorem zk0_X6_allReachedFrom : z_K0 mX6_allReachedFrom 1 := ⟨zt_3_227, zt_1_7, ⟨by decide +kernel, by decide +kernel⟩, by decide +kernel, by decide +kernel, by decide⟩
theorem zt_3_232 : (Jvm.Cond.code ({ cls := "TorchPlate$Walk", name := "notes", desc := "(II)Z" } : Jvm.MethodName) prog_7_method_6_code (3 : Nat) (Option.some Jvm.ClassFile.FieldType.boolean)) ∈ wsL_law := z_in3 (List.mem_of_getElem? (i := 232) rfl) rfl
theorem zk0_X5_notes : z_K0 mX5_notes 2 := ⟨zt_3_232, zt_1_8, ⟨by decide +kernel, by decide +kernel⟩, by decide +kernel, by decide +kernel, by decide⟩
theorem zt_3_236 : (Jvm.Cond.code ({ cls := "TorchPlate", name := "undo", desc := "()I" } : Jvm.MethodName) prog_1_method_11_code (1 : Nat) (Option.some Jvm.ClassFile.FieldType.int)) ∈ wsL_law := z_in3 (List.mem_of_getElem? (i := 236) rfl) rfl
theorem zk0_X8_undo : z_K0 mX8_undo 0 := ⟨zt_3_236, zt_1_1, ⟨by decide +kernel, by decide +kernel⟩, by decide +kernel, by decide +kernel, by decide⟩
theorem zt_4_0 : (Jvm.Cond.code ({ cls := "TorchPlate$Past", name := "restore", desc := "(LTorchPlate$Plight;)Z" } : Jvm.MethodName) prog_2_method_4_code (2 : Nat) (Option.some Jvm.ClassFile.FieldType.boolean)) ∈ wsL_law := z_in4 (List.mem_of_getElem? (i := 0) rfl) rfl
theorem zk0_X0_restore : z_K0 mX0_restore 1 := ⟨zt_4_0, zt_1_5, ⟨by decide +kernel, by decide +kernel⟩, by decide +kernel, by decide +kernel, by decide⟩
theorem zt_4_4 : (Jvm.Cond.code ({ cls := "TorchPlate", name := "piece", desc := "(II)I" } : Jvm.MethodName) prog_1_method_12_code (4 : Nat) (Option.some Jvm.ClassFile.FieldType.int)) ∈ wsL_law := z_in4 (List.mem_of_getElem? (i := 4) rfl) rfl
theorem zk0_X8_piece : z_K0 mX8_piece 2 := ⟨zt_4_4, zt_1_1, ⟨by decide +kernel, by decide +kernel⟩, by decide +kernel, by decide +kernel, by decide⟩
theorem zt_4_10 : (Jvm.Cond.code ({ cls := "TorchPlate", name := "link", desc := "(I)I" } : Jvm.MethodName) prog_1_method_13_code (2 : Nat) (Option.some Jvm.ClassFile.FieldType.int)) ∈ wsL_law := z_in4 (List.mem_of_getElem? (i := 10) rfl) rfl
theorem zk0_X8_link : z_K0 mX8_link 1 := ⟨zt_4_10, zt_1_1, ⟨by decide +kernel, by decide +kernel⟩, by decide +kernel, by decide +kernel, by decide⟩
theorem zt_4_14 : (Jvm.Cond.code ({ cls := "TorchPlate", name := "round", desc := "(III)I" } : Jvm.MethodName) prog_1_method_14_code (5 : Nat) (Option.some Jvm.ClassFile.FieldType.int)) ∈ wsL_law := z_in4 (List.mem_of_getElem? (i := 14) rfl) rfl
theorem zk0_X8_round : z_K0 mX8_round 3 := ⟨zt_4_14, zt_1_1, ⟨by decide +kernel, by decide +kernel⟩, by decide +kernel, by decide +kernel, by decide⟩
theorem zt_4_18 : (Jvm.Cond.code ({ cls := "TorchPlate", name := "tour", desc := "(I)I" } : Jvm.MethodName) prog_1_method_15_code (3 : Nat) (Option.some Jvm.ClassFile.FieldType.int)) ∈ wsL_law := z_in4 (List.mem_of_getElem? (i := 18) rfl) rfl
theorem zk0_X8_tour : z_K0 mX8_tour 1 := ⟨zt_4_18, zt_1_1, ⟨by decide +kernel, by decide +kernel⟩, by decide +kernel, by decide +kernel, by decide⟩
theorem zt_4_22 : (Jvm.Cond.code ({ cls := "TorchPlate$Survey", name := "idle", desc := "()I" } : Jvm.MethodName) prog_6_method_7_code (3 : Nat) (Option.some Jvm.ClassFile.FieldType.int)) ∈ wsL_law := z_in4 (List.mem_of_getElem? (i := 22) rfl) rfl
theorem zk0_X4_idle : z_K0 mX4_idle 0 := ⟨zt_4_22, zt_1_6, ⟨by decide +kernel, by decide +kernel⟩, by decide +kernel, by decide +kernel, by decide⟩
theorem zt_4_26 : (Jvm.Cond.code ({ cls := "TorchPlate", name := "sees", desc := "(III)I" } : Jvm.MethodName) prog_1_method_16_code (4 : Nat) (Option.some Jvm.ClassFile.FieldType.int)) ∈ wsL_law := z_in4 (List.mem_of_getElem? (i := 26) rfl) rfl
theorem zk0_X8_sees : z_K0 mX8_sees 3 := ⟨zt_4_26, zt_1_1, ⟨by decide +kernel, by decide +kernel⟩, by decide +kernel, by decide +kernel, by decide⟩
theorem zt_4_30 : (Jvm.Cond.code ({ cls := "TorchPlate$Witness", name := "add", desc := "(III)Z" } : Jvm.MethodName) prog_9_method_3_code (4 : Nat) (Option.some Jvm.ClassFile.FieldType.boolean)) ∈ wsL_law := z_in4 (List.mem_of_getElem? (i := 30) rfl) rfl
theorem zk0_X7_add : z_K0 mX7_add 3 := ⟨zt_4_30, zt_1_9, ⟨by decide +kernel, by decide +kernel⟩, by decide +kernel, by decide +kernel, by decide⟩
theorem zt_4_34 : (Jvm.Cond.code ({ cls := "TorchPlate", name := "forget", desc := "()I" } : Jvm.MethodName) prog_1_method_17_code (2 : Nat) (Option.some Jvm.ClassFile.FieldType.int)) ∈ wsL_law := z_in4 (List.mem_of_getElem? (i := 34) rfl) rfl
theorem zk0_X8_forget : z_K0 mX8_forget 0 := ⟨zt_4_34, zt_1_1, ⟨by decide +kernel, by decide +kernel⟩, by decide +kernel, by decide +kernel, by decide⟩
theorem zt_4_38 : (Jvm.Cond.code ({ cls := "TorchPlate", name := "unseen", desc := "()I" } : Jvm.MethodName) prog_1_method_18_code (1 : Nat) (Option.some Jvm.ClassFile.FieldType.int)) ∈ wsL_law := z_in4 (List.mem_of_getElem? (i := 38) rfl) rfl
theorem zk0_X8_unseen : z_K0 mX8_unseen 0 := ⟨zt_4_38, zt_1_1, ⟨by decide +kernel, by decide +kernel⟩, by decide +kernel, by decide +kernel, by decide⟩
theorem zt_4_42 : (Jvm.Cond.code ({ cls := "TorchPlate$Witness", name := "suspects", desc := "(LTorchPlate$Plate;I)I" } : Jvm.MethodName) prog_9_method_4_code (5 : Nat) (Option.some Jvm.ClassFile.FieldType.int)) ∈ wsL_law := z_in4 (List.mem_of_getElem? (i := 42) rfl) rfl
theorem zk0_X7_suspects : z_K0 mX7_suspects 2 := ⟨zt_4_42, zt_1_9, ⟨by decide +kernel, by decide +kernel⟩, by decide +kernel, by decide +kernel, by decide⟩
theorem zt_4_48 : (Jvm.Cond.code ({ cls := "TorchPlate$Witness", name := "allIsAsSeen", desc := "()Z" } : Jvm.MethodName) prog_9_method_5_code (3 : Nat) (Option.some Jvm.ClassFile.FieldType.boolean)) ∈ wsL_law := z_in4 (List.mem_of_getElem? (i := 48) rfl) rfl
theorem zk0_X7_allIsAsSeen : z_K0 mX7_allIsAsSeen 0 := ⟨zt_4_48, zt_1_9, ⟨by decide +kernel, by decide +kernel⟩, by decide +kernel, by decide +kernel, by decide⟩
theorem zt_4_53 : (Jvm.Cond.code ({ cls := "TorchPlate", name := "ask", desc := "()I" } : Jvm.MethodName) prog_1_method_19_code (1 : Nat) (Option.some Jvm.ClassFile.FieldType.int)) ∈ wsL_law := z_in4 (List.mem_of_getElem? (i := 53) rfl) rfl
theorem zk0_X8_ask : z_K0 mX8_ask 0 := ⟨zt_4_53, zt_1_1, ⟨by decide +kernel, by decide +kernel⟩, by decide +kernel, by decide +kernel, by decide⟩
theorem zt_4_57 : (Jvm.Cond.code ({ cls := "TorchPlate$Witness", name := "bestQuestion", desc := "(LTorchPlate$Plate;I)I" } : Jvm.MethodName) prog_9_method_6_code (11 : Nat) (Option.some Jvm.ClassFile.FieldType.int)) ∈ wsL_law := z_in4 (List.mem_of_getElem? (i := 57) rfl) rfl
theorem zk0_X7_bestQuestion : z_K0 mX7_bestQuestion 2 := ⟨zt_4_57, zt_1_9, ⟨by decide +kernel, by decide +kernel⟩, by decide +kernel, by decide +kernel, by decide⟩
theorem zt_4_63 : (Jvm.Cond.code ({ cls := "TorchPlate$Witness", name := "tallyPairs", desc := "(LTorchPlate$Plate;II)V" } : Jvm.MethodName) prog_9_method_7_code (6 : Nat) (Option.none : Option Jvm.ClassFile.FieldType)) ∈ wsL_law := z_in4 (List.mem_of_getElem? (i := 63) rfl) rfl
theorem zk0_X7_tallyPairs : z_K0 mX7_tallyPairs 3 := ⟨zt_4_63, zt_1_9, ⟨by decide +kernel, by decide +kernel⟩, by decide +kernel, by decide +kernel, by decide⟩
theorem zt_4_68 : (Jvm.Cond.code ({ cls := "TorchPlate$Witness", name := "countReached", desc := "(II)V" } : Jvm.MethodName) prog_9_method_8_code (5 : Nat) (Option.none : Option Jvm.ClassFile.FieldType)) ∈ wsL_law := z_in4 (List.mem_of_getElem? (i := 68) rfl) rfl
theorem zk0_X7_countReached : z_K0 mX7_countReached 2 := ⟨zt_4_68, zt_1_9, ⟨by decide +kernel, by decide +kernel⟩, by decide +kernel, by decide +kernel, by decide⟩
theorem zt_4_74 : (Jvm.Cond.code ({ cls := "TorchPlate", name := "keep", desc := "(I)I" } : Jvm.MethodName) prog_1_method_20_code (2 : Nat) (Option.some Jvm.ClassFile.FieldType.int)) ∈ wsL_law := z_in4 (List.mem_of_getElem? (i := 74) rfl) rfl
theorem zk0_X8_keep : z_K0 mX8_keep 1 := ⟨zt_4_74, zt_1_1, ⟨by decide +kernel, by decide +kernel⟩, by decide +kernel, by decide +kernel, by decide⟩
theorem zt_4_79 : (Jvm.Cond.code ({ cls := "TorchPlate", name := "back", desc := "(I)I" } : Jvm.MethodName) prog_1_method_21_code (2 : Nat) (Option.some Jvm.ClassFile.FieldType.int)) ∈ wsL_law := z_in4 (List.mem_of_getElem? (i := 79) rfl) rfl
theorem zk0_X8_back : z_K0 mX8_back 1 := ⟨zt_4_79, zt_1_1, ⟨by decide +kernel, by decide +kernel⟩, by decide +kernel, by decide +kernel, by decide⟩
theorem zt_4_83 : (Jvm.Cond.code ({ cls := "TorchPlate", name := "count", desc := "(I)I" } : Jvm.MethodName) prog_1_method_22_code (2 : Nat) (Option.some Jvm.ClassFile.FieldType.int)) ∈ wsL_law := z_in4 (List.mem_of_getElem? (i := 83) rfl) rfl
theorem zk0_X8_count : z_K0 mX8_count 1 := ⟨zt_4_83, zt_1_1, ⟨by decide +kernel, by decide +kernel⟩, by decide +kernel, by decide +kernel, by decide⟩
theorem zt_4_88 : (Jvm.Cond.code ({ cls := "TorchPlateModel", name := "<init>", desc := "()V" } : Jvm.MethodName) prog_11_method_1_code (1 : Nat) (Option.none : Option Jvm.ClassFile.FieldType)) ∈ wsL_law := z_in4 (List.mem_of_getElem? (i := 88) rfl) rfl
theorem zt_1_11 : (Jvm.Cond.initialized "TorchPlateModel") ∈ wsL_law := z_in1 (List.mem_of_getElem? (i := 11) rfl) rfl
theorem zk0_X9_init : z_K0 mX9_init 0 := ⟨zt_4_88, zt_1_11, ⟨by decide +kernel, by decide +kernel⟩, by decide +kernel, by decide +kernel, by decide⟩
theorem zt_4_93 : (Jvm.Cond.code ({ cls := "TorchPlateModel", name := "begins", desc := "()V" } : Jvm.MethodName) prog_11_method_14_code (2 : Nat) (Option.none : Option Jvm.ClassFile.FieldType)) ∈ wsL_law := z_in4 (List.mem_of_getElem? (i := 93) rfl) rfl
theorem zk0_X9_begins : z_K0 mX9_begins 0 := ⟨zt_4_93, zt_1_11, ⟨by decide +kernel, by decide +kernel⟩, by decide +kernel, by decide +kernel, by decide⟩
theorem zt_4_97 : (Jvm.Cond.code ({ cls := "TorchPlateModel", name := "settles", desc := "()V" } : Jvm.MethodName) prog_11_method_27_code (3 : Nat) (Option.none : Option Jvm.ClassFile.FieldType)) ∈ wsL_law := z_in4 (List.mem_of_getElem? (i := 97) rfl) rfl
theorem zk0_X9_settles : z_K0 mX9_settles 0 := ⟨zt_4_97, zt_1_11, ⟨by decide +kernel, by decide +kernel⟩, by decide +kernel, by decide +kernel, by decide⟩
theorem zt_4_101 : (Jvm.Cond.code ({ cls := "TorchPlateModel", name := "isWithin", desc := "(II)Z" } : Jvm.MethodName) prog_11_method_31_code (10 : Nat) (Option.some Jvm.ClassFile.FieldType.boolean)) ∈ wsL_law := z_in4 (List.mem_of_getElem? (i := 101) rfl) rfl
theorem zk0_X9_isWithin : z_K0 mX9_isWithin 2 := ⟨zt_4_101, zt_1_11, ⟨by decide +kernel, by decide +kernel⟩, by decide +kernel, by decide +kernel, by decide⟩
theorem zt_4_105 : (Jvm.Cond.code ({ cls := "TorchPlateModel", name := "ringAt", desc := "(II)I" } : Jvm.MethodName) prog_11_method_28_code (3 : Nat) (Option.some Jvm.ClassFile.FieldType.int)) ∈ wsL_law := z_in4 (List.mem_of_getElem? (i := 105) rfl) rfl
theorem zk0_X9_ringAt : z_K0 mX9_ringAt 2 := ⟨zt_4_105, zt_1_11, ⟨by decide +kernel, by decide +kernel⟩, by decide +kernel, by decide +kernel, by decide⟩
theorem zt_4_109 : (Jvm.Cond.code ({ cls := "TorchPlateModel", name := "isOn", desc := "(III)Z" } : Jvm.MethodName) prog_11_method_30_code (6 : Nat) (Option.some Jvm.ClassFile.FieldType.boolean)) ∈ wsL_law := z_in4 (List.mem_of_getElem? (i := 109) rfl) rfl
theorem zk0_X9_isOn : z_K0 mX9_isOn 3 := ⟨zt_4_109, zt_1_11, ⟨by decide +kernel, by decide +kernel⟩, by decide +kernel, by decide +kernel, by decide⟩
theorem zt_4_112 : (Jvm.Cond.code ({ cls := "TorchPlateModel", name := "in", desc := "(III)Z" } : Jvm.MethodName) prog_11_method_3_code (3 : Nat) (Option.some Jvm.ClassFile.FieldType.boolean)) ∈ wsL_law := z_in4 (List.mem_of_getElem? (i := 112) rfl) rfl
theorem zk0_X9_in : z_K0 mX9_in 3 := ⟨zt_4_112, zt_1_11, ⟨by decide +kernel, by decide +kernel⟩, by decide +kernel, by decide +kernel, by decide⟩
theorem zt_4_116 : (Jvm.Cond.code ({ cls := "TorchPlateModel", name := "side", desc := "(III)I" } : Jvm.MethodName) prog_11_method_29_code (4 : Nat) (Option.some Jvm.ClassFile.FieldType.int)) ∈ wsL_law := z_in4 (List.mem_of_getElem? (i := 116) rfl) rfl
theorem zk0_X9_side : z_K0 mX9_side 3 := ⟨zt_4_116, zt_1_11, ⟨by decide +kernel, by decide +kernel⟩, by decide +kernel, by decide +kernel, by decide⟩
theorem zt_4_224 : (Jvm.Cond.code ({ cls := "TorchPlateModel", name := "type", desc := "(I)I" } : Jvm.MethodName) prog_11_method_7_code (2 : Nat) (Option.some Jvm.ClassFile.FieldType.int)) ∈ wsL_law := z_in4 (List.mem_of_getElem? (i := 224) rfl) rfl
theorem zk0_X9_type : z_K0 mX9_type 1 := ⟨zt_4_224, zt_1_11, ⟨by decide +kernel, by decide +kernel⟩, by decide +kernel, by decide +kernel, by decide⟩
theorem zt_4_228 : (Jvm.Cond.code ({ cls := "TorchPlateModel", name := "clear", desc := "()I" } : Jvm.MethodName) prog_11_method_8_code (2 : Nat) (Option.some Jvm.ClassFile.FieldType.int)) ∈ wsL_law := z_in4 (List.mem_of_getElem? (i := 228) rfl) rfl
theorem zk0_X9_clear : z_K0 mX9_clear 0 := ⟨zt_4_228, zt_1_11, ⟨by decide +kernel, by decide +kernel⟩, by decide +kernel, by decide +kernel, by decide⟩
theorem zt_4_232 : (Jvm.Cond.code ({ cls := "TorchPlateModel", name := "plate", desc := "()I" } : Jvm.MethodName) prog_11_method_26_code (3 : Nat) (Option.some Jvm.ClassFile.FieldType.int)) ∈ wsL_law := z_in4 (List.mem_of_getElem? (i := 232) rfl) rfl
theorem zk0_X9_plate : z_K0 mX9_plate 0 := ⟨zt_4_232, zt_1_11, ⟨by decide +kernel, by decide +kernel⟩, by decide +kernel, by decide +kernel, by decide⟩
theorem zt_4_236 : (Jvm.Cond.code ({ cls := "TorchPlateModel", name := "advances", desc := "()V" } : Jvm.MethodName) prog_11_method_10_code (2 : Nat) (Option.none : Option Jvm.ClassFile.FieldType)) ∈ wsL_law := z_in4 (List.mem_of_getElem? (i := 236) rfl) rfl
theorem zk0_X9_advances : z_K0 mX9_advances 0 := ⟨zt_4_236, zt_1_11, ⟨by decide +kernel, by decide +kernel⟩, by decide +kernel, by decide +kernel, by decide⟩
theorem zt_5_0 : (Jvm.Cond.code ({ cls := "TorchPlateModel", name := "letterAt", desc := "(I)I" } : Jvm.MethodName) prog_11_method_9_code (2 : Nat) (Option.some Jvm.ClassFile.FieldType.int)) ∈ wsL_law := z_in5 (List.mem_of_getElem? (i := 0) rfl) rfl
theorem zk0_X9_letterAt : z_K0 mX9_letterAt 1 := ⟨zt_5_0, zt_1_11, ⟨by decide +kernel, by decide +kernel⟩, by decide +kernel, by decide +kernel, by decide⟩
theorem zt_5_4 : (Jvm.Cond.code ({ cls := "TorchPlateModel", name := "isWell", desc := "()Z" } : Jvm.MethodName) prog_11_method_11_code (1 : Nat) (Option.some Jvm.ClassFile.FieldType.boolean)) ∈ wsL_law := z_in5 (List.mem_of_getElem? (i := 4) rfl) rfl
theorem zk0_X9_isWell : z_K0 mX9_isWell 0 := ⟨zt_5_4, zt_1_11, ⟨by decide +kernel, by decide +kernel⟩, by decide +kernel, by decide +kernel, by decide⟩
theorem zt_5_8 : (Jvm.Cond.code ({ cls := "TorchPlateModel", name := "mayBegin", desc := "()Z" } : Jvm.MethodName) prog_11_method_23_code (1 : Nat) (Option.some Jvm.ClassFile.FieldType.boolean)) ∈ wsL_law := z_in5 (List.mem_of_getElem? (i := 8) rfl) rfl
theorem zk0_X9_mayBegin : z_K0 mX9_mayBegin 0 := ⟨zt_5_8, zt_1_11, ⟨by decide +kernel, by decide +kernel⟩, by decide +kernel, by decide +kernel, by decide⟩
theorem zt_5_12 : (Jvm.Cond.code ({ cls := "TorchPlateModel", name := "takes", desc := "(Z)I" } : Jvm.MethodName) prog_11_method_12_code (3 : Nat) (Option.some Jvm.ClassFile.FieldType.int)) ∈ wsL_law := z_in5 (List.mem_of_getElem? (i := 12) rfl) rfl
theorem zk0_X9_takes : z_K0 mX9_takes 1 := ⟨zt_5_12, zt_1_11, ⟨by decide +kernel, by decide +kernel⟩, by decide +kernel, by decide +kernel, by decide⟩
theorem zt_5_16 : (Jvm.Cond.code ({ cls := "TorchPlateModel", name := "readsItem", desc := "(I)V" } : Jvm.MethodName) prog_11_method_24_code (2 : Nat) (Option.none : Option Jvm.ClassFile.FieldType)) ∈ wsL_law := z_in5 (List.mem_of_getElem? (i := 16) rfl) rfl
theorem zk0_X9_readsItem : z_K0 mX9_readsItem 1 := ⟨zt_5_16, zt_1_11, ⟨by decide +kernel, by decide +kernel⟩, by decide +kernel, by decide +kernel, by decide⟩
theorem zt_5_20 : (Jvm.Cond.code ({ cls := "TorchPlateModel", name := "isNumber", desc := "(II)Z" } : Jvm.MethodName) prog_11_method_13_code (3 : Nat) (Option.some Jvm.ClassFile.FieldType.boolean)) ∈ wsL_law := z_in5 (List.mem_of_getElem? (i := 20) rfl) rfl
theorem zk0_X9_isNumber : z_K0 mX9_isNumber 2 := ⟨zt_5_20, zt_1_11, ⟨by decide +kernel, by decide +kernel⟩, by decide +kernel, by decide +kernel, by decide⟩
theorem zt_5_24 : (Jvm.Cond.code ({ cls := "TorchPlateModel", name := "readsCorner", desc := "()V" } : Jvm.MethodName) prog_11_method_19_code (3 : Nat) (Option.none : Option Jvm.ClassFile.FieldType)) ∈ wsL_law := z_in5 (List.mem_of_getElem? (i := 24) rfl) rfl
theorem zk0_X9_readsCorner : z_K0 mX9_readsCorner 0 := ⟨zt_5_24, zt_1_11, ⟨by decide +kernel, by decide +kernel⟩, by decide +kernel, by decide +kernel, by decide⟩
theorem zt_5_28 : (Jvm.Cond.code ({ cls := "TorchPlateModel", name := "isFreeAt", desc := "(II)Z" } : Jvm.MethodName) prog_11_method_18_code (5 : Nat) (Option.some Jvm.ClassFile.FieldType.boolean)) ∈ wsL_law := z_in5 (List.mem_of_getElem? (i := 28) rfl) rfl
theorem zk0_X9_isFreeAt : z_K0 mX9_isFreeAt 2 := ⟨zt_5_28, zt_1_11, ⟨by decide +kernel, by decide +kernel⟩, by decide +kernel, by decide +kernel, by decide⟩
theorem zt_5_32 : (Jvm.Cond.code ({ cls := "TorchPlateModel", name := "readsPart", desc := "()V" } : Jvm.MethodName) prog_11_method_21_code (7 : Nat) (Option.none : Option Jvm.ClassFile.FieldType)) ∈ wsL_law := z_in5 (List.mem_of_getElem? (i := 32) rfl) rfl
theorem zk0_X9_readsPart : z_K0 mX9_readsPart 0 := ⟨zt_5_32, zt_1_11, ⟨by decide +kernel, by decide +kernel⟩, by decide +kernel, by decide +kernel, by decide⟩
theorem zt_5_36 : (Jvm.Cond.code ({ cls := "TorchPlateModel", name := "isCorner", desc := "()Z" } : Jvm.MethodName) prog_11_method_20_code (1 : Nat) (Option.some Jvm.ClassFile.FieldType.boolean)) ∈ wsL_law := z_in5 (List.mem_of_getElem? (i := 36) rfl) rfl
theorem zk0_X9_isCorner : z_K0 mX9_isCorner 0 := ⟨zt_5_36, zt_1_11, ⟨by decide +kernel, by decide +kernel⟩, by decide +kernel, by decide +kernel, by decide⟩
theorem zt_5_39 : (Jvm.Cond.code ({ cls := "TorchPlateModel", name := "has", desc := "(II)Z" } : Jvm.MethodName) prog_11_method_4_code (2 : Nat) (Option.some Jvm.ClassFile.FieldType.boolean)) ∈ wsL_law := z_in5 (List.mem_of_getElem? (i := 39) rfl) rfl
theorem zk0_X9_has : z_K0 mX9_has 2 := ⟨zt_5_39, zt_1_11, ⟨by decide +kernel, by decide +kernel⟩, by decide +kernel, by decide +kernel, by decide⟩
theorem zt_5_43 : (Jvm.Cond.code ({ cls := "TorchPlateModel", name := "hasRoom", desc := "(II)Z" } : Jvm.MethodName) prog_11_method_16_code (3 : Nat) (Option.some Jvm.ClassFile.FieldType.boolean)) ∈ wsL_law := z_in5 (List.mem_of_getElem? (i := 43) rfl) rfl
theorem zk0_X9_hasRoom : z_K0 mX9_hasRoom 2 := ⟨zt_5_43, zt_1_11, ⟨by decide +kernel, by decide +kernel⟩, by decide +kernel, by decide +kernel, by decide⟩
theorem zt_5_46 : (Jvm.Cond.code ({ cls := "TorchPlateModel", name := "cutOf", desc := "([III)I" } : Jvm.MethodName) prog_11_method_15_code (6 : Nat) (Option.some Jvm.ClassFile.FieldType.int)) ∈ wsL_law := z_in5 (List.mem_of_getElem? (i := 46) rfl) rfl
theorem zk0_X9_cutOf : z_K0 mX9_cutOf 3 := ⟨zt_5_46, zt_1_11, ⟨by decide +kernel, by decide +kernel⟩, by decide +kernel, by decide +kernel, by decide⟩
theorem zt_5_50 : (Jvm.Cond.code ({ cls := "TorchPlateModel", name := "cuts", desc := "(II)V" } : Jvm.MethodName) prog_11_method_17_code (4 : Nat) (Option.none : Option Jvm.ClassFile.FieldType)) ∈ wsL_law := z_in5 (List.mem_of_getElem? (i := 50) rfl) rfl
theorem zk0_X9_cuts : z_K0 mX9_cuts 2 := ⟨zt_5_50, zt_1_11, ⟨by decide +kernel, by decide +kernel⟩, by decide +kernel, by decide +kernel, by decide⟩
theorem zt_5_54 : (Jvm.Cond.code ({ cls := "TorchPlateModel", name := "readsSeam", desc := "()V" } : Jvm.MethodName) prog_11_method_22_code (3 : Nat) (Option.none : Option Jvm.ClassFile.FieldType)) ∈ wsL_law := z_in5 (List.mem_of_getElem? (i := 54) rfl) rfl
theorem zk0_X9_readsSeam : z_K0 mX9_readsSeam 0 := ⟨zt_5_54, zt_1_11, ⟨by decide +kernel, by decide +kernel⟩, by decide +kernel, by decide +kernel, by decide⟩
theorem zt_5_58 : (Jvm.Cond.code ({ cls := "TorchPlateModel", name := "sorts", desc := "()V" } : Jvm.MethodName) prog_11_method_25_code (5 : Nat) (Option.none : Option Jvm.ClassFile.FieldType)) ∈ wsL_law := z_in5 (List.mem_of_getElem? (i := 58) rfl) rfl
theorem zk0_X9_sorts : z_K0 mX9_sorts 0 := ⟨zt_5_58, zt_1_11, ⟨by decide +kernel, by decide +kernel⟩, by decide +kernel, by decide +kernel, by decide⟩
theorem zt_5_62 : (Jvm.Cond.code ({ cls := "TorchPlateModel", name := "corner", desc := "(II)I" } : Jvm.MethodName) prog_11_method_35_code (3 : Nat) (Option.some Jvm.ClassFile.FieldType.int)) ∈ wsL_law := z_in5 (List.mem_of_getElem? (i := 62) rfl) rfl
theorem zk0_X9_corner : z_K0 mX9_corner 2 := ⟨zt_5_62, zt_1_11, ⟨by decide +kernel, by decide +kernel⟩, by decide +kernel, by decide +kernel, by decide⟩
theorem zt_5_66 : (Jvm.Cond.code ({ cls := "TorchPlateModel", name := "isCornerNow", desc := "(I)Z" } : Jvm.MethodName) prog_11_method_32_code (2 : Nat) (Option.some Jvm.ClassFile.FieldType.boolean)) ∈ wsL_law := z_in5 (List.mem_of_getElem? (i := 66) rfl) rfl
theorem zk0_X9_isCornerNow : z_K0 mX9_isCornerNow 1 := ⟨zt_5_66, zt_1_11, ⟨by decide +kernel, by decide +kernel⟩, by decide +kernel, by decide +kernel, by decide⟩
theorem zt_5_69 : (Jvm.Cond.code ({ cls := "TorchPlateModel", name := "endsAt", desc := "([III)I" } : Jvm.MethodName) prog_11_method_34_code (5 : Nat) (Option.some Jvm.ClassFile.FieldType.int)) ∈ wsL_law := z_in5 (List.mem_of_getElem? (i := 69) rfl) rfl
theorem zk0_X9_endsAt : z_K0 mX9_endsAt 3 := ⟨zt_5_69, zt_1_11, ⟨by decide +kernel, by decide +kernel⟩, by decide +kernel, by decide +kernel, by decide⟩
theorem zt_5_73 : (Jvm.Cond.code ({ cls := "TorchPlateModel", name := "cut", desc := "(II)I" } : Jvm.MethodName) prog_11_method_41_code (3 : Nat) (Option.some Jvm.ClassFile.FieldType.int)) ∈ wsL_law := z_in5 (List.mem_of_getElem? (i := 73) rfl) rfl
theorem zk0_X9_cut : z_K0 mX9_cut 2 := ⟨zt_5_73, zt_1_11, ⟨by decide +kernel, by decide +kernel⟩, by decide +kernel, by decide +kernel, by decide⟩
theorem zt_5_77 : (Jvm.Cond.code ({ cls := "TorchPlateModel", name := "pieces", desc := "()V" } : Jvm.MethodName) prog_11_method_37_code (2 : Nat) (Option.none : Option Jvm.ClassFile.FieldType)) ∈ wsL_law := z_in5 (List.mem_of_getElem? (i := 77) rfl) rfl
theorem zk0_X9_pieces : z_K0 mX9_pieces 0 := ⟨zt_5_77, zt_1_11, ⟨by decide +kernel, by decide +kernel⟩, by decide +kernel, by decide +kernel, by decide⟩
theorem zt_5_81 : (Jvm.Cond.code ({ cls := "TorchPlateModel", name := "roots", desc := "(I)V" } : Jvm.MethodName) prog_11_method_36_code (7 : Nat) (Option.none : Option Jvm.ClassFile.FieldType)) ∈ wsL_law := z_in5 (List.mem_of_getElem? (i := 81) rfl) rfl
theorem zk0_X9_roots : z_K0 mX9_roots 1 := ⟨zt_5_81, zt_1_11, ⟨by decide +kernel, by decide +kernel⟩, by decide +kernel, by decide +kernel, by decide⟩
theorem zt_5_85 : (Jvm.Cond.code ({ cls := "TorchPlateModel", name := "way", desc := "(II)I" } : Jvm.MethodName) prog_11_method_33_code (5 : Nat) (Option.some Jvm.ClassFile.FieldType.int)) ∈ wsL_law := z_in5 (List.mem_of_getElem? (i := 85) rfl) rfl
theorem zk0_X9_way : z_K0 mX9_way 2 := ⟨zt_5_85, zt_1_11, ⟨by decide +kernel, by decide +kernel⟩, by decide +kernel, by decide +kernel, by decide⟩
theorem zt_5_89 : (Jvm.Cond.code ({ cls := "TorchPlateModel", name := "pieceOf", desc := "(I)I" } : Jvm.MethodName) prog_11_method_38_code (3 : Nat) (Option.some Jvm.ClassFile.FieldType.int)) ∈ wsL_law := z_in5 (List.mem_of_getElem? (i := 89) rfl) rfl
theorem zk0_X9_pieceOf : z_K0 mX9_pieceOf 1 := ⟨zt_5_89, zt_1_11, ⟨by decide +kernel, by decide +kernel⟩, by decide +kernel, by decide +kernel, by decide⟩
theorem zt_5_93 : (Jvm.Cond.code ({ cls := "TorchPlateModel", name := "part", desc := "(II)I" } : Jvm.MethodName) prog_11_method_43_code (3 : Nat) (Option.some Jvm.ClassFile.FieldType.int)) ∈ wsL_law := z_in5 (List.mem_of_getElem? (i := 93) rfl) rfl
theorem zk0_X9_part : z_K0 mX9_part 2 := ⟨zt_5_93, zt_1_11, ⟨by decide +kernel, by decide +kernel⟩, by decide +kernel, by decide +kernel, by decide⟩
theorem zt_5_97 : (Jvm.Cond.code ({ cls := "TorchPlateModel", name := "cutsOfPart", desc := "(I)I" } : Jvm.MethodName) prog_11_method_42_code (4 : Nat) (Option.some Jvm.ClassFile.FieldType.int)) ∈ wsL_law := z_in5 (List.mem_of_getElem? (i := 97) rfl) rfl
theorem zk0_X9_cutsOfPart : z_K0 mX9_cutsOfPart 1 := ⟨zt_5_97, zt_1_11, ⟨by decide +kernel, by decide +kernel⟩, by decide +kernel, by decide +kernel, by decide⟩
theorem zt_5_100 : (Jvm.Cond.code ({ cls := "TorchPlateModel", name := "ones", desc := "(I)I" } : Jvm.MethodName) prog_11_method_5_code (3 : Nat) (Option.some Jvm.ClassFile.FieldType.int)) ∈ wsL_law := z_in5 (List.mem_of_getElem? (i := 100) rfl) rfl
theorem zk0_X9_ones : z_K0 mX9_ones 1 := ⟨zt_5_100, zt_1_11, ⟨by decide +kernel, by decide +kernel⟩, by decide +kernel, by decide +kernel, by decide⟩
theorem zt_5_104 : (Jvm.Cond.code ({ cls := "TorchPlateModel", name := "burns", desc := "(I)I" } : Jvm.MethodName) prog_11_method_51_code (2 : Nat) (Option.some Jvm.ClassFile.FieldType.int)) ∈ wsL_law := z_in5 (List.mem_of_getElem? (i := 104) rfl) rfl
theorem zk0_X9_burns : z_K0 mX9_burns 1 := ⟨zt_5_104, zt_1_11, ⟨by decide +kernel, by decide +kernel⟩, by decide +kernel, by decide +kernel, by decide⟩
theorem zt_5_108 : (Jvm.Cond.code ({ cls := "TorchPlateModel", name := "mayBurn", desc := "(I)Z" } : Jvm.MethodName) prog_11_method_48_code (3 : Nat) (Option.some Jvm.ClassFile.FieldType.boolean)) ∈ wsL_law := z_in5 (List.mem_of_getElem? (i := 108) rfl) rfl
theorem zk0_X9_mayBurn : z_K0 mX9_mayBurn 1 := ⟨zt_5_108, zt_1_11, ⟨by decide +kernel, by decide +kernel⟩, by decide +kernel, by decide +kernel, by decide⟩
theorem zt_5_112 : (Jvm.Cond.code ({ cls := "TorchPlateModel", name := "wouldFall", desc := "(I)Z" } : Jvm.MethodName) prog_11_method_45_code (5 : Nat) (Option.some Jvm.ClassFile.FieldType.boolean)) ∈ wsL_law := z_in5 (List.mem_of_getElem? (i := 112) rfl) rfl
theorem zk0_X9_wouldFall : z_K0 mX9_wouldFall 1 := ⟨zt_5_112, zt_1_11, ⟨by decide +kernel, by decide +kernel⟩, by decide +kernel, by decide +kernel, by decide⟩
theorem zt_5_116 : (Jvm.Cond.code ({ cls := "TorchPlateModel", name := "burn", desc := "(I)I" } : Jvm.MethodName) prog_11_method_49_code (4 : Nat) (Option.some Jvm.ClassFile.FieldType.int)) ∈ wsL_law := z_in5 (List.mem_of_getElem? (i := 116) rfl) rfl
theorem zk0_X9_burn : z_K0 mX9_burn 1 := ⟨zt_5_116, zt_1_11, ⟨by decide +kernel, by decide +kernel⟩, by decide +kernel, by decide +kernel, by decide⟩
theorem zt_5_120 : (Jvm.Cond.code ({ cls := "TorchPlateModel", name := "notes", desc := "()V" } : Jvm.MethodName) prog_11_method_44_code (2 : Nat) (Option.none : Option Jvm.ClassFile.FieldType)) ∈ wsL_law := z_in5 (List.mem_of_getElem? (i := 120) rfl) rfl
theorem zk0_X9_notes : z_K0 mX9_notes 0 := ⟨zt_5_120, zt_1_11, ⟨by decide +kernel, by decide +kernel⟩, by decide +kernel, by decide +kernel, by decide⟩
theorem zt_5_124 : (Jvm.Cond.code ({ cls := "TorchPlateModel", name := "beginsAt", desc := "(II)I" } : Jvm.MethodName) prog_11_method_47_code (8 : Nat) (Option.some Jvm.ClassFile.FieldType.int)) ∈ wsL_law := z_in5 (List.mem_of_getElem? (i := 124) rfl) rfl
theorem zk0_X9_beginsAt : z_K0 mX9_beginsAt 2 := ⟨zt_5_124, zt_1_11, ⟨by decide +kernel, by decide +kernel⟩, by decide +kernel, by decide +kernel, by decide⟩
theorem zt_5_128 : (Jvm.Cond.code ({ cls := "TorchPlateModel", name := "isCool", desc := "(II)Z" } : Jvm.MethodName) prog_11_method_46_code (3 : Nat) (Option.some Jvm.ClassFile.FieldType.boolean)) ∈ wsL_law := z_in5 (List.mem_of_getElem? (i := 128) rfl) rfl
theorem zk0_X9_isCool : z_K0 mX9_isCool 2 := ⟨zt_5_128, zt_1_11, ⟨by decide +kernel, by decide +kernel⟩, by decide +kernel, by decide +kernel, by decide⟩
theorem zt_5_132 : (Jvm.Cond.code ({ cls := "TorchPlateModel", name := "moves", desc := "(I)I" } : Jvm.MethodName) prog_11_method_52_code (2 : Nat) (Option.some Jvm.ClassFile.FieldType.int)) ∈ wsL_law := z_in5 (List.mem_of_getElem? (i := 132) rfl) rfl
theorem zk0_X9_moves : z_K0 mX9_moves 1 := ⟨zt_5_132, zt_1_11, ⟨by decide +kernel, by decide +kernel⟩, by decide +kernel, by decide +kernel, by decide⟩
theorem zt_5_136 : (Jvm.Cond.code ({ cls := "TorchPlateModel", name := "move", desc := "(I)I" } : Jvm.MethodName) prog_11_method_50_code (2 : Nat) (Option.some Jvm.ClassFile.FieldType.int)) ∈ wsL_law := z_in5 (List.mem_of_getElem? (i := 136) rfl) rfl
theorem zk0_X9_move : z_K0 mX9_move 1 := ⟨zt_5_136, zt_1_11, ⟨by decide +kernel, by decide +kernel⟩, by decide +kernel, by decide +kernel, by decide⟩
theorem zt_5_140 : (Jvm.Cond.code ({ cls := "TorchPlateModel", name := "follows", desc := "()I" } : Jvm.MethodName) prog_11_method_53_code (3 : Nat) (Option.some Jvm.ClassFile.FieldType.int)) ∈ wsL_law := z_in5 (List.mem_of_getElem? (i := 140) rfl) rfl
theorem zk0_X9_follows : z_K0 mX9_follows 0 := ⟨zt_5_140, zt_1_11, ⟨by decide +kernel, by decide +kernel⟩, by decide +kernel, by decide +kernel, by decide⟩
theorem zt_5_144 : (Jvm.Cond.code ({ cls := "TorchPlateModel", name := "tours", desc := "()Z" } : Jvm.MethodName) prog_11_method_66_code (11 : Nat) (Option.some Jvm.ClassFile.FieldType.boolean)) ∈ wsL_law := z_in5 (List.mem_of_getElem? (i := 144) rfl) rfl
theorem zk0_X9_tours : z_K0 mX9_tours 0 := ⟨zt_5_144, zt_1_11, ⟨by decide +kernel, by decide +kernel⟩, by decide +kernel, by decide +kernel, by decide⟩
theorem zt_5_149 : (Jvm.Cond.code ({ cls := "TorchPlateModel", name := "aheadOf", desc := "(I)I" } : Jvm.MethodName) prog_11_method_65_code (6 : Nat) (Option.some Jvm.ClassFile.FieldType.int)) ∈ wsL_law := z_in5 (List.mem_of_getElem? (i := 149) rfl) rfl
theorem zk0_X9_aheadOf : z_K0 mX9_aheadOf 1 := ⟨zt_5_149, zt_1_11, ⟨by decide +kernel, by decide +kernel⟩, by decide +kernel, by decide +kernel, by decide⟩
theorem zt_5_153 : (Jvm.Cond.code ({ cls := "TorchPlateModel", name := "cutsOf", desc := "(I)I" } : Jvm.MethodName) prog_11_method_39_code (4 : Nat) (Option.some Jvm.ClassFile.FieldType.int)) ∈ wsL_law := z_in5 (List.mem_of_getElem? (i := 153) rfl) rfl
theorem zk0_X9_cutsOf : z_K0 mX9_cutsOf 1 := ⟨zt_5_153, zt_1_11, ⟨by decide +kernel, by decide +kernel⟩, by decide +kernel, by decide +kernel, by decide⟩
theorem zt_5_157 : (Jvm.Cond.code ({ cls := "TorchPlateModel", name := "startOf", desc := "(I)I" } : Jvm.MethodName) prog_11_method_58_code (3 : Nat) (Option.some Jvm.ClassFile.FieldType.int)) ∈ wsL_law := z_in5 (List.mem_of_getElem? (i := 157) rfl) rfl
theorem zk0_X9_startOf : z_K0 mX9_startOf 1 := ⟨zt_5_157, zt_1_11, ⟨by decide +kernel, by decide +kernel⟩, by decide +kernel, by decide +kernel, by decide⟩
theorem zt_5_161 : (Jvm.Cond.code ({ cls := "TorchPlateModel", name := "rounds", desc := "(I)I" } : Jvm.MethodName) prog_11_method_64_code (7 : Nat) (Option.some Jvm.ClassFile.FieldType.int)) ∈ wsL_law := z_in5 (List.mem_of_getElem? (i := 161) rfl) rfl
theorem zk0_X9_rounds : z_K0 mX9_rounds 1 := ⟨zt_5_161, zt_1_11, ⟨by decide +kernel, by decide +kernel⟩, by decide +kernel, by decide +kernel, by decide⟩
theorem zt_5_165 : (Jvm.Cond.code ({ cls := "TorchPlateModel", name := "links", desc := "(I)I" } : Jvm.MethodName) prog_11_method_56_code (6 : Nat) (Option.some Jvm.ClassFile.FieldType.int)) ∈ wsL_law := z_in5 (List.mem_of_getElem? (i := 165) rfl) rfl
theorem zk0_X9_links : z_K0 mX9_links 1 := ⟨zt_5_165, zt_1_11, ⟨by decide +kernel, by decide +kernel⟩, by decide +kernel, by decide +kernel, by decide⟩
theorem zt_5_169 : (Jvm.Cond.code ({ cls := "TorchPlateModel", name := "oddOf", desc := "(I)I" } : Jvm.MethodName) prog_11_method_40_code (4 : Nat) (Option.some Jvm.ClassFile.FieldType.int)) ∈ wsL_law := z_in5 (List.mem_of_getElem? (i := 169) rfl) rfl
theorem zk0_X9_oddOf : z_K0 mX9_oddOf 1 := ⟨zt_5_169, zt_1_11, ⟨by decide +kernel, by decide +kernel⟩, by decide +kernel, by decide +kernel, by decide⟩
theorem zt_5_173 : (Jvm.Cond.code ({ cls := "TorchPlateModel", name := "pairs", desc := "(I)V" } : Jvm.MethodName) prog_11_method_55_code (6 : Nat) (Option.none : Option Jvm.ClassFile.FieldType)) ∈ wsL_law := z_in5 (List.mem_of_getElem? (i := 173) rfl) rfl
theorem zk0_X9_pairs : z_K0 mX9_pairs 1 := ⟨zt_5_173, zt_1_11, ⟨by decide +kernel, by decide +kernel⟩, by decide +kernel, by decide +kernel, by decide⟩
theorem zt_5_176 : (Jvm.Cond.code ({ cls := "TorchPlateModel", name := "lowest", desc := "(I)I" } : Jvm.MethodName) prog_11_method_6_code (2 : Nat) (Option.some Jvm.ClassFile.FieldType.int)) ∈ wsL_law := z_in5 (List.mem_of_getElem? (i := 176) rfl) rfl
theorem zk0_X9_lowest : z_K0 mX9_lowest 1 := ⟨zt_5_176, zt_1_11, ⟨by decide +kernel, by decide +kernel⟩, by decide +kernel, by decide +kernel, by decide⟩
theorem zt_5_180 : (Jvm.Cond.code ({ cls := "TorchPlateModel", name := "opens", desc := "(III)V" } : Jvm.MethodName) prog_11_method_59_code (4 : Nat) (Option.none : Option Jvm.ClassFile.FieldType)) ∈ wsL_law := z_in5 (List.mem_of_getElem? (i := 180) rfl) rfl
theorem zk0_X9_opens : z_K0 mX9_opens 3 := ⟨zt_5_180, zt_1_11, ⟨by decide +kernel, by decide +kernel⟩, by decide +kernel, by decide +kernel, by decide⟩
theorem zt_5_184 : (Jvm.Cond.code ({ cls := "TorchPlateModel", name := "goesOn", desc := "(III)Z" } : Jvm.MethodName) prog_11_method_63_code (4 : Nat) (Option.some Jvm.ClassFile.FieldType.boolean)) ∈ wsL_law := z_in5 (List.mem_of_getElem? (i := 184) rfl) rfl
theorem zk0_X9_goesOn : z_K0 mX9_goesOn 3 := ⟨zt_5_184, zt_1_11, ⟨by decide +kernel, by decide +kernel⟩, by decide +kernel, by decide +kernel, by decide⟩
theorem zt_5_188 : (Jvm.Cond.code ({ cls := "TorchPlateModel", name := "isOpen", desc := "(III)Z" } : Jvm.MethodName) prog_11_method_61_code (4 : Nat) (Option.some Jvm.ClassFile.FieldType.boolean)) ∈ wsL_law := z_in5 (List.mem_of_getElem? (i := 188) rfl) rfl
theorem zk0_X9_isOpen : z_K0 mX9_isOpen 3 := ⟨zt_5_188, zt_1_11, ⟨by decide +kernel, by decide +kernel⟩, by decide +kernel, by decide +kernel, by decide⟩
theorem zt_5_192 : (Jvm.Cond.code ({ cls := "TorchPlateModel", name := "shuts", desc := "(III)V" } : Jvm.MethodName) prog_11_method_60_code (4 : Nat) (Option.none : Option Jvm.ClassFile.FieldType)) ∈ wsL_law := z_in5 (List.mem_of_getElem? (i := 192) rfl) rfl
theorem zk0_X9_shuts : z_K0 mX9_shuts 3 := ⟨zt_5_192, zt_1_11, ⟨by decide +kernel, by decide +kernel⟩, by decide +kernel, by decide +kernel, by decide⟩
theorem zt_5_196 : (Jvm.Cond.code ({ cls := "TorchPlateModel", name := "isAllFrom", desc := "(I)Z" } : Jvm.MethodName) prog_11_method_62_code (6 : Nat) (Option.some Jvm.ClassFile.FieldType.boolean)) ∈ wsL_law := z_in5 (List.mem_of_getElem? (i := 196) rfl) rfl
theorem zk0_X9_isAllFrom : z_K0 mX9_isAllFrom 1 := ⟨zt_5_196, zt_1_11, ⟨by decide +kernel, by decide +kernel⟩, by decide +kernel, by decide +kernel, by decide⟩
theorem zt_5_200 : (Jvm.Cond.code ({ cls := "TorchPlateModel", name := "undo", desc := "()I" } : Jvm.MethodName) prog_11_method_54_code (2 : Nat) (Option.some Jvm.ClassFile.FieldType.int)) ∈ wsL_law := z_in5 (List.mem_of_getElem? (i := 200) rfl) rfl
theorem zk0_X9_undo : z_K0 mX9_undo 0 := ⟨zt_5_200, zt_1_11, ⟨by decide +kernel, by decide +kernel⟩, by decide +kernel, by decide +kernel, by decide⟩
theorem zt_5_204 : (Jvm.Cond.code ({ cls := "TorchPlateModel", name := "link", desc := "(I)I" } : Jvm.MethodName) prog_11_method_57_code (4 : Nat) (Option.some Jvm.ClassFile.FieldType.int)) ∈ wsL_law := z_in5 (List.mem_of_getElem? (i := 204) rfl) rfl
theorem zk0_X9_link : z_K0 mX9_link 1 := ⟨zt_5_204, zt_1_11, ⟨by decide +kernel, by decide +kernel⟩, by decide +kernel, by decide +kernel, by decide⟩
theorem zt_5_208 : (Jvm.Cond.code ({ cls := "TorchPlateModel", name := "piece", desc := "(II)I" } : Jvm.MethodName) prog_11_method_67_code (3 : Nat) (Option.some Jvm.ClassFile.FieldType.int)) ∈ wsL_law := z_in5 (List.mem_of_getElem? (i := 208) rfl) rfl
theorem zk0_X9_piece : z_K0 mX9_piece 2 := ⟨zt_5_208, zt_1_11, ⟨by decide +kernel, by decide +kernel⟩, by decide +kernel, by decide +kernel, by decide⟩
theorem zt_5_212 : (Jvm.Cond.code ({ cls := "TorchPlateModel", name := "round", desc := "(III)I" } : Jvm.MethodName) prog_11_method_68_code (4 : Nat) (Option.some Jvm.ClassFile.FieldType.int)) ∈ wsL_law := z_in5 (List.mem_of_getElem? (i := 212) rfl) rfl
theorem zk0_X9_round : z_K0 mX9_round 3 := ⟨zt_5_212, zt_1_11, ⟨by decide +kernel, by decide +kernel⟩, by decide +kernel, by decide +kernel, by decide⟩
theorem zt_5_216 : (Jvm.Cond.code ({ cls := "TorchPlateModel", name := "tour", desc := "(I)I" } : Jvm.MethodName) prog_11_method_69_code (4 : Nat) (Option.some Jvm.ClassFile.FieldType.int)) ∈ wsL_law := z_in5 (List.mem_of_getElem? (i := 216) rfl) rfl
theorem zk0_X9_tour : z_K0 mX9_tour 1 := ⟨zt_5_216, zt_1_11, ⟨by decide +kernel, by decide +kernel⟩, by decide +kernel, by decide +kernel, by decide⟩
theorem zt_5_220 : (Jvm.Cond.code ({ cls := "TorchPlateModel", name := "sees", desc := "(III)I" } : Jvm.MethodName) prog_11_method_70_code (4 : Nat) (Option.some Jvm.ClassFile.FieldType.int)) ∈ wsL_law := z_in5 (List.mem_of_getElem? (i := 220) rfl) rfl
theorem zk0_X9_sees : z_K0 mX9_sees 3 := ⟨zt_5_220, zt_1_11, ⟨by decide +kernel, by decide +kernel⟩, by decide +kernel, by decide +kernel, by decide⟩
theorem zt_5_224 : (Jvm.Cond.code ({ cls := "TorchPlateModel", name := "forget", desc := "()I" } : Jvm.MethodName) prog_11_method_71_code (2 : Nat) (Option.some Jvm.ClassFile.FieldType.int)) ∈ wsL_law := z_in5 (List.mem_of_getElem? (i := 224) rfl) rfl
theorem zk0_X9_forget : z_K0 mX9_forget 0 := ⟨zt_5_224, zt_1_11, ⟨by decide +kernel, by decide +kernel⟩, by decide +kernel, by decide +kernel, by decide⟩
theorem zt_5_228 : (Jvm.Cond.code ({ cls := "TorchPlateModel", name := "unseen", desc := "()I" } : Jvm.MethodName) prog_11_method_73_code (1 : Nat) (Option.some Jvm.ClassFile.FieldType.int)) ∈ wsL_law := z_in5 (List.mem_of_getElem? (i := 228) rfl) rfl
theorem zk0_X9_unseen : z_K0 mX9_unseen 0 := ⟨zt_5_228, zt_1_11, ⟨by decide +kernel, by decide +kernel⟩, by decide +kernel, by decide +kernel, by decide⟩
theorem zt_5_232 : (Jvm.Cond.code ({ cls := "TorchPlateModel", name := "unseenSet", desc := "()I" } : Jvm.MethodName) prog_11_method_72_code (5 : Nat) (Option.some Jvm.ClassFile.FieldType.int)) ∈ wsL_law := z_in5 (List.mem_of_getElem? (i := 232) rfl) rfl
theorem zk0_X9_unseenSet : z_K0 mX9_unseenSet 0 := ⟨zt_5_232, zt_1_11, ⟨by decide +kernel, by decide +kernel⟩, by decide +kernel, by decide +kernel, by decide⟩
theorem zt_5_236 : (Jvm.Cond.code ({ cls := "TorchPlateModel", name := "ask", desc := "()I" } : Jvm.MethodName) prog_11_method_74_code (9 : Nat) (Option.some Jvm.ClassFile.FieldType.int)) ∈ wsL_law := z_in5 (List.mem_of_getElem? (i := 236) rfl) rfl
theorem zk0_X9_ask : z_K0 mX9_ask 0 := ⟨zt_5_236, zt_1_11, ⟨by decide +kernel, by decide +kernel⟩, by decide +kernel, by decide +kernel, by decide⟩
theorem zt_6_0 : (Jvm.Cond.code ({ cls := "TorchPlateModel", name := "keep", desc := "(I)I" } : Jvm.MethodName) prog_11_method_75_code (3 : Nat) (Option.some Jvm.ClassFile.FieldType.int)) ∈ wsL_law := z_in6 (List.mem_of_getElem? (i := 0) rfl) rfl
theorem zk0_X9_keep : z_K0 mX9_keep 1 := ⟨zt_6_0, zt_1_11, ⟨by decide +kernel, by decide +kernel⟩, by decide +kernel, by decide +kernel, by decide⟩
theorem zt_6_4 : (Jvm.Cond.code ({ cls := "TorchPlateModel", name := "back", desc := "(I)I" } : Jvm.MethodName) prog_11_method_76_code (3 : Nat) (Option.some Jvm.ClassFile.FieldType.int)) ∈ wsL_law := z_in6 (List.mem_of_getElem? (i := 4) rfl) rfl
theorem zk0_X9_back : z_K0 mX9_back 1 := ⟨zt_6_4, zt_1_11, ⟨by decide +kernel, by decide +kernel⟩, by decide +kernel, by decide +kernel, by decide⟩
theorem zt_6_8 : (Jvm.Cond.code ({ cls := "TorchPlateModel", name := "count", desc := "(I)I" } : Jvm.MethodName) prog_11_method_77_code (2 : Nat) (Option.some Jvm.ClassFile.FieldType.int)) ∈ wsL_law := z_in6 (List.mem_of_getElem? (i := 8) rfl) rfl
theorem zk0_X9_count : z_K0 mX9_count 1 := ⟨zt_6_8, zt_1_11, ⟨by decide +kernel, by decide +kernel⟩, by decide +kernel, by decide +kernel, by decide⟩
theorem zt_1_17 : (Jvm.Cond.methodLink "TorchPlateLaw" (9 : Nat) ({ cls := "TorchPlate", name := "<init>", desc := "()V" } : Jvm.MethodName)) ∈ wsL_law := z_in1 (List.mem_of_getElem? (i := 17) rfl) rfl
theorem zt_1_18 : (Jvm.Cond.instanceMethod ({ cls := "TorchPlate", name := "<init>", desc := "()V" } : Jvm.MethodName)) ∈ wsL_law := z_in1 (List.mem_of_getElem? (i := 18) rfl) rfl
theorem zk_L_9 : z_KI RL 9 mX8_init 0 := ⟨zk0_X8_init, zt_1_17, zt_1_18, rfl, rfl⟩
theorem zt_4_86 : (Jvm.Cond.methodLink "TorchPlateLaw" (12 : Nat) ({ cls := "TorchPlateModel", name := "<init>", desc := "()V" } : Jvm.MethodName)) ∈ wsL_law := z_in4 (List.mem_of_getElem? (i := 86) rfl) rfl
theorem zt_4_87 : (Jvm.Cond.instanceMethod ({ cls := "TorchPlateModel", name := "<init>", desc := "()V" } : Jvm.MethodName)) ∈ wsL_law := z_in4 (List.mem_of_getElem? (i := 87) rfl) rfl
theorem zk_L_12 : z_KI RL 12 mX9_init 0 := ⟨zk0_X9_init, zt_4_86, zt_4_87, rfl, rfl⟩
theorem zt_2_123 : (Jvm.Cond.methodLink "TorchPlateLaw" (13 : Nat) ({ cls := "TorchPlate", name := "type", desc := "(I)I" } : Jvm.MethodName)) ∈ wsL_law := z_in2 (List.mem_of_getElem? (i := 123) rfl) rfl
theorem zt_2_124 : (Jvm.Cond.instanceMethod ({ cls := "TorchPlate", name := "type", desc := "(I)I" } : Jvm.MethodName)) ∈ wsL_law := z_in2 (List.mem_of_getElem? (i := 124) rfl) rfl
theorem zt_2_125 : (Jvm.Cond.selects "TorchPlate" ({ cls := "TorchPlate", name := "type", desc := "(I)I" } : Jvm.MethodName) ({ cls := "TorchPlate", name := "type", desc := "(I)I" } : Jvm.MethodName)) ∈ wsL_law := z_in2 (List.mem_of_getElem? (i := 125) rfl) rfl
theorem zk_L_13 : z_KV RL 13 mX8_type 1 := ⟨zk0_X8_type, zt_2_123, zt_2_124, zt_2_125⟩
theorem zt_4_221 : (Jvm.Cond.methodLink "TorchPlateLaw" (17 : Nat) ({ cls := "TorchPlateModel", name := "type", desc := "(I)I" } : Jvm.MethodName)) ∈ wsL_law := z_in4 (List.mem_of_getElem? (i := 221) rfl) rfl
theorem zt_4_222 : (Jvm.Cond.instanceMethod ({ cls := "TorchPlateModel", name := "type", desc := "(I)I" } : Jvm.MethodName)) ∈ wsL_law := z_in4 (List.mem_of_getElem? (i := 222) rfl) rfl
theorem zt_4_223 : (Jvm.Cond.selects "TorchPlateModel" ({ cls := "TorchPlateModel", name := "type", desc := "(I)I" } : Jvm.MethodName) ({ cls := "TorchPlateModel", name := "type", desc := "(I)I" } : Jvm.MethodName)) ∈ wsL_law := z_in4 (List.mem_of_getElem? (i := 223) rfl) rfl
theorem zk_L_17 : z_KV RL 17 mX9_type 1 := ⟨zk0_X9_type, zt_4_221, zt_4_222, zt_4_223⟩
theorem zt_2_127 : (Jvm.Cond.methodLink "TorchPlateLaw" (18 : Nat) ({ cls := "TorchPlate", name := "clear", desc := "()I" } : Jvm.MethodName)) ∈ wsL_law := z_in2 (List.mem_of_getElem? (i := 127) rfl) rfl
theorem zt_2_128 : (Jvm.Cond.instanceMethod ({ cls := "TorchPlate", name := "clear", desc := "()I" } : Jvm.MethodName)) ∈ wsL_law := z_in2 (List.mem_of_getElem? (i := 128) rfl) rfl
theorem zt_2_129 : (Jvm.Cond.selects "TorchPlate" ({ cls := "TorchPlate", name := "clear", desc := "()I" } : Jvm.MethodName) ({ cls := "TorchPlate", name := "clear", desc := "()I" } : Jvm.MethodName)) ∈ wsL_law := z_in2 (List.mem_of_getElem? (i := 129) rfl) rfl
theorem zk_L_18 : z_KV RL 18 mX8_clear 0 := ⟨zk0_X8_clear, zt_2_127, zt_2_128, zt_2_129⟩
theorem zt_4_225 : (Jvm.Cond.methodLink "TorchPlateLaw" (22 : Nat) ({ cls := "TorchPlateModel", name := "clear", desc := "()I" } : Jvm.MethodName)) ∈ wsL_law := z_in4 (List.mem_of_getElem? (i := 225) rfl) rfl
theorem zt_4_226 : (Jvm.Cond.instanceMethod ({ cls := "TorchPlateModel", name := "clear", desc := "()I" } : Jvm.MethodName)) ∈ wsL_law := z_in4 (List.mem_of_getElem? (i := 226) rfl) rfl
theorem zt_4_227 : (Jvm.Cond.selects "TorchPlateModel" ({ cls := "TorchPlateModel", name := "clear", desc := "()I" } : Jvm.MethodName) ({ cls := "TorchPlateModel", name := "clear", desc := "()I" } : Jvm.MethodName)) ∈ wsL_law := z_in4 (List.mem_of_getElem? (i := 227) rfl) rfl
theorem zk_L_22 : z_KV RL 22 mX9_clear 0 := ⟨zk0_X9_clear, zt_4_225, zt_4_226, zt_4_227⟩
theorem zt_2_131 : (Jvm.Cond.methodLink "TorchPlateLaw" (23 : Nat) ({ cls := "TorchPlate", name := "plate", desc := "()I" } : Jvm.MethodName)) ∈ wsL_law := z_in2 (List.mem_of_getElem? (i := 131) rfl) rfl
theorem zt_2_132 : (Jvm.Cond.instanceMethod ({ cls := "TorchPlate", name := "plate", desc := "()I" } : Jvm.MethodName)) ∈ wsL_law := z_in2 (List.mem_of_getElem? (i := 132) rfl) rfl
theorem zt_2_133 : (Jvm.Cond.selects "TorchPlate" ({ cls := "TorchPlate", name := "plate", desc := "()I" } : Jvm.MethodName) ({ cls := "TorchPlate", name := "plate", desc := "()I" } : Jvm.MethodName)) ∈ wsL_law := z_in2 (List.mem_of_getElem? (i := 133) rfl) rfl
theorem zk_L_23 : z_KV RL 23 mX8_plate 0 := ⟨zk0_X8_plate, zt_2_131, zt_2_132, zt_2_133⟩
theorem zt_4_229 : (Jvm.Cond.methodLink "TorchPlateLaw" (26 : Nat) ({ cls := "TorchPlateModel", name := "plate", desc := "()I" } : Jvm.MethodName)) ∈ wsL_law := z_in4 (List.mem_of_getElem? (i := 229) rfl) rfl
theorem zt_4_230 : (Jvm.Cond.instanceMethod ({ cls := "TorchPlateModel", name := "plate", desc := "()I" } : Jvm.MethodName)) ∈ wsL_law := z_in4 (List.mem_of_getElem? (i := 230) rfl) rfl
theorem zt_4_231 : (Jvm.Cond.selects "TorchPlateModel" ({ cls := "TorchPlateModel", name := "plate", desc := "()I" } : Jvm.MethodName) ({ cls := "TorchPlateModel", name := "plate", desc := "()I" } : Jvm.MethodName)) ∈ wsL_law := z_in4 (List.mem_of_getElem? (i := 231) rfl) rfl
theorem zk_L_26 : z_KV RL 26 mX9_plate 0 := ⟨zk0_X9_plate, zt_4_229, zt_4_230, zt_4_231⟩
theorem zt_3_26 : (Jvm.Cond.methodLink "TorchPlateLaw" (27 : Nat) ({ cls := "TorchPlate", name := "corner", desc := "(II)I" } : Jvm.MethodName)) ∈ wsL_law := z_in3 (List.mem_of_getElem? (i := 26) rfl) rfl
theorem zt_3_27 : (Jvm.Cond.instanceMethod ({ cls := "TorchPlate", name := "corner", desc := "(II)I" } : Jvm.MethodName)) ∈ wsL_law := z_in3 (List.mem_of_getElem? (i := 27) rfl) rfl
theorem zt_3_28 : (Jvm.Cond.selects "TorchPlate" ({ cls := "TorchPlate", name := "corner", desc := "(II)I" } : Jvm.MethodName) ({ cls := "TorchPlate", name := "corner", desc := "(II)I" } : Jvm.MethodName)) ∈ wsL_law := z_in3 (List.mem_of_getElem? (i := 28) rfl) rfl
theorem zk_L_27 : z_KV RL 27 mX8_corner 2 := ⟨zk0_X8_corner, zt_3_26, zt_3_27, zt_3_28⟩
theorem zt_5_59 : (Jvm.Cond.methodLink "TorchPlateLaw" (31 : Nat) ({ cls := "TorchPlateModel", name := "corner", desc := "(II)I" } : Jvm.MethodName)) ∈ wsL_law := z_in5 (List.mem_of_getElem? (i := 59) rfl) rfl
theorem zt_5_60 : (Jvm.Cond.instanceMethod ({ cls := "TorchPlateModel", name := "corner", desc := "(II)I" } : Jvm.MethodName)) ∈ wsL_law := z_in5 (List.mem_of_getElem? (i := 60) rfl) rfl
theorem zt_5_61 : (Jvm.Cond.selects "TorchPlateModel" ({ cls := "TorchPlateModel", name := "corner", desc := "(II)I" } : Jvm.MethodName) ({ cls := "TorchPlateModel", name := "corner", desc := "(II)I" } : Jvm.MethodName)) ∈ wsL_law := z_in5 (List.mem_of_getElem? (i := 61) rfl) rfl
theorem zk_L_31 : z_KV RL 31 mX9_corner 2 := ⟨zk0_X9_corner, zt_5_59, zt_5_60, zt_5_61⟩
theorem zt_3_35 : (Jvm.Cond.methodLink "TorchPlateLaw" (32 : Nat) ({ cls := "TorchPlate", name := "cut", desc := "(II)I" } : Jvm.MethodName)) ∈ wsL_law := z_in3 (List.mem_of_getElem? (i := 35) rfl) rfl
theorem zt_3_36 : (Jvm.Cond.instanceMethod ({ cls := "TorchPlate", name := "cut", desc := "(II)I" } : Jvm.MethodName)) ∈ wsL_law := z_in3 (List.mem_of_getElem? (i := 36) rfl) rfl
theorem zt_3_37 : (Jvm.Cond.selects "TorchPlate" ({ cls := "TorchPlate", name := "cut", desc := "(II)I" } : Jvm.MethodName) ({ cls := "TorchPlate", name := "cut", desc := "(II)I" } : Jvm.MethodName)) ∈ wsL_law := z_in3 (List.mem_of_getElem? (i := 37) rfl) rfl
theorem zk_L_32 : z_KV RL 32 mX8_cut 2 := ⟨zk0_X8_cut, zt_3_35, zt_3_36, zt_3_37⟩
theorem zt_5_70 : (Jvm.Cond.methodLink "TorchPlateLaw" (35 : Nat) ({ cls := "TorchPlateModel", name := "cut", desc := "(II)I" } : Jvm.MethodName)) ∈ wsL_law := z_in5 (List.mem_of_getElem? (i := 70) rfl) rfl
theorem zt_5_71 : (Jvm.Cond.instanceMethod ({ cls := "TorchPlateModel", name := "cut", desc := "(II)I" } : Jvm.MethodName)) ∈ wsL_law := z_in5 (List.mem_of_getElem? (i := 71) rfl) rfl
theorem zt_5_72 : (Jvm.Cond.selects "TorchPlateModel" ({ cls := "TorchPlateModel", name := "cut", desc := "(II)I" } : Jvm.MethodName) ({ cls := "TorchPlateModel", name := "cut", desc := "(II)I" } : Jvm.MethodName)) ∈ wsL_law := z_in5 (List.mem_of_getElem? (i := 72) rfl) rfl
theorem zk_L_35 : z_KV RL 35 mX9_cut 2 := ⟨zk0_X9_cut, zt_5_70, zt_5_71, zt_5_72⟩
theorem zt_3_127 : (Jvm.Cond.methodLink "TorchPlateLaw" (36 : Nat) ({ cls := "TorchPlate", name := "part", desc := "(II)I" } : Jvm.MethodName)) ∈ wsL_law := z_in3 (List.mem_of_getElem? (i := 127) rfl) rfl
theorem zt_3_128 : (Jvm.Cond.instanceMethod ({ cls := "TorchPlate", name := "part", desc := "(II)I" } : Jvm.MethodName)) ∈ wsL_law := z_in3 (List.mem_of_getElem? (i := 128) rfl) rfl
theorem zt_3_129 : (Jvm.Cond.selects "TorchPlate" ({ cls := "TorchPlate", name := "part", desc := "(II)I" } : Jvm.MethodName) ({ cls := "TorchPlate", name := "part", desc := "(II)I" } : Jvm.MethodName)) ∈ wsL_law := z_in3 (List.mem_of_getElem? (i := 129) rfl) rfl
theorem zk_L_36 : z_KV RL 36 mX8_part 2 := ⟨zk0_X8_part, zt_3_127, zt_3_128, zt_3_129⟩
theorem zt_5_90 : (Jvm.Cond.methodLink "TorchPlateLaw" (39 : Nat) ({ cls := "TorchPlateModel", name := "part", desc := "(II)I" } : Jvm.MethodName)) ∈ wsL_law := z_in5 (List.mem_of_getElem? (i := 90) rfl) rfl
theorem zt_5_91 : (Jvm.Cond.instanceMethod ({ cls := "TorchPlateModel", name := "part", desc := "(II)I" } : Jvm.MethodName)) ∈ wsL_law := z_in5 (List.mem_of_getElem? (i := 91) rfl) rfl
theorem zt_5_92 : (Jvm.Cond.selects "TorchPlateModel" ({ cls := "TorchPlateModel", name := "part", desc := "(II)I" } : Jvm.MethodName) ({ cls := "TorchPlateModel", name := "part", desc := "(II)I" } : Jvm.MethodName)) ∈ wsL_law := z_in5 (List.mem_of_getElem? (i := 92) rfl) rfl
theorem zk_L_39 : z_KV RL 39 mX9_part 2 := ⟨zk0_X9_part, zt_5_90, zt_5_91, zt_5_92⟩
theorem zt_3_132 : (Jvm.Cond.methodLink "TorchPlateLaw" (40 : Nat) ({ cls := "TorchPlate", name := "burns", desc := "(I)I" } : Jvm.MethodName)) ∈ wsL_law := z_in3 (List.mem_of_getElem? (i := 132) rfl) rfl
theorem zt_3_133 : (Jvm.Cond.instanceMethod ({ cls := "TorchPlate", name := "burns", desc := "(I)I" } : Jvm.MethodName)) ∈ wsL_law := z_in3 (List.mem_of_getElem? (i := 133) rfl) rfl
theorem zt_3_134 : (Jvm.Cond.selects "TorchPlate" ({ cls := "TorchPlate", name := "burns", desc := "(I)I" } : Jvm.MethodName) ({ cls := "TorchPlate", name := "burns", desc := "(I)I" } : Jvm.MethodName)) ∈ wsL_law := z_in3 (List.mem_of_getElem? (i := 134) rfl) rfl
theorem zk_L_40 : z_KV RL 40 mX8_burns 1 := ⟨zk0_X8_burns, zt_3_132, zt_3_133, zt_3_134⟩
theorem zt_5_101 : (Jvm.Cond.methodLink "TorchPlateLaw" (43 : Nat) ({ cls := "TorchPlateModel", name := "burns", desc := "(I)I" } : Jvm.MethodName)) ∈ wsL_law := z_in5 (List.mem_of_getElem? (i := 101) rfl) rfl
theorem zt_5_102 : (Jvm.Cond.instanceMethod ({ cls := "TorchPlateModel", name := "burns", desc := "(I)I" } : Jvm.MethodName)) ∈ wsL_law := z_in5 (List.mem_of_getElem? (i := 102) rfl) rfl
theorem zt_5_103 : (Jvm.Cond.selects "TorchPlateModel" ({ cls := "TorchPlateModel", name := "burns", desc := "(I)I" } : Jvm.MethodName) ({ cls := "TorchPlateModel", name := "burns", desc := "(I)I" } : Jvm.MethodName)) ∈ wsL_law := z_in5 (List.mem_of_getElem? (i := 103) rfl) rfl
theorem zk_L_43 : z_KV RL 43 mX9_burns 1 := ⟨zk0_X9_burns, zt_5_101, zt_5_102, zt_5_103⟩
theorem zt_3_173 : (Jvm.Cond.methodLink "TorchPlateLaw" (44 : Nat) ({ cls := "TorchPlate", name := "moves", desc := "(I)I" } : Jvm.MethodName)) ∈ wsL_law := z_in3 (List.mem_of_getElem? (i := 173) rfl) rfl
theorem zt_3_174 : (Jvm.Cond.instanceMethod ({ cls := "TorchPlate", name := "moves", desc := "(I)I" } : Jvm.MethodName)) ∈ wsL_law := z_in3 (List.mem_of_getElem? (i := 174) rfl) rfl
theorem zt_3_175 : (Jvm.Cond.selects "TorchPlate" ({ cls := "TorchPlate", name := "moves", desc := "(I)I" } : Jvm.MethodName) ({ cls := "TorchPlate", name := "moves", desc := "(I)I" } : Jvm.MethodName)) ∈ wsL_law := z_in3 (List.mem_of_getElem? (i := 175) rfl) rfl
theorem zk_L_44 : z_KV RL 44 mX8_moves 1 := ⟨zk0_X8_moves, zt_3_173, zt_3_174, zt_3_175⟩
theorem zt_5_129 : (Jvm.Cond.methodLink "TorchPlateLaw" (47 : Nat) ({ cls := "TorchPlateModel", name := "moves", desc := "(I)I" } : Jvm.MethodName)) ∈ wsL_law := z_in5 (List.mem_of_getElem? (i := 129) rfl) rfl
theorem zt_5_130 : (Jvm.Cond.instanceMethod ({ cls := "TorchPlateModel", name := "moves", desc := "(I)I" } : Jvm.MethodName)) ∈ wsL_law := z_in5 (List.mem_of_getElem? (i := 130) rfl) rfl
theorem zt_5_131 : (Jvm.Cond.selects "TorchPlateModel" ({ cls := "TorchPlateModel", name := "moves", desc := "(I)I" } : Jvm.MethodName) ({ cls := "TorchPlateModel", name := "moves", desc := "(I)I" } : Jvm.MethodName)) ∈ wsL_law := z_in5 (List.mem_of_getElem? (i := 131) rfl) rfl
theorem zk_L_47 : z_KV RL 47 mX9_moves 1 := ⟨zk0_X9_moves, zt_5_129, zt_5_130, zt_5_131⟩
theorem zt_3_185 : (Jvm.Cond.methodLink "TorchPlateLaw" (48 : Nat) ({ cls := "TorchPlate", name := "follows", desc := "()I" } : Jvm.MethodName)) ∈ wsL_law := z_in3 (List.mem_of_getElem? (i := 185) rfl) rfl
theorem zt_3_186 : (Jvm.Cond.instanceMethod ({ cls := "TorchPlate", name := "follows", desc := "()I" } : Jvm.MethodName)) ∈ wsL_law := z_in3 (List.mem_of_getElem? (i := 186) rfl) rfl
theorem zt_3_187 : (Jvm.Cond.selects "TorchPlate" ({ cls := "TorchPlate", name := "follows", desc := "()I" } : Jvm.MethodName) ({ cls := "TorchPlate", name := "follows", desc := "()I" } : Jvm.MethodName)) ∈ wsL_law := z_in3 (List.mem_of_getElem? (i := 187) rfl) rfl
theorem zk_L_48 : z_KV RL 48 mX8_follows 0 := ⟨zk0_X8_follows, zt_3_185, zt_3_186, zt_3_187⟩
theorem zt_5_137 : (Jvm.Cond.methodLink "TorchPlateLaw" (51 : Nat) ({ cls := "TorchPlateModel", name := "follows", desc := "()I" } : Jvm.MethodName)) ∈ wsL_law := z_in5 (List.mem_of_getElem? (i := 137) rfl) rfl
theorem zt_5_138 : (Jvm.Cond.instanceMethod ({ cls := "TorchPlateModel", name := "follows", desc := "()I" } : Jvm.MethodName)) ∈ wsL_law := z_in5 (List.mem_of_getElem? (i := 138) rfl) rfl
theorem zt_5_139 : (Jvm.Cond.selects "TorchPlateModel" ({ cls := "TorchPlateModel", name := "follows", desc := "()I" } : Jvm.MethodName) ({ cls := "TorchPlateModel", name := "follows", desc := "()I" } : Jvm.MethodName)) ∈ wsL_law := z_in5 (List.mem_of_getElem? (i := 139) rfl) rfl
theorem zk_L_51 : z_KV RL 51 mX9_follows 0 := ⟨zk0_X9_follows, zt_5_137, zt_5_138, zt_5_139⟩
theorem zt_3_233 : (Jvm.Cond.methodLink "TorchPlateLaw" (52 : Nat) ({ cls := "TorchPlate", name := "undo", desc := "()I" } : Jvm.MethodName)) ∈ wsL_law := z_in3 (List.mem_of_getElem? (i := 233) rfl) rfl
theorem zt_3_234 : (Jvm.Cond.instanceMethod ({ cls := "TorchPlate", name := "undo", desc := "()I" } : Jvm.MethodName)) ∈ wsL_law := z_in3 (List.mem_of_getElem? (i := 234) rfl) rfl
theorem zt_3_235 : (Jvm.Cond.selects "TorchPlate" ({ cls := "TorchPlate", name := "undo", desc := "()I" } : Jvm.MethodName) ({ cls := "TorchPlate", name := "undo", desc := "()I" } : Jvm.MethodName)) ∈ wsL_law := z_in3 (List.mem_of_getElem? (i := 235) rfl) rfl
theorem zk_L_52 : z_KV RL 52 mX8_undo 0 := ⟨zk0_X8_undo, zt_3_233, zt_3_234, zt_3_235⟩
theorem zt_5_197 : (Jvm.Cond.methodLink "TorchPlateLaw" (55 : Nat) ({ cls := "TorchPlateModel", name := "undo", desc := "()I" } : Jvm.MethodName)) ∈ wsL_law := z_in5 (List.mem_of_getElem? (i := 197) rfl) rfl
theorem zt_5_198 : (Jvm.Cond.instanceMethod ({ cls := "TorchPlateModel", name := "undo", desc := "()I" } : Jvm.MethodName)) ∈ wsL_law := z_in5 (List.mem_of_getElem? (i := 198) rfl) rfl
theorem zt_5_199 : (Jvm.Cond.selects "TorchPlateModel" ({ cls := "TorchPlateModel", name := "undo", desc := "()I" } : Jvm.MethodName) ({ cls := "TorchPlateModel", name := "undo", desc := "()I" } : Jvm.MethodName)) ∈ wsL_law := z_in5 (List.mem_of_getElem? (i := 199) rfl) rfl
theorem zk_L_55 : z_KV RL 55 mX9_undo 0 := ⟨zk0_X9_undo, zt_5_197, zt_5_198, zt_5_199⟩
theorem zt_4_1 : (Jvm.Cond.methodLink "TorchPlateLaw" (56 : Nat) ({ cls := "TorchPlate", name := "piece", desc := "(II)I" } : Jvm.MethodName)) ∈ wsL_law := z_in4 (List.mem_of_getElem? (i := 1) rfl) rfl
theorem zt_4_2 : (Jvm.Cond.instanceMethod ({ cls := "TorchPlate", name := "piece", desc := "(II)I" } : Jvm.MethodName)) ∈ wsL_law := z_in4 (List.mem_of_getElem? (i := 2) rfl) rfl
theorem zt_4_3 : (Jvm.Cond.selects "TorchPlate" ({ cls := "TorchPlate", name := "piece", desc := "(II)I" } : Jvm.MethodName) ({ cls := "TorchPlate", name := "piece", desc := "(II)I" } : Jvm.MethodName)) ∈ wsL_law := z_in4 (List.mem_of_getElem? (i := 3) rfl) rfl
theorem zk_L_56 : z_KV RL 56 mX8_piece 2 := ⟨zk0_X8_piece, zt_4_1, zt_4_2, zt_4_3⟩
theorem zt_5_205 : (Jvm.Cond.methodLink "TorchPlateLaw" (59 : Nat) ({ cls := "TorchPlateModel", name := "piece", desc := "(II)I" } : Jvm.MethodName)) ∈ wsL_law := z_in5 (List.mem_of_getElem? (i := 205) rfl) rfl
theorem zt_5_206 : (Jvm.Cond.instanceMethod ({ cls := "TorchPlateModel", name := "piece", desc := "(II)I" } : Jvm.MethodName)) ∈ wsL_law := z_in5 (List.mem_of_getElem? (i := 206) rfl) rfl
theorem zt_5_207 : (Jvm.Cond.selects "TorchPlateModel" ({ cls := "TorchPlateModel", name := "piece", desc := "(II)I" } : Jvm.MethodName) ({ cls := "TorchPlateModel", name := "piece", desc := "(II)I" } : Jvm.MethodName)) ∈ wsL_law := z_in5 (List.mem_of_getElem? (i := 207) rfl) rfl
theorem zk_L_59 : z_KV RL 59 mX9_piece 2 := ⟨zk0_X9_piece, zt_5_205, zt_5_206, zt_5_207⟩
theorem zt_4_7 : (Jvm.Cond.methodLink "TorchPlateLaw" (60 : Nat) ({ cls := "TorchPlate", name := "link", desc := "(I)I" } : Jvm.MethodName)) ∈ wsL_law := z_in4 (List.mem_of_getElem? (i := 7) rfl) rfl
theorem zt_4_8 : (Jvm.Cond.instanceMethod ({ cls := "TorchPlate", name := "link", desc := "(I)I" } : Jvm.MethodName)) ∈ wsL_law := z_in4 (List.mem_of_getElem? (i := 8) rfl) rfl
theorem zt_4_9 : (Jvm.Cond.selects "TorchPlate" ({ cls := "TorchPlate", name := "link", desc := "(I)I" } : Jvm.MethodName) ({ cls := "TorchPlate", name := "link", desc := "(I)I" } : Jvm.MethodName)) ∈ wsL_law := z_in4 (List.mem_of_getElem? (i := 9) rfl) rfl
theorem zk_L_60 : z_KV RL 60 mX8_link 1 := ⟨zk0_X8_link, zt_4_7, zt_4_8, zt_4_9⟩
theorem zt_5_201 : (Jvm.Cond.methodLink "TorchPlateLaw" (63 : Nat) ({ cls := "TorchPlateModel", name := "link", desc := "(I)I" } : Jvm.MethodName)) ∈ wsL_law := z_in5 (List.mem_of_getElem? (i := 201) rfl) rfl
theorem zt_5_202 : (Jvm.Cond.instanceMethod ({ cls := "TorchPlateModel", name := "link", desc := "(I)I" } : Jvm.MethodName)) ∈ wsL_law := z_in5 (List.mem_of_getElem? (i := 202) rfl) rfl
theorem zt_5_203 : (Jvm.Cond.selects "TorchPlateModel" ({ cls := "TorchPlateModel", name := "link", desc := "(I)I" } : Jvm.MethodName) ({ cls := "TorchPlateModel", name := "link", desc := "(I)I" } : Jvm.MethodName)) ∈ wsL_law := z_in5 (List.mem_of_getElem? (i := 203) rfl) rfl
theorem zk_L_63 : z_KV RL 63 mX9_link 1 := ⟨zk0_X9_link, zt_5_201, zt_5_202, zt_5_203⟩
theorem zt_4_11 : (Jvm.Cond.methodLink "TorchPlateLaw" (64 : Nat) ({ cls := "TorchPlate", name := "round", desc := "(III)I" } : Jvm.MethodName)) ∈ wsL_law := z_in4 (List.mem_of_getElem? (i := 11) rfl) rfl
theorem zt_4_12 : (Jvm.Cond.instanceMethod ({ cls := "TorchPlate", name := "round", desc := "(III)I" } : Jvm.MethodName)) ∈ wsL_law := z_in4 (List.mem_of_getElem? (i := 12) rfl) rfl
theorem zt_4_13 : (Jvm.Cond.selects "TorchPlate" ({ cls := "TorchPlate", name := "round", desc := "(III)I" } : Jvm.MethodName) ({ cls := "TorchPlate", name := "round", desc := "(III)I" } : Jvm.MethodName)) ∈ wsL_law := z_in4 (List.mem_of_getElem? (i := 13) rfl) rfl
theorem zk_L_64 : z_KV RL 64 mX8_round 3 := ⟨zk0_X8_round, zt_4_11, zt_4_12, zt_4_13⟩
theorem zt_5_209 : (Jvm.Cond.methodLink "TorchPlateLaw" (68 : Nat) ({ cls := "TorchPlateModel", name := "round", desc := "(III)I" } : Jvm.MethodName)) ∈ wsL_law := z_in5 (List.mem_of_getElem? (i := 209) rfl) rfl
theorem zt_5_210 : (Jvm.Cond.instanceMethod ({ cls := "TorchPlateModel", name := "round", desc := "(III)I" } : Jvm.MethodName)) ∈ wsL_law := z_in5 (List.mem_of_getElem? (i := 210) rfl) rfl
theorem zt_5_211 : (Jvm.Cond.selects "TorchPlateModel" ({ cls := "TorchPlateModel", name := "round", desc := "(III)I" } : Jvm.MethodName) ({ cls := "TorchPlateModel", name := "round", desc := "(III)I" } : Jvm.MethodName)) ∈ wsL_law := z_in5 (List.mem_of_getElem? (i := 211) rfl) rfl
theorem zk_L_68 : z_KV RL 68 mX9_round 3 := ⟨zk0_X9_round, zt_5_209, zt_5_210, zt_5_211⟩
theorem zt_4_15 : (Jvm.Cond.methodLink "TorchPlateLaw" (69 : Nat) ({ cls := "TorchPlate", name := "tour", desc := "(I)I" } : Jvm.MethodName)) ∈ wsL_law := z_in4 (List.mem_of_getElem? (i := 15) rfl) rfl
theorem zt_4_16 : (Jvm.Cond.instanceMethod ({ cls := "TorchPlate", name := "tour", desc := "(I)I" } : Jvm.MethodName)) ∈ wsL_law := z_in4 (List.mem_of_getElem? (i := 16) rfl) rfl
theorem zt_4_17 : (Jvm.Cond.selects "TorchPlate" ({ cls := "TorchPlate", name := "tour", desc := "(I)I" } : Jvm.MethodName) ({ cls := "TorchPlate", name := "tour", desc := "(I)I" } : Jvm.MethodName)) ∈ wsL_law := z_in4 (List.mem_of_getElem? (i := 17) rfl) rfl
theorem zk_L_69 : z_KV RL 69 mX8_tour 1 := ⟨zk0_X8_tour, zt_4_15, zt_4_16, zt_4_17⟩
theorem zt_5_213 : (Jvm.Cond.methodLink "TorchPlateLaw" (72 : Nat) ({ cls := "TorchPlateModel", name := "tour", desc := "(I)I" } : Jvm.MethodName)) ∈ wsL_law := z_in5 (List.mem_of_getElem? (i := 213) rfl) rfl
theorem zt_5_214 : (Jvm.Cond.instanceMethod ({ cls := "TorchPlateModel", name := "tour", desc := "(I)I" } : Jvm.MethodName)) ∈ wsL_law := z_in5 (List.mem_of_getElem? (i := 214) rfl) rfl
theorem zt_5_215 : (Jvm.Cond.selects "TorchPlateModel" ({ cls := "TorchPlateModel", name := "tour", desc := "(I)I" } : Jvm.MethodName) ({ cls := "TorchPlateModel", name := "tour", desc := "(I)I" } : Jvm.MethodName)) ∈ wsL_law := z_in5 (List.mem_of_getElem? (i := 215) rfl) rfl
theorem zk_L_72 : z_KV RL 72 mX9_tour 1 := ⟨zk0_X9_tour, zt_5_213, zt_5_214, zt_5_215⟩
theorem zt_4_23 : (Jvm.Cond.methodLink "TorchPlateLaw" (73 : Nat) ({ cls := "TorchPlate", name := "sees", desc := "(III)I" } : Jvm.MethodName)) ∈ wsL_law := z_in4 (List.mem_of_getElem? (i := 23) rfl) rfl
theorem zt_4_24 : (Jvm.Cond.instanceMethod ({ cls := "TorchPlate", name := "sees", desc := "(III)I" } : Jvm.MethodName)) ∈ wsL_law := z_in4 (List.mem_of_getElem? (i := 24) rfl) rfl
theorem zt_4_25 : (Jvm.Cond.selects "TorchPlate" ({ cls := "TorchPlate", name := "sees", desc := "(III)I" } : Jvm.MethodName) ({ cls := "TorchPlate", name := "sees", desc := "(III)I" } : Jvm.MethodName)) ∈ wsL_law := z_in4 (List.mem_of_getElem? (i := 25) rfl) rfl
theorem zk_L_73 : z_KV RL 73 mX8_sees 3 := ⟨zk0_X8_sees, zt_4_23, zt_4_24, zt_4_25⟩
theorem zt_5_217 : (Jvm.Cond.methodLink "TorchPlateLaw" (76 : Nat) ({ cls := "TorchPlateModel", name := "sees", desc := "(III)I" } : Jvm.MethodName)) ∈ wsL_law := z_in5 (List.mem_of_getElem? (i := 217) rfl) rfl
theorem zt_5_218 : (Jvm.Cond.instanceMethod ({ cls := "TorchPlateModel", name := "sees", desc := "(III)I" } : Jvm.MethodName)) ∈ wsL_law := z_in5 (List.mem_of_getElem? (i := 218) rfl) rfl
theorem zt_5_219 : (Jvm.Cond.selects "TorchPlateModel" ({ cls := "TorchPlateModel", name := "sees", desc := "(III)I" } : Jvm.MethodName) ({ cls := "TorchPlateModel", name := "sees", desc := "(III)I" } : Jvm.MethodName)) ∈ wsL_law := z_in5 (List.mem_of_getElem? (i := 219) rfl) rfl
theorem zk_L_76 : z_KV RL 76 mX9_sees 3 := ⟨zk0_X9_sees, zt_5_217, zt_5_218, zt_5_219⟩
theorem zt_4_31 : (Jvm.Cond.methodLink "TorchPlateLaw" (77 : Nat) ({ cls := "TorchPlate", name := "forget", desc := "()I" } : Jvm.MethodName)) ∈ wsL_law := z_in4 (List.mem_of_getElem? (i := 31) rfl) rfl
theorem zt_4_32 : (Jvm.Cond.instanceMethod ({ cls := "TorchPlate", name := "forget", desc := "()I" } : Jvm.MethodName)) ∈ wsL_law := z_in4 (List.mem_of_getElem? (i := 32) rfl) rfl
theorem zt_4_33 : (Jvm.Cond.selects "TorchPlate" ({ cls := "TorchPlate", name := "forget", desc := "()I" } : Jvm.MethodName) ({ cls := "TorchPlate", name := "forget", desc := "()I" } : Jvm.MethodName)) ∈ wsL_law := z_in4 (List.mem_of_getElem? (i := 33) rfl) rfl
theorem zk_L_77 : z_KV RL 77 mX8_forget 0 := ⟨zk0_X8_forget, zt_4_31, zt_4_32, zt_4_33⟩
theorem zt_5_221 : (Jvm.Cond.methodLink "TorchPlateLaw" (80 : Nat) ({ cls := "TorchPlateModel", name := "forget", desc := "()I" } : Jvm.MethodName)) ∈ wsL_law := z_in5 (List.mem_of_getElem? (i := 221) rfl) rfl
theorem zt_5_222 : (Jvm.Cond.instanceMethod ({ cls := "TorchPlateModel", name := "forget", desc := "()I" } : Jvm.MethodName)) ∈ wsL_law := z_in5 (List.mem_of_getElem? (i := 222) rfl) rfl
theorem zt_5_223 : (Jvm.Cond.selects "TorchPlateModel" ({ cls := "TorchPlateModel", name := "forget", desc := "()I" } : Jvm.MethodName) ({ cls := "TorchPlateModel", name := "forget", desc := "()I" } : Jvm.MethodName)) ∈ wsL_law := z_in5 (List.mem_of_getElem? (i := 223) rfl) rfl
theorem zk_L_80 : z_KV RL 80 mX9_forget 0 := ⟨zk0_X9_forget, zt_5_221, zt_5_222, zt_5_223⟩
theorem zt_4_35 : (Jvm.Cond.methodLink "TorchPlateLaw" (81 : Nat) ({ cls := "TorchPlate", name := "unseen", desc := "()I" } : Jvm.MethodName)) ∈ wsL_law := z_in4 (List.mem_of_getElem? (i := 35) rfl) rfl
theorem zt_4_36 : (Jvm.Cond.instanceMethod ({ cls := "TorchPlate", name := "unseen", desc := "()I" } : Jvm.MethodName)) ∈ wsL_law := z_in4 (List.mem_of_getElem? (i := 36) rfl) rfl
theorem zt_4_37 : (Jvm.Cond.selects "TorchPlate" ({ cls := "TorchPlate", name := "unseen", desc := "()I" } : Jvm.MethodName) ({ cls := "TorchPlate", name := "unseen", desc := "()I" } : Jvm.MethodName)) ∈ wsL_law := z_in4 (List.mem_of_getElem? (i := 37) rfl) rfl
theorem zk_L_81 : z_KV RL 81 mX8_unseen 0 := ⟨zk0_X8_unseen, zt_4_35, zt_4_36, zt_4_37⟩
theorem zt_5_225 : (Jvm.Cond.methodLink "TorchPlateLaw" (84 : Nat) ({ cls := "TorchPlateModel", name := "unseen", desc := "()I" } : Jvm.MethodName)) ∈ wsL_law := z_in5 (List.mem_of_getElem? (i := 225) rfl) rfl
theorem zt_5_226 : (Jvm.Cond.instanceMethod ({ cls := "TorchPlateModel", name := "unseen", desc := "()I" } : Jvm.MethodName)) ∈ wsL_law := z_in5 (List.mem_of_getElem? (i := 226) rfl) rfl
theorem zt_5_227 : (Jvm.Cond.selects "TorchPlateModel" ({ cls := "TorchPlateModel", name := "unseen", desc := "()I" } : Jvm.MethodName) ({ cls := "TorchPlateModel", name := "unseen", desc := "()I" } : Jvm.MethodName)) ∈ wsL_law := z_in5 (List.mem_of_getElem? (i := 227) rfl) rfl
theorem zk_L_84 : z_KV RL 84 mX9_unseen 0 := ⟨zk0_X9_unseen, zt_5_225, zt_5_226, zt_5_227⟩
theorem zt_4_50 : (Jvm.Cond.methodLink "TorchPlateLaw" (85 : Nat) ({ cls := "TorchPlate", name := "ask", desc := "()I" } : Jvm.MethodName)) ∈ wsL_law := z_in4 (List.mem_of_getElem? (i := 50) rfl) rfl
theorem zt_4_51 : (Jvm.Cond.instanceMethod ({ cls := "TorchPlate", name := "ask", desc := "()I" } : Jvm.MethodName)) ∈ wsL_law := z_in4 (List.mem_of_getElem? (i := 51) rfl) rfl
theorem zt_4_52 : (Jvm.Cond.selects "TorchPlate" ({ cls := "TorchPlate", name := "ask", desc := "()I" } : Jvm.MethodName) ({ cls := "TorchPlate", name := "ask", desc := "()I" } : Jvm.MethodName)) ∈ wsL_law := z_in4 (List.mem_of_getElem? (i := 52) rfl) rfl
theorem zk_L_85 : z_KV RL 85 mX8_ask 0 := ⟨zk0_X8_ask, zt_4_50, zt_4_51, zt_4_52⟩
theorem zt_5_233 : (Jvm.Cond.methodLink "TorchPlateLaw" (88 : Nat) ({ cls := "TorchPlateModel", name := "ask", desc := "()I" } : Jvm.MethodName)) ∈ wsL_law := z_in5 (List.mem_of_getElem? (i := 233) rfl) rfl
theorem zt_5_234 : (Jvm.Cond.instanceMethod ({ cls := "TorchPlateModel", name := "ask", desc := "()I" } : Jvm.MethodName)) ∈ wsL_law := z_in5 (List.mem_of_getElem? (i := 234) rfl) rfl
theorem zt_5_235 : (Jvm.Cond.selects "TorchPlateModel" ({ cls := "TorchPlateModel", name := "ask", desc := "()I" } : Jvm.MethodName) ({ cls := "TorchPlateModel", name := "ask", desc := "()I" } : Jvm.MethodName)) ∈ wsL_law := z_in5 (List.mem_of_getElem? (i := 235) rfl) rfl
theorem zk_L_88 : z_KV RL 88 mX9_ask 0 := ⟨zk0_X9_ask, zt_5_233, zt_5_234, zt_5_235⟩
theorem zt_4_71 : (Jvm.Cond.methodLink "TorchPlateLaw" (89 : Nat) ({ cls := "TorchPlate", name := "keep", desc := "(I)I" } : Jvm.MethodName)) ∈ wsL_law := z_in4 (List.mem_of_getElem? (i := 71) rfl) rfl
theorem zt_4_72 : (Jvm.Cond.instanceMethod ({ cls := "TorchPlate", name := "keep", desc := "(I)I" } : Jvm.MethodName)) ∈ wsL_law := z_in4 (List.mem_of_getElem? (i := 72) rfl) rfl
theorem zt_4_73 : (Jvm.Cond.selects "TorchPlate" ({ cls := "TorchPlate", name := "keep", desc := "(I)I" } : Jvm.MethodName) ({ cls := "TorchPlate", name := "keep", desc := "(I)I" } : Jvm.MethodName)) ∈ wsL_law := z_in4 (List.mem_of_getElem? (i := 73) rfl) rfl
theorem zk_L_89 : z_KV RL 89 mX8_keep 1 := ⟨zk0_X8_keep, zt_4_71, zt_4_72, zt_4_73⟩
theorem zt_5_237 : (Jvm.Cond.methodLink "TorchPlateLaw" (92 : Nat) ({ cls := "TorchPlateModel", name := "keep", desc := "(I)I" } : Jvm.MethodName)) ∈ wsL_law := z_in5 (List.mem_of_getElem? (i := 237) rfl) rfl
theorem zt_5_238 : (Jvm.Cond.instanceMethod ({ cls := "TorchPlateModel", name := "keep", desc := "(I)I" } : Jvm.MethodName)) ∈ wsL_law := z_in5 (List.mem_of_getElem? (i := 238) rfl) rfl
theorem zt_5_239 : (Jvm.Cond.selects "TorchPlateModel" ({ cls := "TorchPlateModel", name := "keep", desc := "(I)I" } : Jvm.MethodName) ({ cls := "TorchPlateModel", name := "keep", desc := "(I)I" } : Jvm.MethodName)) ∈ wsL_law := z_in5 (List.mem_of_getElem? (i := 239) rfl) rfl
theorem zk_L_92 : z_KV RL 92 mX9_keep 1 := ⟨zk0_X9_keep, zt_5_237, zt_5_238, zt_5_239⟩
theorem zt_4_76 : (Jvm.Cond.methodLink "TorchPlateLaw" (93 : Nat) ({ cls := "TorchPlate", name := "back", desc := "(I)I" } : Jvm.MethodName)) ∈ wsL_law := z_in4 (List.mem_of_getElem? (i := 76) rfl) rfl
theorem zt_4_77 : (Jvm.Cond.instanceMethod ({ cls := "TorchPlate", name := "back", desc := "(I)I" } : Jvm.MethodName)) ∈ wsL_law := z_in4 (List.mem_of_getElem? (i := 77) rfl) rfl
theorem zt_4_78 : (Jvm.Cond.selects "TorchPlate" ({ cls := "TorchPlate", name := "back", desc := "(I)I" } : Jvm.MethodName) ({ cls := "TorchPlate", name := "back", desc := "(I)I" } : Jvm.MethodName)) ∈ wsL_law := z_in4 (List.mem_of_getElem? (i := 78) rfl) rfl
theorem zk_L_93 : z_KV RL 93 mX8_back 1 := ⟨zk0_X8_back, zt_4_76, zt_4_77, zt_4_78⟩
theorem zt_6_1 : (Jvm.Cond.methodLink "TorchPlateLaw" (96 : Nat) ({ cls := "TorchPlateModel", name := "back", desc := "(I)I" } : Jvm.MethodName)) ∈ wsL_law := z_in6 (List.mem_of_getElem? (i := 1) rfl) rfl
theorem zt_6_2 : (Jvm.Cond.instanceMethod ({ cls := "TorchPlateModel", name := "back", desc := "(I)I" } : Jvm.MethodName)) ∈ wsL_law := z_in6 (List.mem_of_getElem? (i := 2) rfl) rfl
theorem zt_6_3 : (Jvm.Cond.selects "TorchPlateModel" ({ cls := "TorchPlateModel", name := "back", desc := "(I)I" } : Jvm.MethodName) ({ cls := "TorchPlateModel", name := "back", desc := "(I)I" } : Jvm.MethodName)) ∈ wsL_law := z_in6 (List.mem_of_getElem? (i := 3) rfl) rfl
theorem zk_L_96 : z_KV RL 96 mX9_back 1 := ⟨zk0_X9_back, zt_6_1, zt_6_2, zt_6_3⟩
theorem zt_4_80 : (Jvm.Cond.methodLink "TorchPlateLaw" (97 : Nat) ({ cls := "TorchPlate", name := "count", desc := "(I)I" } : Jvm.MethodName)) ∈ wsL_law := z_in4 (List.mem_of_getElem? (i := 80) rfl) rfl
theorem zt_4_81 : (Jvm.Cond.instanceMethod ({ cls := "TorchPlate", name := "count", desc := "(I)I" } : Jvm.MethodName)) ∈ wsL_law := z_in4 (List.mem_of_getElem? (i := 81) rfl) rfl
theorem zt_4_82 : (Jvm.Cond.selects "TorchPlate" ({ cls := "TorchPlate", name := "count", desc := "(I)I" } : Jvm.MethodName) ({ cls := "TorchPlate", name := "count", desc := "(I)I" } : Jvm.MethodName)) ∈ wsL_law := z_in4 (List.mem_of_getElem? (i := 82) rfl) rfl
theorem zk_L_97 : z_KV RL 97 mX8_count 1 := ⟨zk0_X8_count, zt_4_80, zt_4_81, zt_4_82⟩
theorem zt_6_5 : (Jvm.Cond.methodLink "TorchPlateLaw" (100 : Nat) ({ cls := "TorchPlateModel", name := "count", desc := "(I)I" } : Jvm.MethodName)) ∈ wsL_law := z_in6 (List.mem_of_getElem? (i := 5) rfl) rfl
theorem zt_6_6 : (Jvm.Cond.instanceMethod ({ cls := "TorchPlateModel", name := "count", desc := "(I)I" } : Jvm.MethodName)) ∈ wsL_law := z_in6 (List.mem_of_getElem? (i := 6) rfl) rfl
theorem zt_6_7 : (Jvm.Cond.selects "TorchPlateModel" ({ cls := "TorchPlateModel", name := "count", desc := "(I)I" } : Jvm.MethodName) ({ cls := "TorchPlateModel", name := "count", desc := "(I)I" } : Jvm.MethodName)) ∈ wsL_law := z_in6 (List.mem_of_getElem? (i := 7) rfl) rfl
theorem zk_L_100 : z_KV RL 100 mX9_count 1 := ⟨zk0_X9_count, zt_6_5, zt_6_6, zt_6_7⟩
theorem zt_1_177 : (Jvm.Cond.methodLink "TorchPlate$Past" (3 : Nat) ({ cls := "java/lang/Object", name := "<init>", desc := "()V" } : Jvm.MethodName)) ∈ wsL_law := z_in1 (List.mem_of_getElem? (i := 177) rfl) rfl
theorem zt_1_21 : (Jvm.Cond.instanceMethod ({ cls := "java/lang/Object", name := "<init>", desc := "()V" } : Jvm.MethodName)) ∈ wsL_law := z_in1 (List.mem_of_getElem? (i := 21) rfl) rfl
theorem zt_1_22 : (Jvm.Cond.code ({ cls := "java/lang/Object", name := "<init>", desc := "()V" } : Jvm.MethodName) object_method_1_code (1 : Nat) (Option.none : Option Jvm.ClassFile.FieldType)) ∈ wsL_law := z_in1 (List.mem_of_getElem? (i := 22) rfl) rfl
theorem zt_1_147 : (Jvm.Cond.instanceMethod ({ cls := "TorchPlate$Plight", name := "<init>", desc := "()V" } : Jvm.MethodName)) ∈ wsL_law := z_in1 (List.mem_of_getElem? (i := 147) rfl) rfl
theorem zk_X0_24 : z_KJ RX0 24 mX2_init 0 := ⟨zk0_X2_init, ⟨RX8, List.mem_of_getElem? (i := 3) rfl⟩, zt_1_147, rfl, rfl⟩
theorem zt_3_150 : (Jvm.Cond.methodLink "TorchPlate$Past" (25 : Nat) ({ cls := "TorchPlate$Plight", name := "become", desc := "(LTorchPlate$Plight;)V" } : Jvm.MethodName)) ∈ wsL_law := z_in3 (List.mem_of_getElem? (i := 150) rfl) rfl
theorem zt_3_151 : (Jvm.Cond.instanceMethod ({ cls := "TorchPlate$Plight", name := "become", desc := "(LTorchPlate$Plight;)V" } : Jvm.MethodName)) ∈ wsL_law := z_in3 (List.mem_of_getElem? (i := 151) rfl) rfl
theorem zt_3_152 : (Jvm.Cond.selects "TorchPlate$Plight" ({ cls := "TorchPlate$Plight", name := "become", desc := "(LTorchPlate$Plight;)V" } : Jvm.MethodName) ({ cls := "TorchPlate$Plight", name := "become", desc := "(LTorchPlate$Plight;)V" } : Jvm.MethodName)) ∈ wsL_law := z_in3 (List.mem_of_getElem? (i := 152) rfl) rfl
theorem zk_X0_25 : z_KV RX0 25 mX2_become 1 := ⟨zk0_X2_become, zt_3_150, zt_3_151, zt_3_152⟩
theorem zt_3_157 : (Jvm.Cond.methodLink "TorchPlate$Past" (29 : Nat) ({ cls := "java/lang/Math", name := "min", desc := "(II)I" } : Jvm.MethodName)) ∈ wsL_law := z_in3 (List.mem_of_getElem? (i := 157) rfl) rfl
theorem zt_2_149 : (Jvm.Cond.static ({ cls := "java/lang/Math", name := "min", desc := "(II)I" } : Jvm.MethodName)) ∈ wsL_law := z_in2 (List.mem_of_getElem? (i := 149) rfl) rfl
theorem zt_1_12 : (Jvm.Cond.initialized "java/lang/Math") ∈ wsL_law := z_in1 (List.mem_of_getElem? (i := 12) rfl) rfl
theorem zt_2_150 : (Jvm.Cond.code ({ cls := "java/lang/Math", name := "min", desc := "(II)I" } : Jvm.MethodName) prog_13_method_69_code (2 : Nat) (Option.some Jvm.ClassFile.FieldType.int)) ∈ wsL_law := z_in2 (List.mem_of_getElem? (i := 150) rfl) rfl
theorem zt_1_28 : (Jvm.Cond.methodLink "TorchPlate$Plate" (3 : Nat) ({ cls := "java/lang/Object", name := "<init>", desc := "()V" } : Jvm.MethodName)) ∈ wsL_law := z_in1 (List.mem_of_getElem? (i := 28) rfl) rfl
theorem zt_2_143 : (Jvm.Cond.methodLink "TorchPlate$Plate" (57 : Nat) ({ cls := "java/util/Arrays", name := "fill", desc := "([II)V" } : Jvm.MethodName)) ∈ wsL_law := z_in2 (List.mem_of_getElem? (i := 143) rfl) rfl
theorem zt_2_84 : (Jvm.Cond.static ({ cls := "java/util/Arrays", name := "fill", desc := "([II)V" } : Jvm.MethodName)) ∈ wsL_law := z_in2 (List.mem_of_getElem? (i := 84) rfl) rfl
theorem zk_X1_57 : z_KS RX1 57 mJ7_fill_53178 2 := ⟨zk0_J7_fill_53178, zt_2_143, zt_2_84⟩
theorem zt_2_178 : (Jvm.Cond.methodLink "TorchPlate$Plate" (63 : Nat) ({ cls := "TorchPlate$Plate", name := "hasCorner", desc := "(I)Z" } : Jvm.MethodName)) ∈ wsL_law := z_in2 (List.mem_of_getElem? (i := 178) rfl) rfl
theorem zt_2_179 : (Jvm.Cond.instanceMethod ({ cls := "TorchPlate$Plate", name := "hasCorner", desc := "(I)Z" } : Jvm.MethodName)) ∈ wsL_law := z_in2 (List.mem_of_getElem? (i := 179) rfl) rfl
theorem zt_2_180 : (Jvm.Cond.selects "TorchPlate$Plate" ({ cls := "TorchPlate$Plate", name := "hasCorner", desc := "(I)Z" } : Jvm.MethodName) ({ cls := "TorchPlate$Plate", name := "hasCorner", desc := "(I)Z" } : Jvm.MethodName)) ∈ wsL_law := z_in2 (List.mem_of_getElem? (i := 180) rfl) rfl
theorem zk_X1_63 : z_KV RX1 63 mX1_hasCorner 1 := ⟨zk0_X1_hasCorner, zt_2_178, zt_2_179, zt_2_180⟩
theorem zt_3_92 : (Jvm.Cond.methodLink "TorchPlate$Plate" (67 : Nat) ({ cls := "java/lang/Math", name := "abs", desc := "(I)I" } : Jvm.MethodName)) ∈ wsL_law := z_in3 (List.mem_of_getElem? (i := 92) rfl) rfl
theorem zt_3_93 : (Jvm.Cond.static ({ cls := "java/lang/Math", name := "abs", desc := "(I)I" } : Jvm.MethodName)) ∈ wsL_law := z_in3 (List.mem_of_getElem? (i := 93) rfl) rfl
theorem zt_3_94 : (Jvm.Cond.code ({ cls := "java/lang/Math", name := "abs", desc := "(I)I" } : Jvm.MethodName) prog_13_method_59_code (1 : Nat) (Option.some Jvm.ClassFile.FieldType.int)) ∈ wsL_law := z_in3 (List.mem_of_getElem? (i := 94) rfl) rfl
theorem zt_2_183 : (Jvm.Cond.static ({ cls := "TorchPlate", name := "has", desc := "(II)Z" } : Jvm.MethodName)) ∈ wsL_law := z_in2 (List.mem_of_getElem? (i := 183) rfl) rfl
theorem zk_X1_73 : z_KT RX1 73 mX8_has 2 := ⟨zk0_X8_has, ⟨RX8, List.mem_of_getElem? (i := 10) rfl⟩, zt_2_183⟩
theorem zt_2_214 : (Jvm.Cond.methodLink "TorchPlate$Plate" (77 : Nat) ({ cls := "TorchPlate$Plate", name := "numberCuts", desc := "()V" } : Jvm.MethodName)) ∈ wsL_law := z_in2 (List.mem_of_getElem? (i := 214) rfl) rfl
theorem zt_2_216 : (Jvm.Cond.instanceMethod ({ cls := "TorchPlate$Plate", name := "numberCuts", desc := "()V" } : Jvm.MethodName)) ∈ wsL_law := z_in2 (List.mem_of_getElem? (i := 216) rfl) rfl
theorem zt_S_11 : Cond.selects "TorchPlate$Plate" ⟨"TorchPlate$Plate", "numberCuts", "()V"⟩ ⟨"TorchPlate$Plate", "numberCuts", "()V"⟩ ∈ wsL_law := z_inS (List.mem_of_getElem? (i := 11) rfl) rfl
theorem zk_X1_77 : z_KV RX1 77 mX1_numberCuts 0 := ⟨zk0_X1_numberCuts, zt_2_214, zt_2_216, zt_S_11⟩
theorem zt_2_218 : (Jvm.Cond.methodLink "TorchPlate$Plate" (80 : Nat) ({ cls := "TorchPlate$Plate", name := "cutsOfRing", desc := "(I)I" } : Jvm.MethodName)) ∈ wsL_law := z_in2 (List.mem_of_getElem? (i := 218) rfl) rfl
theorem zt_2_220 : (Jvm.Cond.instanceMethod ({ cls := "TorchPlate$Plate", name := "cutsOfRing", desc := "(I)I" } : Jvm.MethodName)) ∈ wsL_law := z_in2 (List.mem_of_getElem? (i := 220) rfl) rfl
theorem zt_S_12 : Cond.selects "TorchPlate$Plate" ⟨"TorchPlate$Plate", "cutsOfRing", "(I)I"⟩ ⟨"TorchPlate$Plate", "cutsOfRing", "(I)I"⟩ ∈ wsL_law := z_inS (List.mem_of_getElem? (i := 12) rfl) rfl
theorem zk_X1_80 : z_KV RX1 80 mX1_cutsOfRing 1 := ⟨zk0_X1_cutsOfRing, zt_2_218, zt_2_220, zt_S_12⟩
theorem zt_2_234 : (Jvm.Cond.methodLink "TorchPlate$Plate" (83 : Nat) ({ cls := "TorchPlate$Plate", name := "partsAround", desc := "(I)I" } : Jvm.MethodName)) ∈ wsL_law := z_in2 (List.mem_of_getElem? (i := 234) rfl) rfl
theorem zt_2_236 : (Jvm.Cond.instanceMethod ({ cls := "TorchPlate$Plate", name := "partsAround", desc := "(I)I" } : Jvm.MethodName)) ∈ wsL_law := z_in2 (List.mem_of_getElem? (i := 236) rfl) rfl
theorem zt_S_14 : Cond.selects "TorchPlate$Plate" ⟨"TorchPlate$Plate", "partsAround", "(I)I"⟩ ⟨"TorchPlate$Plate", "partsAround", "(I)I"⟩ ∈ wsL_law := z_inS (List.mem_of_getElem? (i := 14) rfl) rfl
theorem zk_X1_83 : z_KV RX1 83 mX1_partsAround 1 := ⟨zk0_X1_partsAround, zt_2_234, zt_2_236, zt_S_14⟩
theorem zt_2_222 : (Jvm.Cond.methodLink "TorchPlate$Plate" (86 : Nat) ({ cls := "TorchPlate$Plate", name := "nextInRing", desc := "(II)I" } : Jvm.MethodName)) ∈ wsL_law := z_in2 (List.mem_of_getElem? (i := 222) rfl) rfl
theorem zt_2_224 : (Jvm.Cond.instanceMethod ({ cls := "TorchPlate$Plate", name := "nextInRing", desc := "(II)I" } : Jvm.MethodName)) ∈ wsL_law := z_in2 (List.mem_of_getElem? (i := 224) rfl) rfl
theorem zt_S_13 : Cond.selects "TorchPlate$Plate" ⟨"TorchPlate$Plate", "nextInRing", "(II)I"⟩ ⟨"TorchPlate$Plate", "nextInRing", "(II)I"⟩ ∈ wsL_law := z_inS (List.mem_of_getElem? (i := 13) rfl) rfl
theorem zk_X1_86 : z_KV RX1 86 mX1_nextInRing 2 := ⟨zk0_X1_nextInRing, zt_2_222, zt_2_224, zt_S_13⟩
theorem zt_2_226 : (Jvm.Cond.methodLink "TorchPlate$Plate" (90 : Nat) ({ cls := "TorchPlate$Plate", name := "cutBetween", desc := "(II)I" } : Jvm.MethodName)) ∈ wsL_law := z_in2 (List.mem_of_getElem? (i := 226) rfl) rfl
theorem zt_2_227 : (Jvm.Cond.instanceMethod ({ cls := "TorchPlate$Plate", name := "cutBetween", desc := "(II)I" } : Jvm.MethodName)) ∈ wsL_law := z_in2 (List.mem_of_getElem? (i := 227) rfl) rfl
theorem zt_2_228 : (Jvm.Cond.selects "TorchPlate$Plate" ({ cls := "TorchPlate$Plate", name := "cutBetween", desc := "(II)I" } : Jvm.MethodName) ({ cls := "TorchPlate$Plate", name := "cutBetween", desc := "(II)I" } : Jvm.MethodName)) ∈ wsL_law := z_in2 (List.mem_of_getElem? (i := 228) rfl) rfl
theorem zk_X1_90 : z_KV RX1 90 mX1_cutBetween 2 := ⟨zk0_X1_cutBetween, zt_2_226, zt_2_227, zt_2_228⟩
theorem zt_2_230 : (Jvm.Cond.methodLink "TorchPlate$Plate" (93 : Nat) ({ cls := "java/lang/Math", name := "min", desc := "(II)I" } : Jvm.MethodName)) ∈ wsL_law := z_in2 (List.mem_of_getElem? (i := 230) rfl) rfl
theorem zt_2_231 : (Jvm.Cond.methodLink "TorchPlate$Plate" (96 : Nat) ({ cls := "java/lang/Math", name := "max", desc := "(II)I" } : Jvm.MethodName)) ∈ wsL_law := z_in2 (List.mem_of_getElem? (i := 231) rfl) rfl
theorem zt_2_232 : (Jvm.Cond.static ({ cls := "java/lang/Math", name := "max", desc := "(II)I" } : Jvm.MethodName)) ∈ wsL_law := z_in2 (List.mem_of_getElem? (i := 232) rfl) rfl
theorem zt_2_233 : (Jvm.Cond.code ({ cls := "java/lang/Math", name := "max", desc := "(II)I" } : Jvm.MethodName) prog_13_method_65_code (2 : Nat) (Option.some Jvm.ClassFile.FieldType.int)) ∈ wsL_law := z_in2 (List.mem_of_getElem? (i := 233) rfl) rfl
theorem zt_2_238 : (Jvm.Cond.methodLink "TorchPlate$Plate" (99 : Nat) ({ cls := "TorchPlate$Plate", name := "goesRound", desc := "(II)Z" } : Jvm.MethodName)) ∈ wsL_law := z_in2 (List.mem_of_getElem? (i := 238) rfl) rfl
theorem zt_3_0 : (Jvm.Cond.instanceMethod ({ cls := "TorchPlate$Plate", name := "goesRound", desc := "(II)Z" } : Jvm.MethodName)) ∈ wsL_law := z_in3 (List.mem_of_getElem? (i := 0) rfl) rfl
theorem zt_S_15 : Cond.selects "TorchPlate$Plate" ⟨"TorchPlate$Plate", "goesRound", "(II)Z"⟩ ⟨"TorchPlate$Plate", "goesRound", "(II)Z"⟩ ∈ wsL_law := z_inS (List.mem_of_getElem? (i := 15) rfl) rfl
theorem zk_X1_99 : z_KV RX1 99 mX1_goesRound 2 := ⟨zk0_X1_goesRound, zt_2_238, zt_3_0, zt_S_15⟩
theorem zt_3_2 : (Jvm.Cond.methodLink "TorchPlate$Plate" (102 : Nat) ({ cls := "TorchPlate$Plate", name := "liesOn", desc := "(III)Z" } : Jvm.MethodName)) ∈ wsL_law := z_in3 (List.mem_of_getElem? (i := 2) rfl) rfl
theorem zt_3_4 : (Jvm.Cond.instanceMethod ({ cls := "TorchPlate$Plate", name := "liesOn", desc := "(III)Z" } : Jvm.MethodName)) ∈ wsL_law := z_in3 (List.mem_of_getElem? (i := 4) rfl) rfl
theorem zt_S_16 : Cond.selects "TorchPlate$Plate" ⟨"TorchPlate$Plate", "liesOn", "(III)Z"⟩ ⟨"TorchPlate$Plate", "liesOn", "(III)Z"⟩ ∈ wsL_law := z_inS (List.mem_of_getElem? (i := 16) rfl) rfl
theorem zk_X1_102 : z_KV RX1 102 mX1_liesOn 3 := ⟨zk0_X1_liesOn, zt_3_2, zt_3_4, zt_S_16⟩
theorem zt_3_10 : (Jvm.Cond.methodLink "TorchPlate$Plate" (106 : Nat) ({ cls := "TorchPlate$Plate", name := "crossing", desc := "(III)I" } : Jvm.MethodName)) ∈ wsL_law := z_in3 (List.mem_of_getElem? (i := 10) rfl) rfl
theorem zt_3_12 : (Jvm.Cond.instanceMethod ({ cls := "TorchPlate$Plate", name := "crossing", desc := "(III)I" } : Jvm.MethodName)) ∈ wsL_law := z_in3 (List.mem_of_getElem? (i := 12) rfl) rfl
theorem zt_S_18 : Cond.selects "TorchPlate$Plate" ⟨"TorchPlate$Plate", "crossing", "(III)I"⟩ ⟨"TorchPlate$Plate", "crossing", "(III)I"⟩ ∈ wsL_law := z_inS (List.mem_of_getElem? (i := 18) rfl) rfl
theorem zk_X1_106 : z_KV RX1 106 mX1_crossing 3 := ⟨zk0_X1_crossing, zt_3_10, zt_3_12, zt_S_18⟩
theorem zt_3_6 : (Jvm.Cond.methodLink "TorchPlate$Plate" (110 : Nat) ({ cls := "TorchPlate$Plate", name := "side", desc := "(III)I" } : Jvm.MethodName)) ∈ wsL_law := z_in3 (List.mem_of_getElem? (i := 6) rfl) rfl
theorem zt_3_8 : (Jvm.Cond.instanceMethod ({ cls := "TorchPlate$Plate", name := "side", desc := "(III)I" } : Jvm.MethodName)) ∈ wsL_law := z_in3 (List.mem_of_getElem? (i := 8) rfl) rfl
theorem zt_S_17 : Cond.selects "TorchPlate$Plate" ⟨"TorchPlate$Plate", "side", "(III)I"⟩ ⟨"TorchPlate$Plate", "side", "(III)I"⟩ ∈ wsL_law := z_inS (List.mem_of_getElem? (i := 17) rfl) rfl
theorem zk_X1_110 : z_KV RX1 110 mX1_side 3 := ⟨zk0_X1_side, zt_3_6, zt_3_8, zt_S_17⟩
theorem zt_1_149 : (Jvm.Cond.methodLink "TorchPlate$Plight" (3 : Nat) ({ cls := "java/lang/Object", name := "<init>", desc := "()V" } : Jvm.MethodName)) ∈ wsL_law := z_in1 (List.mem_of_getElem? (i := 149) rfl) rfl
theorem zt_2_83 : (Jvm.Cond.methodLink "TorchPlate$Plight" (37 : Nat) ({ cls := "java/util/Arrays", name := "fill", desc := "([II)V" } : Jvm.MethodName)) ∈ wsL_law := z_in2 (List.mem_of_getElem? (i := 83) rfl) rfl
theorem zk_X2_37 : z_KS RX2 37 mJ7_fill_53178 2 := ⟨zk0_J7_fill_53178, zt_2_83, zt_2_84⟩
theorem zt_3_154 : (Jvm.Cond.methodLink "TorchPlate$Plight" (43 : Nat) ({ cls := "java/lang/System", name := "arraycopy", desc := "(Ljava/lang/Object;ILjava/lang/Object;II)V" } : Jvm.MethodName)) ∈ wsL_law := z_in3 (List.mem_of_getElem? (i := 154) rfl) rfl
theorem zt_3_155 : (Jvm.Cond.static ({ cls := "java/lang/System", name := "arraycopy", desc := "(Ljava/lang/Object;ILjava/lang/Object;II)V" } : Jvm.MethodName)) ∈ wsL_law := z_in3 (List.mem_of_getElem? (i := 155) rfl) rfl
theorem zt_1_14 : (Jvm.Cond.initialized "java/lang/System") ∈ wsL_law := z_in1 (List.mem_of_getElem? (i := 14) rfl) rfl
theorem zt_3_156 : (Jvm.Cond.native ({ cls := "java/lang/System", name := "arraycopy", desc := "(Ljava/lang/Object;ILjava/lang/Object;II)V" } : Jvm.MethodName)) ∈ wsL_law := z_in3 (List.mem_of_getElem? (i := 156) rfl) rfl
theorem zt_3_171 : (Jvm.Cond.methodLink "TorchPlate$Plight" (49 : Nat) ({ cls := "TorchPlate$Plate", name := "way", desc := "(II)I" } : Jvm.MethodName)) ∈ wsL_law := z_in3 (List.mem_of_getElem? (i := 171) rfl) rfl
theorem zt_3_89 : (Jvm.Cond.instanceMethod ({ cls := "TorchPlate$Plate", name := "way", desc := "(II)I" } : Jvm.MethodName)) ∈ wsL_law := z_in3 (List.mem_of_getElem? (i := 89) rfl) rfl
theorem zt_3_90 : (Jvm.Cond.selects "TorchPlate$Plate" ({ cls := "TorchPlate$Plate", name := "way", desc := "(II)I" } : Jvm.MethodName) ({ cls := "TorchPlate$Plate", name := "way", desc := "(II)I" } : Jvm.MethodName)) ∈ wsL_law := z_in3 (List.mem_of_getElem? (i := 90) rfl) rfl
theorem zk_X2_49 : z_KV RX2 49 mX1_way 2 := ⟨zk0_X1_way, zt_3_171, zt_3_89, zt_3_90⟩
theorem zt_3_162 : (Jvm.Cond.methodLink "TorchPlate$Plight" (53 : Nat) ({ cls := "TorchPlate$Plate", name := "hasCorner", desc := "(I)Z" } : Jvm.MethodName)) ∈ wsL_law := z_in3 (List.mem_of_getElem? (i := 162) rfl) rfl
theorem zk_X2_53 : z_KV RX2 53 mX1_hasCorner 1 := ⟨zk0_X1_hasCorner, zt_3_162, zt_2_179, zt_2_180⟩
theorem zt_3_163 : (Jvm.Cond.methodLink "TorchPlate$Plight" (57 : Nat) ({ cls := "TorchPlate$Plight", name := "beginOfBurn", desc := "(ILTorchPlate$Plate;)I" } : Jvm.MethodName)) ∈ wsL_law := z_in3 (List.mem_of_getElem? (i := 163) rfl) rfl
theorem zt_3_165 : (Jvm.Cond.instanceMethod ({ cls := "TorchPlate$Plight", name := "beginOfBurn", desc := "(ILTorchPlate$Plate;)I" } : Jvm.MethodName)) ∈ wsL_law := z_in3 (List.mem_of_getElem? (i := 165) rfl) rfl
theorem zt_S_29 : Cond.selects "TorchPlate$Plight" ⟨"TorchPlate$Plight", "beginOfBurn", "(ILTorchPlate$Plate;)I"⟩ ⟨"TorchPlate$Plight", "beginOfBurn", "(ILTorchPlate$Plate;)I"⟩ ∈ wsL_law := z_inS (List.mem_of_getElem? (i := 29) rfl) rfl
theorem zk_X2_57 : z_KV RX2 57 mX2_beginOfBurn 2 := ⟨zk0_X2_beginOfBurn, zt_3_163, zt_3_165, zt_S_29⟩
theorem zt_3_167 : (Jvm.Cond.methodLink "TorchPlate$Plight" (64 : Nat) ({ cls := "TorchPlate$Plight", name := "coolAt", desc := "(II)I" } : Jvm.MethodName)) ∈ wsL_law := z_in3 (List.mem_of_getElem? (i := 167) rfl) rfl
theorem zt_3_169 : (Jvm.Cond.instanceMethod ({ cls := "TorchPlate$Plight", name := "coolAt", desc := "(II)I" } : Jvm.MethodName)) ∈ wsL_law := z_in3 (List.mem_of_getElem? (i := 169) rfl) rfl
theorem zt_S_30 : Cond.selects "TorchPlate$Plight" ⟨"TorchPlate$Plight", "coolAt", "(II)I"⟩ ⟨"TorchPlate$Plight", "coolAt", "(II)I"⟩ ∈ wsL_law := z_inS (List.mem_of_getElem? (i := 30) rfl) rfl
theorem zk_X2_64 : z_KV RX2 64 mX2_coolAt 2 := ⟨zk0_X2_coolAt, zt_3_167, zt_3_169, zt_S_30⟩
theorem zt_3_172 : (Jvm.Cond.methodLink "TorchPlate$Plight" (67 : Nat) ({ cls := "java/lang/Math", name := "max", desc := "(II)I" } : Jvm.MethodName)) ∈ wsL_law := z_in3 (List.mem_of_getElem? (i := 172) rfl) rfl
theorem zk_X2_81 : z_KT RX2 81 mX8_has 2 := ⟨zk0_X8_has, ⟨RX8, List.mem_of_getElem? (i := 13) rfl⟩, zt_2_183⟩
theorem zt_1_115 : (Jvm.Cond.methodLink "TorchPlate$Reader" (3 : Nat) ({ cls := "java/lang/Object", name := "<init>", desc := "()V" } : Jvm.MethodName)) ∈ wsL_law := z_in1 (List.mem_of_getElem? (i := 115) rfl) rfl
theorem zt_2_139 : (Jvm.Cond.methodLink "TorchPlate$Reader" (40 : Nat) ({ cls := "TorchPlate$Plate", name := "wipe", desc := "()V" } : Jvm.MethodName)) ∈ wsL_law := z_in2 (List.mem_of_getElem? (i := 139) rfl) rfl
theorem zt_2_140 : (Jvm.Cond.instanceMethod ({ cls := "TorchPlate$Plate", name := "wipe", desc := "()V" } : Jvm.MethodName)) ∈ wsL_law := z_in2 (List.mem_of_getElem? (i := 140) rfl) rfl
theorem zt_2_141 : (Jvm.Cond.selects "TorchPlate$Plate" ({ cls := "TorchPlate$Plate", name := "wipe", desc := "()V" } : Jvm.MethodName) ({ cls := "TorchPlate$Plate", name := "wipe", desc := "()V" } : Jvm.MethodName)) ∈ wsL_law := z_in2 (List.mem_of_getElem? (i := 141) rfl) rfl
theorem zk_X3_40 : z_KV RX3 40 mX1_wipe 0 := ⟨zk0_X1_wipe, zt_2_139, zt_2_140, zt_2_141⟩
theorem zt_2_144 : (Jvm.Cond.methodLink "TorchPlate$Reader" (45 : Nat) ({ cls := "TorchPlate$Reader", name := "readToken", desc := "([II)V" } : Jvm.MethodName)) ∈ wsL_law := z_in2 (List.mem_of_getElem? (i := 144) rfl) rfl
theorem zt_2_146 : (Jvm.Cond.instanceMethod ({ cls := "TorchPlate$Reader", name := "readToken", desc := "([II)V" } : Jvm.MethodName)) ∈ wsL_law := z_in2 (List.mem_of_getElem? (i := 146) rfl) rfl
theorem zt_S_0 : Cond.selects "TorchPlate$Reader" ⟨"TorchPlate$Reader", "readToken", "([II)V"⟩ ⟨"TorchPlate$Reader", "readToken", "([II)V"⟩ ∈ wsL_law := z_inS (List.mem_of_getElem? (i := 0) rfl) rfl
theorem zk_X3_45 : z_KV RX3 45 mX3_readToken 2 := ⟨zk0_X3_readToken, zt_2_144, zt_2_146, zt_S_0⟩
theorem zt_2_158 : (Jvm.Cond.methodLink "TorchPlate$Reader" (49 : Nat) ({ cls := "TorchPlate$Reader", name := "takesToken", desc := "(LTorchPlate$Plate;)Z" } : Jvm.MethodName)) ∈ wsL_law := z_in2 (List.mem_of_getElem? (i := 158) rfl) rfl
theorem zt_2_160 : (Jvm.Cond.instanceMethod ({ cls := "TorchPlate$Reader", name := "takesToken", desc := "(LTorchPlate$Plate;)Z" } : Jvm.MethodName)) ∈ wsL_law := z_in2 (List.mem_of_getElem? (i := 160) rfl) rfl
theorem zt_S_2 : Cond.selects "TorchPlate$Reader" ⟨"TorchPlate$Reader", "takesToken", "(LTorchPlate$Plate;)Z"⟩ ⟨"TorchPlate$Reader", "takesToken", "(LTorchPlate$Plate;)Z"⟩ ∈ wsL_law := z_inS (List.mem_of_getElem? (i := 2) rfl) rfl
theorem zk_X3_49 : z_KV RX3 49 mX3_takesToken 1 := ⟨zk0_X3_takesToken, zt_2_158, zt_2_160, zt_S_2⟩
theorem zt_2_210 : (Jvm.Cond.methodLink "TorchPlate$Reader" (53 : Nat) ({ cls := "TorchPlate$Plate", name := "settle", desc := "()V" } : Jvm.MethodName)) ∈ wsL_law := z_in2 (List.mem_of_getElem? (i := 210) rfl) rfl
theorem zt_2_211 : (Jvm.Cond.instanceMethod ({ cls := "TorchPlate$Plate", name := "settle", desc := "()V" } : Jvm.MethodName)) ∈ wsL_law := z_in2 (List.mem_of_getElem? (i := 211) rfl) rfl
theorem zt_2_212 : (Jvm.Cond.selects "TorchPlate$Plate" ({ cls := "TorchPlate$Plate", name := "settle", desc := "()V" } : Jvm.MethodName) ({ cls := "TorchPlate$Plate", name := "settle", desc := "()V" } : Jvm.MethodName)) ∈ wsL_law := z_in2 (List.mem_of_getElem? (i := 212) rfl) rfl
theorem zk_X3_53 : z_KV RX3 53 mX1_settle 0 := ⟨zk0_X1_settle, zt_2_210, zt_2_211, zt_2_212⟩
theorem zt_2_148 : (Jvm.Cond.methodLink "TorchPlate$Reader" (56 : Nat) ({ cls := "java/lang/Math", name := "min", desc := "(II)I" } : Jvm.MethodName)) ∈ wsL_law := z_in2 (List.mem_of_getElem? (i := 148) rfl) rfl
theorem zt_2_151 : (Jvm.Cond.methodLink "TorchPlate$Reader" (62 : Nat) ({ cls := "TorchPlate$Reader", name := "isDigit", desc := "(I)Z" } : Jvm.MethodName)) ∈ wsL_law := z_in2 (List.mem_of_getElem? (i := 151) rfl) rfl
theorem zt_2_152 : (Jvm.Cond.static ({ cls := "TorchPlate$Reader", name := "isDigit", desc := "(I)Z" } : Jvm.MethodName)) ∈ wsL_law := z_in2 (List.mem_of_getElem? (i := 152) rfl) rfl
theorem zk_X3_62 : z_KS RX3 62 mX3_isDigit 1 := ⟨zk0_X3_isDigit, zt_2_151, zt_2_152⟩
theorem zt_2_154 : (Jvm.Cond.methodLink "TorchPlate$Reader" (66 : Nat) ({ cls := "TorchPlate$Reader", name := "readNumber", desc := "([II)V" } : Jvm.MethodName)) ∈ wsL_law := z_in2 (List.mem_of_getElem? (i := 154) rfl) rfl
theorem zt_2_156 : (Jvm.Cond.instanceMethod ({ cls := "TorchPlate$Reader", name := "readNumber", desc := "([II)V" } : Jvm.MethodName)) ∈ wsL_law := z_in2 (List.mem_of_getElem? (i := 156) rfl) rfl
theorem zt_S_1 : Cond.selects "TorchPlate$Reader" ⟨"TorchPlate$Reader", "readNumber", "([II)V"⟩ ⟨"TorchPlate$Reader", "readNumber", "([II)V"⟩ ∈ wsL_law := z_inS (List.mem_of_getElem? (i := 1) rfl) rfl
theorem zk_X3_66 : z_KV RX3 66 mX3_readNumber 2 := ⟨zk0_X3_readNumber, zt_2_154, zt_2_156, zt_S_1⟩
theorem zt_2_162 : (Jvm.Cond.methodLink "TorchPlate$Reader" (69 : Nat) ({ cls := "TorchPlate$Reader", name := "beginsItem", desc := "(LTorchPlate$Plate;)Z" } : Jvm.MethodName)) ∈ wsL_law := z_in2 (List.mem_of_getElem? (i := 162) rfl) rfl
theorem zt_2_164 : (Jvm.Cond.instanceMethod ({ cls := "TorchPlate$Reader", name := "beginsItem", desc := "(LTorchPlate$Plate;)Z" } : Jvm.MethodName)) ∈ wsL_law := z_in2 (List.mem_of_getElem? (i := 164) rfl) rfl
theorem zt_S_3 : Cond.selects "TorchPlate$Reader" ⟨"TorchPlate$Reader", "beginsItem", "(LTorchPlate$Plate;)Z"⟩ ⟨"TorchPlate$Reader", "beginsItem", "(LTorchPlate$Plate;)Z"⟩ ∈ wsL_law := z_inS (List.mem_of_getElem? (i := 3) rfl) rfl
theorem zk_X3_69 : z_KV RX3 69 mX3_beginsItem 1 := ⟨zk0_X3_beginsItem, zt_2_162, zt_2_164, zt_S_3⟩
theorem zt_2_166 : (Jvm.Cond.methodLink "TorchPlate$Reader" (72 : Nat) ({ cls := "TorchPlate$Reader", name := "endsItem", desc := "(LTorchPlate$Plate;)Z" } : Jvm.MethodName)) ∈ wsL_law := z_in2 (List.mem_of_getElem? (i := 166) rfl) rfl
theorem zt_2_168 : (Jvm.Cond.instanceMethod ({ cls := "TorchPlate$Reader", name := "endsItem", desc := "(LTorchPlate$Plate;)Z" } : Jvm.MethodName)) ∈ wsL_law := z_in2 (List.mem_of_getElem? (i := 168) rfl) rfl
theorem zt_S_4 : Cond.selects "TorchPlate$Reader" ⟨"TorchPlate$Reader", "endsItem", "(LTorchPlate$Plate;)Z"⟩ ⟨"TorchPlate$Reader", "endsItem", "(LTorchPlate$Plate;)Z"⟩ ∈ wsL_law := z_inS (List.mem_of_getElem? (i := 4) rfl) rfl
theorem zk_X3_72 : z_KV RX3 72 mX3_endsItem 1 := ⟨zk0_X3_endsItem, zt_2_166, zt_2_168, zt_S_4⟩
theorem zt_2_185 : (Jvm.Cond.methodLink "TorchPlate$Reader" (75 : Nat) ({ cls := "TorchPlate$Reader", name := "takesNumber", desc := "(LTorchPlate$Plate;)Z" } : Jvm.MethodName)) ∈ wsL_law := z_in2 (List.mem_of_getElem? (i := 185) rfl) rfl
theorem zt_2_187 : (Jvm.Cond.instanceMethod ({ cls := "TorchPlate$Reader", name := "takesNumber", desc := "(LTorchPlate$Plate;)Z" } : Jvm.MethodName)) ∈ wsL_law := z_in2 (List.mem_of_getElem? (i := 187) rfl) rfl
theorem zt_S_6 : Cond.selects "TorchPlate$Reader" ⟨"TorchPlate$Reader", "takesNumber", "(LTorchPlate$Plate;)Z"⟩ ⟨"TorchPlate$Reader", "takesNumber", "(LTorchPlate$Plate;)Z"⟩ ∈ wsL_law := z_inS (List.mem_of_getElem? (i := 6) rfl) rfl
theorem zk_X3_75 : z_KV RX3 75 mX3_takesNumber 1 := ⟨zk0_X3_takesNumber, zt_2_185, zt_2_187, zt_S_6⟩
theorem zt_2_189 : (Jvm.Cond.methodLink "TorchPlate$Reader" (84 : Nat) ({ cls := "TorchPlate$Reader", name := "takesHeat", desc := "(LTorchPlate$Plate;)Z" } : Jvm.MethodName)) ∈ wsL_law := z_in2 (List.mem_of_getElem? (i := 189) rfl) rfl
theorem zt_2_191 : (Jvm.Cond.instanceMethod ({ cls := "TorchPlate$Reader", name := "takesHeat", desc := "(LTorchPlate$Plate;)Z" } : Jvm.MethodName)) ∈ wsL_law := z_in2 (List.mem_of_getElem? (i := 191) rfl) rfl
theorem zt_S_7 : Cond.selects "TorchPlate$Reader" ⟨"TorchPlate$Reader", "takesHeat", "(LTorchPlate$Plate;)Z"⟩ ⟨"TorchPlate$Reader", "takesHeat", "(LTorchPlate$Plate;)Z"⟩ ∈ wsL_law := z_inS (List.mem_of_getElem? (i := 7) rfl) rfl
theorem zk_X3_84 : z_KV RX3 84 mX3_takesHeat 1 := ⟨zk0_X3_takesHeat, zt_2_189, zt_2_191, zt_S_7⟩
theorem zt_2_193 : (Jvm.Cond.methodLink "TorchPlate$Reader" (87 : Nat) ({ cls := "TorchPlate$Reader", name := "takesPlace", desc := "(LTorchPlate$Plate;)Z" } : Jvm.MethodName)) ∈ wsL_law := z_in2 (List.mem_of_getElem? (i := 193) rfl) rfl
theorem zt_2_195 : (Jvm.Cond.instanceMethod ({ cls := "TorchPlate$Reader", name := "takesPlace", desc := "(LTorchPlate$Plate;)Z" } : Jvm.MethodName)) ∈ wsL_law := z_in2 (List.mem_of_getElem? (i := 195) rfl) rfl
theorem zt_S_8 : Cond.selects "TorchPlate$Reader" ⟨"TorchPlate$Reader", "takesPlace", "(LTorchPlate$Plate;)Z"⟩ ⟨"TorchPlate$Reader", "takesPlace", "(LTorchPlate$Plate;)Z"⟩ ∈ wsL_law := z_inS (List.mem_of_getElem? (i := 8) rfl) rfl
theorem zk_X3_87 : z_KV RX3 87 mX3_takesPlace 1 := ⟨zk0_X3_takesPlace, zt_2_193, zt_2_195, zt_S_8⟩
theorem zt_2_201 : (Jvm.Cond.methodLink "TorchPlate$Reader" (90 : Nat) ({ cls := "TorchPlate$Reader", name := "takesRingCorner", desc := "(LTorchPlate$Plate;)Z" } : Jvm.MethodName)) ∈ wsL_law := z_in2 (List.mem_of_getElem? (i := 201) rfl) rfl
theorem zt_2_203 : (Jvm.Cond.instanceMethod ({ cls := "TorchPlate$Reader", name := "takesRingCorner", desc := "(LTorchPlate$Plate;)Z" } : Jvm.MethodName)) ∈ wsL_law := z_in2 (List.mem_of_getElem? (i := 203) rfl) rfl
theorem zt_S_9 : Cond.selects "TorchPlate$Reader" ⟨"TorchPlate$Reader", "takesRingCorner", "(LTorchPlate$Plate;)Z"⟩ ⟨"TorchPlate$Reader", "takesRingCorner", "(LTorchPlate$Plate;)Z"⟩ ∈ wsL_law := z_inS (List.mem_of_getElem? (i := 9) rfl) rfl
theorem zk_X3_90 : z_KV RX3 90 mX3_takesRingCorner 1 := ⟨zk0_X3_takesRingCorner, zt_2_201, zt_2_203, zt_S_9⟩
theorem zt_2_206 : (Jvm.Cond.methodLink "TorchPlate$Reader" (93 : Nat) ({ cls := "TorchPlate$Reader", name := "takesSeamCorner", desc := "(LTorchPlate$Plate;)Z" } : Jvm.MethodName)) ∈ wsL_law := z_in2 (List.mem_of_getElem? (i := 206) rfl) rfl
theorem zt_2_208 : (Jvm.Cond.instanceMethod ({ cls := "TorchPlate$Reader", name := "takesSeamCorner", desc := "(LTorchPlate$Plate;)Z" } : Jvm.MethodName)) ∈ wsL_law := z_in2 (List.mem_of_getElem? (i := 208) rfl) rfl
theorem zt_S_10 : Cond.selects "TorchPlate$Reader" ⟨"TorchPlate$Reader", "takesSeamCorner", "(LTorchPlate$Plate;)Z"⟩ ⟨"TorchPlate$Reader", "takesSeamCorner", "(LTorchPlate$Plate;)Z"⟩ ∈ wsL_law := z_inS (List.mem_of_getElem? (i := 10) rfl) rfl
theorem zk_X3_93 : z_KV RX3 93 mX3_takesSeamCorner 1 := ⟨zk0_X3_takesSeamCorner, zt_2_206, zt_2_208, zt_S_10⟩
theorem zt_2_197 : (Jvm.Cond.methodLink "TorchPlate$Reader" (99 : Nat) ({ cls := "TorchPlate$Plate", name := "addCorner", desc := "(II)Z" } : Jvm.MethodName)) ∈ wsL_law := z_in2 (List.mem_of_getElem? (i := 197) rfl) rfl
theorem zt_2_198 : (Jvm.Cond.instanceMethod ({ cls := "TorchPlate$Plate", name := "addCorner", desc := "(II)Z" } : Jvm.MethodName)) ∈ wsL_law := z_in2 (List.mem_of_getElem? (i := 198) rfl) rfl
theorem zt_2_199 : (Jvm.Cond.selects "TorchPlate$Plate" ({ cls := "TorchPlate$Plate", name := "addCorner", desc := "(II)Z" } : Jvm.MethodName) ({ cls := "TorchPlate$Plate", name := "addCorner", desc := "(II)Z" } : Jvm.MethodName)) ∈ wsL_law := z_in2 (List.mem_of_getElem? (i := 199) rfl) rfl
theorem zk_X3_99 : z_KV RX3 99 mX1_addCorner 2 := ⟨zk0_X1_addCorner, zt_2_197, zt_2_198, zt_2_199⟩
theorem zt_2_205 : (Jvm.Cond.methodLink "TorchPlate$Reader" (103 : Nat) ({ cls := "TorchPlate$Plate", name := "hasCorner", desc := "(I)Z" } : Jvm.MethodName)) ∈ wsL_law := z_in2 (List.mem_of_getElem? (i := 205) rfl) rfl
theorem zk_X3_103 : z_KV RX3 103 mX1_hasCorner 1 := ⟨zk0_X1_hasCorner, zt_2_205, zt_2_179, zt_2_180⟩
theorem zt_2_174 : (Jvm.Cond.methodLink "TorchPlate$Reader" (110 : Nat) ({ cls := "TorchPlate$Plate", name := "join", desc := "(II)Z" } : Jvm.MethodName)) ∈ wsL_law := z_in2 (List.mem_of_getElem? (i := 174) rfl) rfl
theorem zt_2_175 : (Jvm.Cond.instanceMethod ({ cls := "TorchPlate$Plate", name := "join", desc := "(II)Z" } : Jvm.MethodName)) ∈ wsL_law := z_in2 (List.mem_of_getElem? (i := 175) rfl) rfl
theorem zt_2_176 : (Jvm.Cond.selects "TorchPlate$Plate" ({ cls := "TorchPlate$Plate", name := "join", desc := "(II)Z" } : Jvm.MethodName) ({ cls := "TorchPlate$Plate", name := "join", desc := "(II)Z" } : Jvm.MethodName)) ∈ wsL_law := z_in2 (List.mem_of_getElem? (i := 176) rfl) rfl
theorem zk_X3_110 : z_KV RX3 110 mX1_join 2 := ⟨zk0_X1_join, zt_2_174, zt_2_175, zt_2_176⟩
theorem zt_2_170 : (Jvm.Cond.methodLink "TorchPlate$Reader" (113 : Nat) ({ cls := "TorchPlate$Reader", name := "endsRing", desc := "(LTorchPlate$Plate;)Z" } : Jvm.MethodName)) ∈ wsL_law := z_in2 (List.mem_of_getElem? (i := 170) rfl) rfl
theorem zt_2_172 : (Jvm.Cond.instanceMethod ({ cls := "TorchPlate$Reader", name := "endsRing", desc := "(LTorchPlate$Plate;)Z" } : Jvm.MethodName)) ∈ wsL_law := z_in2 (List.mem_of_getElem? (i := 172) rfl) rfl
theorem zt_S_5 : Cond.selects "TorchPlate$Reader" ⟨"TorchPlate$Reader", "endsRing", "(LTorchPlate$Plate;)Z"⟩ ⟨"TorchPlate$Reader", "endsRing", "(LTorchPlate$Plate;)Z"⟩ ∈ wsL_law := z_inS (List.mem_of_getElem? (i := 5) rfl) rfl
theorem zk_X3_113 : z_KV RX3 113 mX3_endsRing 1 := ⟨zk0_X3_endsRing, zt_2_170, zt_2_172, zt_S_5⟩
theorem zt_1_197 : (Jvm.Cond.methodLink "TorchPlate$Survey" (3 : Nat) ({ cls := "java/lang/Object", name := "<init>", desc := "()V" } : Jvm.MethodName)) ∈ wsL_law := z_in1 (List.mem_of_getElem? (i := 197) rfl) rfl
theorem zt_1_201 : (Jvm.Cond.instanceMethod ({ cls := "TorchPlate$Web", name := "<init>", desc := "()V" } : Jvm.MethodName)) ∈ wsL_law := z_in1 (List.mem_of_getElem? (i := 201) rfl) rfl
theorem zk_X4_49 : z_KJ RX4 49 mX6_init 0 := ⟨zk0_X6_init, ⟨RX8, List.mem_of_getElem? (i := 5) rfl⟩, zt_1_201, rfl, rfl⟩
theorem zt_3_48 : (Jvm.Cond.methodLink "TorchPlate$Survey" (54 : Nat) ({ cls := "TorchPlate$Survey", name := "findPieces", desc := "(LTorchPlate$Plate;LTorchPlate$Plight;)V" } : Jvm.MethodName)) ∈ wsL_law := z_in3 (List.mem_of_getElem? (i := 48) rfl) rfl
theorem zt_3_50 : (Jvm.Cond.instanceMethod ({ cls := "TorchPlate$Survey", name := "findPieces", desc := "(LTorchPlate$Plate;LTorchPlate$Plight;)V" } : Jvm.MethodName)) ∈ wsL_law := z_in3 (List.mem_of_getElem? (i := 50) rfl) rfl
theorem zt_S_21 : Cond.selects "TorchPlate$Survey" ⟨"TorchPlate$Survey", "findPieces", "(LTorchPlate$Plate;LTorchPlate$Plight;)V"⟩ ⟨"TorchPlate$Survey", "findPieces", "(LTorchPlate$Plate;LTorchPlate$Plight;)V"⟩ ∈ wsL_law := z_inS (List.mem_of_getElem? (i := 21) rfl) rfl
theorem zk_X4_54 : z_KV RX4 54 mX4_findPieces 2 := ⟨zk0_X4_findPieces, zt_3_48, zt_3_50, zt_S_21⟩
theorem zt_3_79 : (Jvm.Cond.methodLink "TorchPlate$Survey" (58 : Nat) ({ cls := "java/util/Arrays", name := "fill", desc := "([II)V" } : Jvm.MethodName)) ∈ wsL_law := z_in3 (List.mem_of_getElem? (i := 79) rfl) rfl
theorem zk_X4_58 : z_KS RX4 58 mJ7_fill_53178 2 := ⟨zk0_J7_fill_53178, zt_3_79, zt_2_84⟩
theorem zt_3_80 : (Jvm.Cond.methodLink "TorchPlate$Survey" (64 : Nat) ({ cls := "TorchPlate$Survey", name := "leastPairs", desc := "(LTorchPlate$Plate;II)I" } : Jvm.MethodName)) ∈ wsL_law := z_in3 (List.mem_of_getElem? (i := 80) rfl) rfl
theorem zt_3_81 : (Jvm.Cond.static ({ cls := "TorchPlate$Survey", name := "leastPairs", desc := "(LTorchPlate$Plate;II)I" } : Jvm.MethodName)) ∈ wsL_law := z_in3 (List.mem_of_getElem? (i := 81) rfl) rfl
theorem zk_X4_64 : z_KS RX4 64 mX4_leastPairs 3 := ⟨zk0_X4_leastPairs, zt_3_80, zt_3_81⟩
theorem zt_3_96 : (Jvm.Cond.methodLink "TorchPlate$Survey" (68 : Nat) ({ cls := "TorchPlate$Survey", name := "pairUp", desc := "(LTorchPlate$Plate;II)V" } : Jvm.MethodName)) ∈ wsL_law := z_in3 (List.mem_of_getElem? (i := 96) rfl) rfl
theorem zt_3_98 : (Jvm.Cond.instanceMethod ({ cls := "TorchPlate$Survey", name := "pairUp", desc := "(LTorchPlate$Plate;II)V" } : Jvm.MethodName)) ∈ wsL_law := z_in3 (List.mem_of_getElem? (i := 98) rfl) rfl
theorem zt_S_23 : Cond.selects "TorchPlate$Survey" ⟨"TorchPlate$Survey", "pairUp", "(LTorchPlate$Plate;II)V"⟩ ⟨"TorchPlate$Survey", "pairUp", "(LTorchPlate$Plate;II)V"⟩ ∈ wsL_law := z_inS (List.mem_of_getElem? (i := 23) rfl) rfl
theorem zk_X4_68 : z_KV RX4 68 mX4_pairUp 3 := ⟨zk0_X4_pairUp, zt_3_96, zt_3_98, zt_S_23⟩
theorem zt_3_100 : (Jvm.Cond.methodLink "TorchPlate$Survey" (72 : Nat) ({ cls := "TorchPlate$Survey", name := "piecesAhead", desc := "(LTorchPlate$Plate;I)I" } : Jvm.MethodName)) ∈ wsL_law := z_in3 (List.mem_of_getElem? (i := 100) rfl) rfl
theorem zt_3_102 : (Jvm.Cond.instanceMethod ({ cls := "TorchPlate$Survey", name := "piecesAhead", desc := "(LTorchPlate$Plate;I)I" } : Jvm.MethodName)) ∈ wsL_law := z_in3 (List.mem_of_getElem? (i := 102) rfl) rfl
theorem zt_S_24 : Cond.selects "TorchPlate$Survey" ⟨"TorchPlate$Survey", "piecesAhead", "(LTorchPlate$Plate;I)I"⟩ ⟨"TorchPlate$Survey", "piecesAhead", "(LTorchPlate$Plate;I)I"⟩ ∈ wsL_law := z_inS (List.mem_of_getElem? (i := 24) rfl) rfl
theorem zk_X4_72 : z_KV RX4 72 mX4_piecesAhead 2 := ⟨zk0_X4_piecesAhead, zt_3_100, zt_3_102, zt_S_24⟩
theorem zt_3_111 : (Jvm.Cond.methodLink "TorchPlate$Survey" (81 : Nat) ({ cls := "TorchPlate$Survey", name := "findTour", desc := "(LTorchPlate$Plate;I)V" } : Jvm.MethodName)) ∈ wsL_law := z_in3 (List.mem_of_getElem? (i := 111) rfl) rfl
theorem zt_3_113 : (Jvm.Cond.instanceMethod ({ cls := "TorchPlate$Survey", name := "findTour", desc := "(LTorchPlate$Plate;I)V" } : Jvm.MethodName)) ∈ wsL_law := z_in3 (List.mem_of_getElem? (i := 113) rfl) rfl
theorem zt_S_26 : Cond.selects "TorchPlate$Survey" ⟨"TorchPlate$Survey", "findTour", "(LTorchPlate$Plate;I)V"⟩ ⟨"TorchPlate$Survey", "findTour", "(LTorchPlate$Plate;I)V"⟩ ∈ wsL_law := z_inS (List.mem_of_getElem? (i := 26) rfl) rfl
theorem zk_X4_81 : z_KV RX4 81 mX4_findTour 2 := ⟨zk0_X4_findTour, zt_3_111, zt_3_113, zt_S_26⟩
theorem zt_3_194 : (Jvm.Cond.methodLink "TorchPlate$Survey" (85 : Nat) ({ cls := "TorchPlate$Survey", name := "hasPiece", desc := "(I)Z" } : Jvm.MethodName)) ∈ wsL_law := z_in3 (List.mem_of_getElem? (i := 194) rfl) rfl
theorem zt_3_195 : (Jvm.Cond.instanceMethod ({ cls := "TorchPlate$Survey", name := "hasPiece", desc := "(I)Z" } : Jvm.MethodName)) ∈ wsL_law := z_in3 (List.mem_of_getElem? (i := 195) rfl) rfl
theorem zt_3_196 : (Jvm.Cond.selects "TorchPlate$Survey" ({ cls := "TorchPlate$Survey", name := "hasPiece", desc := "(I)Z" } : Jvm.MethodName) ({ cls := "TorchPlate$Survey", name := "hasPiece", desc := "(I)Z" } : Jvm.MethodName)) ∈ wsL_law := z_in3 (List.mem_of_getElem? (i := 196) rfl) rfl
theorem zk_X4_85 : z_KV RX4 85 mX4_hasPiece 1 := ⟨zk0_X4_hasPiece, zt_3_194, zt_3_195, zt_3_196⟩
theorem zt_3_73 : (Jvm.Cond.methodLink "TorchPlate$Survey" (89 : Nat) ({ cls := "java/lang/Integer", name := "bitCount", desc := "(I)I" } : Jvm.MethodName)) ∈ wsL_law := z_in3 (List.mem_of_getElem? (i := 73) rfl) rfl
theorem zt_3_74 : (Jvm.Cond.static ({ cls := "java/lang/Integer", name := "bitCount", desc := "(I)I" } : Jvm.MethodName)) ∈ wsL_law := z_in3 (List.mem_of_getElem? (i := 74) rfl) rfl
theorem zk_X4_89 : z_KS RX4 89 mJ6_bitCount_0f7a4 1 := ⟨zk0_J6_bitCount_0f7a4, zt_3_73, zt_3_74⟩
theorem zk_X4_95 : z_KT RX4 95 mX8_has 2 := ⟨zk0_X8_has, ⟨RX8, List.mem_of_getElem? (i := 12) rfl⟩, zt_2_183⟩
theorem zt_3_52 : (Jvm.Cond.methodLink "TorchPlate$Survey" (102 : Nat) ({ cls := "TorchPlate$Web", name := "lay", desc := "(LTorchPlate$Plate;I)V" } : Jvm.MethodName)) ∈ wsL_law := z_in3 (List.mem_of_getElem? (i := 52) rfl) rfl
theorem zt_3_53 : (Jvm.Cond.instanceMethod ({ cls := "TorchPlate$Web", name := "lay", desc := "(LTorchPlate$Plate;I)V" } : Jvm.MethodName)) ∈ wsL_law := z_in3 (List.mem_of_getElem? (i := 53) rfl) rfl
theorem zt_3_54 : (Jvm.Cond.selects "TorchPlate$Web" ({ cls := "TorchPlate$Web", name := "lay", desc := "(LTorchPlate$Plate;I)V" } : Jvm.MethodName) ({ cls := "TorchPlate$Web", name := "lay", desc := "(LTorchPlate$Plate;I)V" } : Jvm.MethodName)) ∈ wsL_law := z_in3 (List.mem_of_getElem? (i := 54) rfl) rfl
theorem zk_X4_102 : z_KV RX4 102 mX6_lay 2 := ⟨zk0_X6_lay, zt_3_52, zt_3_53, zt_3_54⟩
theorem zt_3_62 : (Jvm.Cond.methodLink "TorchPlate$Survey" (110 : Nat) ({ cls := "TorchPlate$Web", name := "reach", desc := "(I)I" } : Jvm.MethodName)) ∈ wsL_law := z_in3 (List.mem_of_getElem? (i := 62) rfl) rfl
theorem zt_3_63 : (Jvm.Cond.instanceMethod ({ cls := "TorchPlate$Web", name := "reach", desc := "(I)I" } : Jvm.MethodName)) ∈ wsL_law := z_in3 (List.mem_of_getElem? (i := 63) rfl) rfl
theorem zt_3_64 : (Jvm.Cond.selects "TorchPlate$Web" ({ cls := "TorchPlate$Web", name := "reach", desc := "(I)I" } : Jvm.MethodName) ({ cls := "TorchPlate$Web", name := "reach", desc := "(I)I" } : Jvm.MethodName)) ∈ wsL_law := z_in3 (List.mem_of_getElem? (i := 64) rfl) rfl
theorem zk_X4_110 : z_KV RX4 110 mX6_reach 1 := ⟨zk0_X6_reach, zt_3_62, zt_3_63, zt_3_64⟩
theorem zt_3_66 : (Jvm.Cond.methodLink "TorchPlate$Survey" (113 : Nat) ({ cls := "TorchPlate$Survey", name := "cutsAmong", desc := "(LTorchPlate$Plate;II)I" } : Jvm.MethodName)) ∈ wsL_law := z_in3 (List.mem_of_getElem? (i := 66) rfl) rfl
theorem zt_3_67 : (Jvm.Cond.static ({ cls := "TorchPlate$Survey", name := "cutsAmong", desc := "(LTorchPlate$Plate;II)I" } : Jvm.MethodName)) ∈ wsL_law := z_in3 (List.mem_of_getElem? (i := 67) rfl) rfl
theorem zk_X4_113 : z_KS RX4 113 mX4_cutsAmong 3 := ⟨zk0_X4_cutsAmong, zt_3_66, zt_3_67⟩
theorem zt_3_69 : (Jvm.Cond.methodLink "TorchPlate$Survey" (116 : Nat) ({ cls := "TorchPlate$Survey", name := "oddAmong", desc := "(I)I" } : Jvm.MethodName)) ∈ wsL_law := z_in3 (List.mem_of_getElem? (i := 69) rfl) rfl
theorem zt_3_71 : (Jvm.Cond.instanceMethod ({ cls := "TorchPlate$Survey", name := "oddAmong", desc := "(I)I" } : Jvm.MethodName)) ∈ wsL_law := z_in3 (List.mem_of_getElem? (i := 71) rfl) rfl
theorem zt_S_22 : Cond.selects "TorchPlate$Survey" ⟨"TorchPlate$Survey", "oddAmong", "(I)I"⟩ ⟨"TorchPlate$Survey", "oddAmong", "(I)I"⟩ ∈ wsL_law := z_inS (List.mem_of_getElem? (i := 22) rfl) rfl
theorem zk_X4_116 : z_KV RX4 116 mX4_oddAmong 1 := ⟨zk0_X4_oddAmong, zt_3_69, zt_3_71, zt_S_22⟩
theorem zt_3_83 : (Jvm.Cond.methodLink "TorchPlate$Survey" (124 : Nat) ({ cls := "java/lang/Integer", name := "numberOfTrailingZeros", desc := "(I)I" } : Jvm.MethodName)) ∈ wsL_law := z_in3 (List.mem_of_getElem? (i := 83) rfl) rfl
theorem zt_3_84 : (Jvm.Cond.static ({ cls := "java/lang/Integer", name := "numberOfTrailingZeros", desc := "(I)I" } : Jvm.MethodName)) ∈ wsL_law := z_in3 (List.mem_of_getElem? (i := 84) rfl) rfl
theorem zk_X4_124 : z_KS RX4 124 mJ6_numberOfTrailingZeros_0f7a4 1 := ⟨zk0_J6_numberOfTrailingZeros_0f7a4, zt_3_83, zt_3_84⟩
theorem zt_3_88 : (Jvm.Cond.methodLink "TorchPlate$Survey" (128 : Nat) ({ cls := "TorchPlate$Plate", name := "way", desc := "(II)I" } : Jvm.MethodName)) ∈ wsL_law := z_in3 (List.mem_of_getElem? (i := 88) rfl) rfl
theorem zk_X4_128 : z_KV RX4 128 mX1_way 2 := ⟨zk0_X1_way, zt_3_88, zt_3_89, zt_3_90⟩
theorem zt_3_95 : (Jvm.Cond.methodLink "TorchPlate$Survey" (132 : Nat) ({ cls := "java/lang/Math", name := "min", desc := "(II)I" } : Jvm.MethodName)) ∈ wsL_law := z_in3 (List.mem_of_getElem? (i := 95) rfl) rfl
theorem zt_3_104 : (Jvm.Cond.methodLink "TorchPlate$Survey" (137 : Nat) ({ cls := "TorchPlate$Survey", name := "partsIn", desc := "(LTorchPlate$Plate;I)I" } : Jvm.MethodName)) ∈ wsL_law := z_in3 (List.mem_of_getElem? (i := 104) rfl) rfl
theorem zt_3_106 : (Jvm.Cond.instanceMethod ({ cls := "TorchPlate$Survey", name := "partsIn", desc := "(LTorchPlate$Plate;I)I" } : Jvm.MethodName)) ∈ wsL_law := z_in3 (List.mem_of_getElem? (i := 106) rfl) rfl
theorem zt_S_25 : Cond.selects "TorchPlate$Survey" ⟨"TorchPlate$Survey", "partsIn", "(LTorchPlate$Plate;I)I"⟩ ⟨"TorchPlate$Survey", "partsIn", "(LTorchPlate$Plate;I)I"⟩ ∈ wsL_law := z_inS (List.mem_of_getElem? (i := 25) rfl) rfl
theorem zk_X4_137 : z_KV RX4 137 mX4_partsIn 2 := ⟨zk0_X4_partsIn, zt_3_104, zt_3_106, zt_S_25⟩
theorem zt_3_108 : (Jvm.Cond.methodLink "TorchPlate$Survey" (140 : Nat) ({ cls := "TorchPlate$Survey", name := "isAnyWithin", desc := "(LTorchPlate$Plate;II)Z" } : Jvm.MethodName)) ∈ wsL_law := z_in3 (List.mem_of_getElem? (i := 108) rfl) rfl
theorem zt_3_109 : (Jvm.Cond.static ({ cls := "TorchPlate$Survey", name := "isAnyWithin", desc := "(LTorchPlate$Plate;II)Z" } : Jvm.MethodName)) ∈ wsL_law := z_in3 (List.mem_of_getElem? (i := 109) rfl) rfl
theorem zk_X4_140 : z_KS RX4 140 mX4_isAnyWithin 3 := ⟨zk0_X4_isAnyWithin, zt_3_108, zt_3_109⟩
theorem zt_3_115 : (Jvm.Cond.methodLink "TorchPlate$Survey" (153 : Nat) ({ cls := "TorchPlate$Survey", name := "leastTour", desc := "(LTorchPlate$Plate;LTorchPlate$Survey;III)I" } : Jvm.MethodName)) ∈ wsL_law := z_in3 (List.mem_of_getElem? (i := 115) rfl) rfl
theorem zt_3_116 : (Jvm.Cond.static ({ cls := "TorchPlate$Survey", name := "leastTour", desc := "(LTorchPlate$Plate;LTorchPlate$Survey;III)I" } : Jvm.MethodName)) ∈ wsL_law := z_in3 (List.mem_of_getElem? (i := 116) rfl) rfl
theorem zk_X4_153 : z_KS RX4 153 mX4_leastTour 5 := ⟨zk0_X4_leastTour, zt_3_115, zt_3_116⟩
theorem zt_3_118 : (Jvm.Cond.methodLink "TorchPlate$Survey" (157 : Nat) ({ cls := "TorchPlate$Survey", name := "mayBeNext", desc := "(II)Z" } : Jvm.MethodName)) ∈ wsL_law := z_in3 (List.mem_of_getElem? (i := 118) rfl) rfl
theorem zt_3_120 : (Jvm.Cond.instanceMethod ({ cls := "TorchPlate$Survey", name := "mayBeNext", desc := "(II)Z" } : Jvm.MethodName)) ∈ wsL_law := z_in3 (List.mem_of_getElem? (i := 120) rfl) rfl
theorem zt_S_27 : Cond.selects "TorchPlate$Survey" ⟨"TorchPlate$Survey", "mayBeNext", "(II)Z"⟩ ⟨"TorchPlate$Survey", "mayBeNext", "(II)Z"⟩ ∈ wsL_law := z_inS (List.mem_of_getElem? (i := 27) rfl) rfl
theorem zk_X4_157 : z_KV RX4 157 mX4_mayBeNext 2 := ⟨zk0_X4_mayBeNext, zt_3_118, zt_3_120, zt_S_27⟩
theorem zt_2_28 : (Jvm.Cond.methodLink "TorchPlate$Walk" (3 : Nat) ({ cls := "java/lang/Object", name := "<init>", desc := "()V" } : Jvm.MethodName)) ∈ wsL_law := z_in2 (List.mem_of_getElem? (i := 28) rfl) rfl
theorem zk_X5_27 : z_KJ RX5 27 mX6_init 0 := ⟨zk0_X6_init, ⟨RX8, List.mem_of_getElem? (i := 7) rfl⟩, zt_1_201, rfl, rfl⟩
theorem zt_3_202 : (Jvm.Cond.methodLink "TorchPlate$Walk" (32 : Nat) ({ cls := "TorchPlate$Survey", name := "hasPiece", desc := "(I)Z" } : Jvm.MethodName)) ∈ wsL_law := z_in3 (List.mem_of_getElem? (i := 202) rfl) rfl
theorem zk_X5_32 : z_KV RX5 32 mX4_hasPiece 1 := ⟨zk0_X4_hasPiece, zt_3_202, zt_3_195, zt_3_196⟩
theorem zt_3_203 : (Jvm.Cond.methodLink "TorchPlate$Walk" (38 : Nat) ({ cls := "TorchPlate$Walk", name := "layOut", desc := "(LTorchPlate$Plate;LTorchPlate$Survey;I)V" } : Jvm.MethodName)) ∈ wsL_law := z_in3 (List.mem_of_getElem? (i := 203) rfl) rfl
theorem zt_3_205 : (Jvm.Cond.instanceMethod ({ cls := "TorchPlate$Walk", name := "layOut", desc := "(LTorchPlate$Plate;LTorchPlate$Survey;I)V" } : Jvm.MethodName)) ∈ wsL_law := z_in3 (List.mem_of_getElem? (i := 205) rfl) rfl
theorem zt_S_32 : Cond.selects "TorchPlate$Walk" ⟨"TorchPlate$Walk", "layOut", "(LTorchPlate$Plate;LTorchPlate$Survey;I)V"⟩ ⟨"TorchPlate$Walk", "layOut", "(LTorchPlate$Plate;LTorchPlate$Survey;I)V"⟩ ∈ wsL_law := z_inS (List.mem_of_getElem? (i := 32) rfl) rfl
theorem zk_X5_38 : z_KV RX5 38 mX5_layOut 3 := ⟨zk0_X5_layOut, zt_3_203, zt_3_205, zt_S_32⟩
theorem zt_3_210 : (Jvm.Cond.methodLink "TorchPlate$Walk" (42 : Nat) ({ cls := "TorchPlate$Survey", name := "stepsOf", desc := "(I)I" } : Jvm.MethodName)) ∈ wsL_law := z_in3 (List.mem_of_getElem? (i := 210) rfl) rfl
theorem zt_3_211 : (Jvm.Cond.instanceMethod ({ cls := "TorchPlate$Survey", name := "stepsOf", desc := "(I)I" } : Jvm.MethodName)) ∈ wsL_law := z_in3 (List.mem_of_getElem? (i := 211) rfl) rfl
theorem zt_3_212 : (Jvm.Cond.selects "TorchPlate$Survey" ({ cls := "TorchPlate$Survey", name := "stepsOf", desc := "(I)I" } : Jvm.MethodName) ({ cls := "TorchPlate$Survey", name := "stepsOf", desc := "(I)I" } : Jvm.MethodName)) ∈ wsL_law := z_in3 (List.mem_of_getElem? (i := 212) rfl) rfl
theorem zk_X5_42 : z_KV RX5 42 mX4_stepsOf 1 := ⟨zk0_X4_stepsOf, zt_3_210, zt_3_211, zt_3_212⟩
theorem zt_3_214 : (Jvm.Cond.methodLink "TorchPlate$Walk" (46 : Nat) ({ cls := "java/lang/Math", name := "min", desc := "(II)I" } : Jvm.MethodName)) ∈ wsL_law := z_in3 (List.mem_of_getElem? (i := 214) rfl) rfl
theorem zt_3_215 : (Jvm.Cond.methodLink "TorchPlate$Walk" (52 : Nat) ({ cls := "TorchPlate$Survey", name := "startOf", desc := "(I)I" } : Jvm.MethodName)) ∈ wsL_law := z_in3 (List.mem_of_getElem? (i := 215) rfl) rfl
theorem zt_3_191 : (Jvm.Cond.instanceMethod ({ cls := "TorchPlate$Survey", name := "startOf", desc := "(I)I" } : Jvm.MethodName)) ∈ wsL_law := z_in3 (List.mem_of_getElem? (i := 191) rfl) rfl
theorem zt_3_192 : (Jvm.Cond.selects "TorchPlate$Survey" ({ cls := "TorchPlate$Survey", name := "startOf", desc := "(I)I" } : Jvm.MethodName) ({ cls := "TorchPlate$Survey", name := "startOf", desc := "(I)I" } : Jvm.MethodName)) ∈ wsL_law := z_in3 (List.mem_of_getElem? (i := 192) rfl) rfl
theorem zk_X5_52 : z_KV RX5 52 mX4_startOf 1 := ⟨zk0_X4_startOf, zt_3_215, zt_3_191, zt_3_192⟩
theorem zt_3_216 : (Jvm.Cond.methodLink "TorchPlate$Walk" (55 : Nat) ({ cls := "TorchPlate$Walk", name := "takesStep", desc := "(I)Z" } : Jvm.MethodName)) ∈ wsL_law := z_in3 (List.mem_of_getElem? (i := 216) rfl) rfl
theorem zt_3_218 : (Jvm.Cond.instanceMethod ({ cls := "TorchPlate$Walk", name := "takesStep", desc := "(I)Z" } : Jvm.MethodName)) ∈ wsL_law := z_in3 (List.mem_of_getElem? (i := 218) rfl) rfl
theorem zt_S_33 : Cond.selects "TorchPlate$Walk" ⟨"TorchPlate$Walk", "takesStep", "(I)Z"⟩ ⟨"TorchPlate$Walk", "takesStep", "(I)Z"⟩ ∈ wsL_law := z_inS (List.mem_of_getElem? (i := 33) rfl) rfl
theorem zk_X5_55 : z_KV RX5 55 mX5_takesStep 1 := ⟨zk0_X5_takesStep, zt_3_216, zt_3_218, zt_S_33⟩
theorem zt_3_207 : (Jvm.Cond.methodLink "TorchPlate$Walk" (61 : Nat) ({ cls := "TorchPlate$Web", name := "lay", desc := "(LTorchPlate$Plate;I)V" } : Jvm.MethodName)) ∈ wsL_law := z_in3 (List.mem_of_getElem? (i := 207) rfl) rfl
theorem zk_X5_61 : z_KV RX5 61 mX6_lay 2 := ⟨zk0_X6_lay, zt_3_207, zt_3_53, zt_3_54⟩
theorem zk_X5_68 : z_KT RX5 68 mX8_has 2 := ⟨zk0_X8_has, ⟨RX8, List.mem_of_getElem? (i := 14) rfl⟩, zt_2_183⟩
theorem zt_3_209 : (Jvm.Cond.methodLink "TorchPlate$Walk" (78 : Nat) ({ cls := "TorchPlate$Web", name := "turn", desc := "([III)V" } : Jvm.MethodName)) ∈ wsL_law := z_in3 (List.mem_of_getElem? (i := 209) rfl) rfl
theorem zt_3_59 : (Jvm.Cond.static ({ cls := "TorchPlate$Web", name := "turn", desc := "([III)V" } : Jvm.MethodName)) ∈ wsL_law := z_in3 (List.mem_of_getElem? (i := 59) rfl) rfl
theorem zk_X5_78 : z_KS RX5 78 mX6_turn 3 := ⟨zk0_X6_turn, zt_3_209, zt_3_59⟩
theorem zt_3_220 : (Jvm.Cond.methodLink "TorchPlate$Walk" (83 : Nat) ({ cls := "TorchPlate$Walk", name := "takesTie", desc := "([III)Z" } : Jvm.MethodName)) ∈ wsL_law := z_in3 (List.mem_of_getElem? (i := 220) rfl) rfl
theorem zt_3_222 : (Jvm.Cond.instanceMethod ({ cls := "TorchPlate$Walk", name := "takesTie", desc := "([III)Z" } : Jvm.MethodName)) ∈ wsL_law := z_in3 (List.mem_of_getElem? (i := 222) rfl) rfl
theorem zt_S_34 : Cond.selects "TorchPlate$Walk" ⟨"TorchPlate$Walk", "takesTie", "([III)Z"⟩ ⟨"TorchPlate$Walk", "takesTie", "([III)Z"⟩ ∈ wsL_law := z_inS (List.mem_of_getElem? (i := 34) rfl) rfl
theorem zk_X5_83 : z_KV RX5 83 mX5_takesTie 3 := ⟨zk0_X5_takesTie, zt_3_220, zt_3_222, zt_S_34⟩
theorem zt_3_229 : (Jvm.Cond.methodLink "TorchPlate$Walk" (87 : Nat) ({ cls := "TorchPlate$Walk", name := "notes", desc := "(II)Z" } : Jvm.MethodName)) ∈ wsL_law := z_in3 (List.mem_of_getElem? (i := 229) rfl) rfl
theorem zt_3_231 : (Jvm.Cond.instanceMethod ({ cls := "TorchPlate$Walk", name := "notes", desc := "(II)Z" } : Jvm.MethodName)) ∈ wsL_law := z_in3 (List.mem_of_getElem? (i := 231) rfl) rfl
theorem zt_S_35 : Cond.selects "TorchPlate$Walk" ⟨"TorchPlate$Walk", "notes", "(II)Z"⟩ ⟨"TorchPlate$Walk", "notes", "(II)Z"⟩ ∈ wsL_law := z_inS (List.mem_of_getElem? (i := 35) rfl) rfl
theorem zk_X5_87 : z_KV RX5 87 mX5_notes 2 := ⟨zk0_X5_notes, zt_3_229, zt_3_231, zt_S_35⟩
theorem zt_3_224 : (Jvm.Cond.methodLink "TorchPlate$Walk" (90 : Nat) ({ cls := "TorchPlate$Web", name := "allReachedFrom", desc := "(I)Z" } : Jvm.MethodName)) ∈ wsL_law := z_in3 (List.mem_of_getElem? (i := 224) rfl) rfl
theorem zt_3_225 : (Jvm.Cond.instanceMethod ({ cls := "TorchPlate$Web", name := "allReachedFrom", desc := "(I)Z" } : Jvm.MethodName)) ∈ wsL_law := z_in3 (List.mem_of_getElem? (i := 225) rfl) rfl
theorem zt_3_226 : (Jvm.Cond.selects "TorchPlate$Web" ({ cls := "TorchPlate$Web", name := "allReachedFrom", desc := "(I)Z" } : Jvm.MethodName) ({ cls := "TorchPlate$Web", name := "allReachedFrom", desc := "(I)Z" } : Jvm.MethodName)) ∈ wsL_law := z_in3 (List.mem_of_getElem? (i := 226) rfl) rfl
theorem zk_X5_90 : z_KV RX5 90 mX6_allReachedFrom 1 := ⟨zk0_X6_allReachedFrom, zt_3_224, zt_3_225, zt_3_226⟩
theorem zt_1_203 : (Jvm.Cond.methodLink "TorchPlate$Web" (3 : Nat) ({ cls := "java/lang/Object", name := "<init>", desc := "()V" } : Jvm.MethodName)) ∈ wsL_law := z_in1 (List.mem_of_getElem? (i := 203) rfl) rfl
theorem zt_3_56 : (Jvm.Cond.methodLink "TorchPlate$Web" (18 : Nat) ({ cls := "java/util/Arrays", name := "fill", desc := "([II)V" } : Jvm.MethodName)) ∈ wsL_law := z_in3 (List.mem_of_getElem? (i := 56) rfl) rfl
theorem zk_X6_18 : z_KS RX6 18 mJ7_fill_53178 2 := ⟨zk0_J7_fill_53178, zt_3_56, zt_2_84⟩
theorem zk_X6_29 : z_KT RX6 29 mX8_has 2 := ⟨zk0_X8_has, ⟨RX8, List.mem_of_getElem? (i := 11) rfl⟩, zt_2_183⟩
theorem zt_3_58 : (Jvm.Cond.methodLink "TorchPlate$Web" (39 : Nat) ({ cls := "TorchPlate$Web", name := "turn", desc := "([III)V" } : Jvm.MethodName)) ∈ wsL_law := z_in3 (List.mem_of_getElem? (i := 58) rfl) rfl
theorem zk_X6_39 : z_KS RX6 39 mX6_turn 3 := ⟨zk0_X6_turn, zt_3_58, zt_3_59⟩
theorem zt_3_228 : (Jvm.Cond.methodLink "TorchPlate$Web" (43 : Nat) ({ cls := "TorchPlate$Web", name := "reach", desc := "(I)I" } : Jvm.MethodName)) ∈ wsL_law := z_in3 (List.mem_of_getElem? (i := 228) rfl) rfl
theorem zk_X6_43 : z_KV RX6 43 mX6_reach 1 := ⟨zk0_X6_reach, zt_3_228, zt_3_63, zt_3_64⟩
theorem zt_2_56 : (Jvm.Cond.methodLink "TorchPlate$Witness" (3 : Nat) ({ cls := "java/lang/Object", name := "<init>", desc := "()V" } : Jvm.MethodName)) ∈ wsL_law := z_in2 (List.mem_of_getElem? (i := 56) rfl) rfl
theorem zk_X7_30 : z_KJ RX7 30 mX6_init 0 := ⟨zk0_X6_init, ⟨RX8, List.mem_of_getElem? (i := 9) rfl⟩, zt_1_201, rfl, rfl⟩
theorem zk_X7_40 : z_KT RX7 40 mX8_has 2 := ⟨zk0_X8_has, ⟨RX8, List.mem_of_getElem? (i := 15) rfl⟩, zt_2_183⟩
theorem zt_4_44 : (Jvm.Cond.methodLink "TorchPlate$Witness" (44 : Nat) ({ cls := "TorchPlate$Web", name := "lay", desc := "(LTorchPlate$Plate;I)V" } : Jvm.MethodName)) ∈ wsL_law := z_in4 (List.mem_of_getElem? (i := 44) rfl) rfl
theorem zk_X7_44 : z_KV RX7 44 mX6_lay 2 := ⟨zk0_X6_lay, zt_4_44, zt_3_53, zt_3_54⟩
theorem zt_4_45 : (Jvm.Cond.methodLink "TorchPlate$Witness" (48 : Nat) ({ cls := "TorchPlate$Witness", name := "allIsAsSeen", desc := "()Z" } : Jvm.MethodName)) ∈ wsL_law := z_in4 (List.mem_of_getElem? (i := 45) rfl) rfl
theorem zt_4_47 : (Jvm.Cond.instanceMethod ({ cls := "TorchPlate$Witness", name := "allIsAsSeen", desc := "()Z" } : Jvm.MethodName)) ∈ wsL_law := z_in4 (List.mem_of_getElem? (i := 47) rfl) rfl
theorem zt_S_36 : Cond.selects "TorchPlate$Witness" ⟨"TorchPlate$Witness", "allIsAsSeen", "()Z"⟩ ⟨"TorchPlate$Witness", "allIsAsSeen", "()Z"⟩ ∈ wsL_law := z_inS (List.mem_of_getElem? (i := 36) rfl) rfl
theorem zk_X7_48 : z_KV RX7 48 mX7_allIsAsSeen 0 := ⟨zk0_X7_allIsAsSeen, zt_4_45, zt_4_47, zt_S_36⟩
theorem zt_4_49 : (Jvm.Cond.methodLink "TorchPlate$Witness" (52 : Nat) ({ cls := "TorchPlate$Web", name := "reach", desc := "(I)I" } : Jvm.MethodName)) ∈ wsL_law := z_in4 (List.mem_of_getElem? (i := 49) rfl) rfl
theorem zk_X7_52 : z_KV RX7 52 mX6_reach 1 := ⟨zk0_X6_reach, zt_4_49, zt_3_63, zt_3_64⟩
theorem zt_4_58 : (Jvm.Cond.methodLink "TorchPlate$Witness" (56 : Nat) ({ cls := "TorchPlate$Witness", name := "suspects", desc := "(LTorchPlate$Plate;I)I" } : Jvm.MethodName)) ∈ wsL_law := z_in4 (List.mem_of_getElem? (i := 58) rfl) rfl
theorem zt_4_40 : (Jvm.Cond.instanceMethod ({ cls := "TorchPlate$Witness", name := "suspects", desc := "(LTorchPlate$Plate;I)I" } : Jvm.MethodName)) ∈ wsL_law := z_in4 (List.mem_of_getElem? (i := 40) rfl) rfl
theorem zt_4_41 : (Jvm.Cond.selects "TorchPlate$Witness" ({ cls := "TorchPlate$Witness", name := "suspects", desc := "(LTorchPlate$Plate;I)I" } : Jvm.MethodName) ({ cls := "TorchPlate$Witness", name := "suspects", desc := "(LTorchPlate$Plate;I)I" } : Jvm.MethodName)) ∈ wsL_law := z_in4 (List.mem_of_getElem? (i := 41) rfl) rfl
theorem zk_X7_56 : z_KV RX7 56 mX7_suspects 2 := ⟨zk0_X7_suspects, zt_4_58, zt_4_40, zt_4_41⟩
theorem zt_4_59 : (Jvm.Cond.methodLink "TorchPlate$Witness" (60 : Nat) ({ cls := "java/lang/Integer", name := "bitCount", desc := "(I)I" } : Jvm.MethodName)) ∈ wsL_law := z_in4 (List.mem_of_getElem? (i := 59) rfl) rfl
theorem zk_X7_60 : z_KS RX7 60 mJ6_bitCount_0f7a4 1 := ⟨zk0_J6_bitCount_0f7a4, zt_4_59, zt_3_74⟩
theorem zt_4_60 : (Jvm.Cond.methodLink "TorchPlate$Witness" (65 : Nat) ({ cls := "TorchPlate$Witness", name := "tallyPairs", desc := "(LTorchPlate$Plate;II)V" } : Jvm.MethodName)) ∈ wsL_law := z_in4 (List.mem_of_getElem? (i := 60) rfl) rfl
theorem zt_4_62 : (Jvm.Cond.instanceMethod ({ cls := "TorchPlate$Witness", name := "tallyPairs", desc := "(LTorchPlate$Plate;II)V" } : Jvm.MethodName)) ∈ wsL_law := z_in4 (List.mem_of_getElem? (i := 62) rfl) rfl
theorem zt_S_37 : Cond.selects "TorchPlate$Witness" ⟨"TorchPlate$Witness", "tallyPairs", "(LTorchPlate$Plate;II)V"⟩ ⟨"TorchPlate$Witness", "tallyPairs", "(LTorchPlate$Plate;II)V"⟩ ∈ wsL_law := z_inS (List.mem_of_getElem? (i := 37) rfl) rfl
theorem zk_X7_65 : z_KV RX7 65 mX7_tallyPairs 3 := ⟨zk0_X7_tallyPairs, zt_4_60, zt_4_62, zt_S_37⟩
theorem zt_4_70 : (Jvm.Cond.methodLink "TorchPlate$Witness" (73 : Nat) ({ cls := "java/lang/Math", name := "max", desc := "(II)I" } : Jvm.MethodName)) ∈ wsL_law := z_in4 (List.mem_of_getElem? (i := 70) rfl) rfl
theorem zt_4_64 : (Jvm.Cond.methodLink "TorchPlate$Witness" (79 : Nat) ({ cls := "java/util/Arrays", name := "fill", desc := "([II)V" } : Jvm.MethodName)) ∈ wsL_law := z_in4 (List.mem_of_getElem? (i := 64) rfl) rfl
theorem zk_X7_79 : z_KS RX7 79 mJ7_fill_53178 2 := ⟨zk0_J7_fill_53178, zt_4_64, zt_2_84⟩
theorem zt_4_65 : (Jvm.Cond.methodLink "TorchPlate$Witness" (85 : Nat) ({ cls := "TorchPlate$Witness", name := "countReached", desc := "(II)V" } : Jvm.MethodName)) ∈ wsL_law := z_in4 (List.mem_of_getElem? (i := 65) rfl) rfl
theorem zt_4_67 : (Jvm.Cond.instanceMethod ({ cls := "TorchPlate$Witness", name := "countReached", desc := "(II)V" } : Jvm.MethodName)) ∈ wsL_law := z_in4 (List.mem_of_getElem? (i := 67) rfl) rfl
theorem zt_S_38 : Cond.selects "TorchPlate$Witness" ⟨"TorchPlate$Witness", "countReached", "(II)V"⟩ ⟨"TorchPlate$Witness", "countReached", "(II)V"⟩ ∈ wsL_law := z_inS (List.mem_of_getElem? (i := 38) rfl) rfl
theorem zk_X7_85 : z_KV RX7 85 mX7_countReached 2 := ⟨zk0_X7_countReached, zt_4_65, zt_4_67, zt_S_38⟩
theorem zt_1_20 : (Jvm.Cond.methodLink "TorchPlate" (3 : Nat) ({ cls := "java/lang/Object", name := "<init>", desc := "()V" } : Jvm.MethodName)) ∈ wsL_law := z_in1 (List.mem_of_getElem? (i := 20) rfl) rfl
theorem zt_1_26 : (Jvm.Cond.instanceMethod ({ cls := "TorchPlate$Plate", name := "<init>", desc := "()V" } : Jvm.MethodName)) ∈ wsL_law := z_in1 (List.mem_of_getElem? (i := 26) rfl) rfl
theorem zk_X8_19 : z_KJ RX8 19 mX1_init 0 := ⟨zk0_X1_init, ⟨RX8, List.mem_of_getElem? (i := 0) rfl⟩, zt_1_26, rfl, rfl⟩
theorem zt_1_113 : (Jvm.Cond.instanceMethod ({ cls := "TorchPlate$Reader", name := "<init>", desc := "()V" } : Jvm.MethodName)) ∈ wsL_law := z_in1 (List.mem_of_getElem? (i := 113) rfl) rfl
theorem zk_X8_29 : z_KJ RX8 29 mX3_init 0 := ⟨zk0_X3_init, ⟨RX8, List.mem_of_getElem? (i := 1) rfl⟩, zt_1_113, rfl, rfl⟩
theorem zk_X8_36 : z_KJ RX8 36 mX2_init 0 := ⟨zk0_X2_init, ⟨RX8, List.mem_of_getElem? (i := 2) rfl⟩, zt_1_147, rfl, rfl⟩
theorem zt_1_174 : (Jvm.Cond.methodLink "TorchPlate" (43 : Nat) ({ cls := "TorchPlate$Past", name := "<init>", desc := "()V" } : Jvm.MethodName)) ∈ wsL_law := z_in1 (List.mem_of_getElem? (i := 174) rfl) rfl
theorem zt_1_175 : (Jvm.Cond.instanceMethod ({ cls := "TorchPlate$Past", name := "<init>", desc := "()V" } : Jvm.MethodName)) ∈ wsL_law := z_in1 (List.mem_of_getElem? (i := 175) rfl) rfl
theorem zk_X8_43 : z_KI RX8 43 mX0_init 0 := ⟨zk0_X0_init, zt_1_174, zt_1_175, rfl, rfl⟩
theorem zt_1_195 : (Jvm.Cond.instanceMethod ({ cls := "TorchPlate$Survey", name := "<init>", desc := "()V" } : Jvm.MethodName)) ∈ wsL_law := z_in1 (List.mem_of_getElem? (i := 195) rfl) rfl
theorem zk_X8_57 : z_KJ RX8 57 mX4_init 0 := ⟨zk0_X4_init, ⟨RX8, List.mem_of_getElem? (i := 4) rfl⟩, zt_1_195, rfl, rfl⟩
theorem zt_2_26 : (Jvm.Cond.instanceMethod ({ cls := "TorchPlate$Walk", name := "<init>", desc := "()V" } : Jvm.MethodName)) ∈ wsL_law := z_in2 (List.mem_of_getElem? (i := 26) rfl) rfl
theorem zk_X8_64 : z_KJ RX8 64 mX5_init 0 := ⟨zk0_X5_init, ⟨RX8, List.mem_of_getElem? (i := 6) rfl⟩, zt_2_26, rfl, rfl⟩
theorem zt_2_54 : (Jvm.Cond.instanceMethod ({ cls := "TorchPlate$Witness", name := "<init>", desc := "()V" } : Jvm.MethodName)) ∈ wsL_law := z_in2 (List.mem_of_getElem? (i := 54) rfl) rfl
theorem zk_X8_71 : z_KJ RX8 71 mX7_init 0 := ⟨zk0_X7_init, ⟨RX8, List.mem_of_getElem? (i := 8) rfl⟩, zt_2_54, rfl, rfl⟩
theorem zt_2_79 : (Jvm.Cond.methodLink "TorchPlate" (76 : Nat) ({ cls := "TorchPlate$Plight", name := "beginOn", desc := "(LTorchPlate$Plate;)V" } : Jvm.MethodName)) ∈ wsL_law := z_in2 (List.mem_of_getElem? (i := 79) rfl) rfl
theorem zt_2_80 : (Jvm.Cond.instanceMethod ({ cls := "TorchPlate$Plight", name := "beginOn", desc := "(LTorchPlate$Plate;)V" } : Jvm.MethodName)) ∈ wsL_law := z_in2 (List.mem_of_getElem? (i := 80) rfl) rfl
theorem zt_2_81 : (Jvm.Cond.selects "TorchPlate$Plight" ({ cls := "TorchPlate$Plight", name := "beginOn", desc := "(LTorchPlate$Plate;)V" } : Jvm.MethodName) ({ cls := "TorchPlate$Plight", name := "beginOn", desc := "(LTorchPlate$Plate;)V" } : Jvm.MethodName)) ∈ wsL_law := z_in2 (List.mem_of_getElem? (i := 81) rfl) rfl
theorem zk_X8_76 : z_KV RX8 76 mX2_beginOn 1 := ⟨zk0_X2_beginOn, zt_2_79, zt_2_80, zt_2_81⟩
theorem zt_2_135 : (Jvm.Cond.methodLink "TorchPlate" (80 : Nat) ({ cls := "TorchPlate$Reader", name := "read", desc := "([IILTorchPlate$Plate;)I" } : Jvm.MethodName)) ∈ wsL_law := z_in2 (List.mem_of_getElem? (i := 135) rfl) rfl
theorem zt_2_136 : (Jvm.Cond.instanceMethod ({ cls := "TorchPlate$Reader", name := "read", desc := "([IILTorchPlate$Plate;)I" } : Jvm.MethodName)) ∈ wsL_law := z_in2 (List.mem_of_getElem? (i := 136) rfl) rfl
theorem zt_2_137 : (Jvm.Cond.selects "TorchPlate$Reader" ({ cls := "TorchPlate$Reader", name := "read", desc := "([IILTorchPlate$Plate;)I" } : Jvm.MethodName) ({ cls := "TorchPlate$Reader", name := "read", desc := "([IILTorchPlate$Plate;)I" } : Jvm.MethodName)) ∈ wsL_law := z_in2 (List.mem_of_getElem? (i := 137) rfl) rfl
theorem zk_X8_80 : z_KV RX8 80 mX3_read 3 := ⟨zk0_X3_read, zt_2_135, zt_2_136, zt_2_137⟩
theorem zt_3_14 : (Jvm.Cond.methodLink "TorchPlate" (84 : Nat) ({ cls := "TorchPlate$Past", name := "lose", desc := "()V" } : Jvm.MethodName)) ∈ wsL_law := z_in3 (List.mem_of_getElem? (i := 14) rfl) rfl
theorem zt_3_15 : (Jvm.Cond.instanceMethod ({ cls := "TorchPlate$Past", name := "lose", desc := "()V" } : Jvm.MethodName)) ∈ wsL_law := z_in3 (List.mem_of_getElem? (i := 15) rfl) rfl
theorem zt_3_16 : (Jvm.Cond.selects "TorchPlate$Past" ({ cls := "TorchPlate$Past", name := "lose", desc := "()V" } : Jvm.MethodName) ({ cls := "TorchPlate$Past", name := "lose", desc := "()V" } : Jvm.MethodName)) ∈ wsL_law := z_in3 (List.mem_of_getElem? (i := 16) rfl) rfl
theorem zk_X8_84 : z_KV RX8 84 mX0_lose 0 := ⟨zk0_X0_lose, zt_3_14, zt_3_15, zt_3_16⟩
theorem zt_3_18 : (Jvm.Cond.methodLink "TorchPlate" (87 : Nat) ({ cls := "TorchPlate$Witness", name := "lose", desc := "()V" } : Jvm.MethodName)) ∈ wsL_law := z_in3 (List.mem_of_getElem? (i := 18) rfl) rfl
theorem zt_3_19 : (Jvm.Cond.instanceMethod ({ cls := "TorchPlate$Witness", name := "lose", desc := "()V" } : Jvm.MethodName)) ∈ wsL_law := z_in3 (List.mem_of_getElem? (i := 19) rfl) rfl
theorem zt_3_20 : (Jvm.Cond.selects "TorchPlate$Witness" ({ cls := "TorchPlate$Witness", name := "lose", desc := "()V" } : Jvm.MethodName) ({ cls := "TorchPlate$Witness", name := "lose", desc := "()V" } : Jvm.MethodName)) ∈ wsL_law := z_in3 (List.mem_of_getElem? (i := 20) rfl) rfl
theorem zk_X8_87 : z_KV RX8 87 mX7_lose 0 := ⟨zk0_X7_lose, zt_3_18, zt_3_19, zt_3_20⟩
theorem zt_3_22 : (Jvm.Cond.methodLink "TorchPlate" (88 : Nat) ({ cls := "TorchPlate", name := "outdate", desc := "()V" } : Jvm.MethodName)) ∈ wsL_law := z_in3 (List.mem_of_getElem? (i := 22) rfl) rfl
theorem zt_3_24 : (Jvm.Cond.instanceMethod ({ cls := "TorchPlate", name := "outdate", desc := "()V" } : Jvm.MethodName)) ∈ wsL_law := z_in3 (List.mem_of_getElem? (i := 24) rfl) rfl
theorem zt_S_19 : Cond.selects "TorchPlate" ⟨"TorchPlate", "outdate", "()V"⟩ ⟨"TorchPlate", "outdate", "()V"⟩ ∈ wsL_law := z_inS (List.mem_of_getElem? (i := 19) rfl) rfl
theorem zk_X8_88 : z_KV RX8 88 mX8_outdate 0 := ⟨zk0_X8_outdate, zt_3_22, zt_3_24, zt_S_19⟩
theorem zt_3_30 : (Jvm.Cond.methodLink "TorchPlate" (94 : Nat) ({ cls := "TorchPlate$Plate", name := "hasCorner", desc := "(I)Z" } : Jvm.MethodName)) ∈ wsL_law := z_in3 (List.mem_of_getElem? (i := 30) rfl) rfl
theorem zk_X8_94 : z_KV RX8 94 mX1_hasCorner 1 := ⟨zk0_X1_hasCorner, zt_3_30, zt_2_179, zt_2_180⟩
theorem zt_3_31 : (Jvm.Cond.methodLink "TorchPlate" (107 : Nat) ({ cls := "TorchPlate$Plate", name := "cutsAt", desc := "(II)I" } : Jvm.MethodName)) ∈ wsL_law := z_in3 (List.mem_of_getElem? (i := 31) rfl) rfl
theorem zt_3_32 : (Jvm.Cond.instanceMethod ({ cls := "TorchPlate$Plate", name := "cutsAt", desc := "(II)I" } : Jvm.MethodName)) ∈ wsL_law := z_in3 (List.mem_of_getElem? (i := 32) rfl) rfl
theorem zt_3_33 : (Jvm.Cond.selects "TorchPlate$Plate" ({ cls := "TorchPlate$Plate", name := "cutsAt", desc := "(II)I" } : Jvm.MethodName) ({ cls := "TorchPlate$Plate", name := "cutsAt", desc := "(II)I" } : Jvm.MethodName)) ∈ wsL_law := z_in3 (List.mem_of_getElem? (i := 33) rfl) rfl
theorem zk_X8_107 : z_KV RX8 107 mX1_cutsAt 2 := ⟨zk0_X1_cutsAt, zt_3_31, zt_3_32, zt_3_33⟩
theorem zt_3_39 : (Jvm.Cond.methodLink "TorchPlate" (123 : Nat) ({ cls := "TorchPlate", name := "has", desc := "(II)Z" } : Jvm.MethodName)) ∈ wsL_law := z_in3 (List.mem_of_getElem? (i := 39) rfl) rfl
theorem zk_X8_123 : z_KS RX8 123 mX8_has 2 := ⟨zk0_X8_has, zt_3_39, zt_2_183⟩
theorem zt_3_40 : (Jvm.Cond.methodLink "TorchPlate" (127 : Nat) ({ cls := "TorchPlate", name := "surveyed", desc := "()LTorchPlate$Survey;" } : Jvm.MethodName)) ∈ wsL_law := z_in3 (List.mem_of_getElem? (i := 40) rfl) rfl
theorem zt_3_42 : (Jvm.Cond.instanceMethod ({ cls := "TorchPlate", name := "surveyed", desc := "()LTorchPlate$Survey;" } : Jvm.MethodName)) ∈ wsL_law := z_in3 (List.mem_of_getElem? (i := 42) rfl) rfl
theorem zt_S_20 : Cond.selects "TorchPlate" ⟨"TorchPlate", "surveyed", "()LTorchPlate$Survey;"⟩ ⟨"TorchPlate", "surveyed", "()LTorchPlate$Survey;"⟩ ∈ wsL_law := z_inS (List.mem_of_getElem? (i := 20) rfl) rfl
theorem zk_X8_127 : z_KV RX8 127 mX8_surveyed 0 := ⟨zk0_X8_surveyed, zt_3_40, zt_3_42, zt_S_20⟩
theorem zt_3_122 : (Jvm.Cond.methodLink "TorchPlate" (131 : Nat) ({ cls := "TorchPlate$Survey", name := "pieceOf", desc := "(I)I" } : Jvm.MethodName)) ∈ wsL_law := z_in3 (List.mem_of_getElem? (i := 122) rfl) rfl
theorem zt_3_123 : (Jvm.Cond.instanceMethod ({ cls := "TorchPlate$Survey", name := "pieceOf", desc := "(I)I" } : Jvm.MethodName)) ∈ wsL_law := z_in3 (List.mem_of_getElem? (i := 123) rfl) rfl
theorem zt_3_124 : (Jvm.Cond.selects "TorchPlate$Survey" ({ cls := "TorchPlate$Survey", name := "pieceOf", desc := "(I)I" } : Jvm.MethodName) ({ cls := "TorchPlate$Survey", name := "pieceOf", desc := "(I)I" } : Jvm.MethodName)) ∈ wsL_law := z_in3 (List.mem_of_getElem? (i := 124) rfl) rfl
theorem zk_X8_131 : z_KV RX8 131 mX4_pieceOf 1 := ⟨zk0_X4_pieceOf, zt_3_122, zt_3_123, zt_3_124⟩
theorem zt_3_126 : (Jvm.Cond.methodLink "TorchPlate" (135 : Nat) ({ cls := "TorchPlate$Plate", name := "way", desc := "(II)I" } : Jvm.MethodName)) ∈ wsL_law := z_in3 (List.mem_of_getElem? (i := 126) rfl) rfl
theorem zk_X8_135 : z_KV RX8 135 mX1_way 2 := ⟨zk0_X1_way, zt_3_126, zt_3_89, zt_3_90⟩
theorem zt_3_131 : (Jvm.Cond.methodLink "TorchPlate" (147 : Nat) ({ cls := "java/lang/Integer", name := "bitCount", desc := "(I)I" } : Jvm.MethodName)) ∈ wsL_law := z_in3 (List.mem_of_getElem? (i := 131) rfl) rfl
theorem zk_X8_147 : z_KS RX8 147 mJ6_bitCount_0f7a4 1 := ⟨zk0_J6_bitCount_0f7a4, zt_3_131, zt_3_74⟩
theorem zt_3_136 : (Jvm.Cond.methodLink "TorchPlate" (158 : Nat) ({ cls := "TorchPlate", name := "burnTo", desc := "(I)Z" } : Jvm.MethodName)) ∈ wsL_law := z_in3 (List.mem_of_getElem? (i := 136) rfl) rfl
theorem zt_3_138 : (Jvm.Cond.instanceMethod ({ cls := "TorchPlate", name := "burnTo", desc := "(I)Z" } : Jvm.MethodName)) ∈ wsL_law := z_in3 (List.mem_of_getElem? (i := 138) rfl) rfl
theorem zt_S_28 : Cond.selects "TorchPlate" ⟨"TorchPlate", "burnTo", "(I)Z"⟩ ⟨"TorchPlate", "burnTo", "(I)Z"⟩ ∈ wsL_law := z_inS (List.mem_of_getElem? (i := 28) rfl) rfl
theorem zk_X8_158 : z_KV RX8 158 mX8_burnTo 1 := ⟨zk0_X8_burnTo, zt_3_136, zt_3_138, zt_S_28⟩
theorem zt_3_177 : (Jvm.Cond.methodLink "TorchPlate" (164 : Nat) ({ cls := "TorchPlate", name := "moveTo", desc := "(I)V" } : Jvm.MethodName)) ∈ wsL_law := z_in3 (List.mem_of_getElem? (i := 177) rfl) rfl
theorem zt_3_179 : (Jvm.Cond.instanceMethod ({ cls := "TorchPlate", name := "moveTo", desc := "(I)V" } : Jvm.MethodName)) ∈ wsL_law := z_in3 (List.mem_of_getElem? (i := 179) rfl) rfl
theorem zt_S_31 : Cond.selects "TorchPlate" ⟨"TorchPlate", "moveTo", "(I)V"⟩ ⟨"TorchPlate", "moveTo", "(I)V"⟩ ∈ wsL_law := z_inS (List.mem_of_getElem? (i := 31) rfl) rfl
theorem zk_X8_164 : z_KV RX8 164 mX8_moveTo 1 := ⟨zk0_X8_moveTo, zt_3_177, zt_3_179, zt_S_31⟩
theorem zt_3_190 : (Jvm.Cond.methodLink "TorchPlate" (175 : Nat) ({ cls := "TorchPlate$Survey", name := "startOf", desc := "(I)I" } : Jvm.MethodName)) ∈ wsL_law := z_in3 (List.mem_of_getElem? (i := 190) rfl) rfl
theorem zk_X8_175 : z_KV RX8 175 mX4_startOf 1 := ⟨zk0_X4_startOf, zt_3_190, zt_3_191, zt_3_192⟩
theorem zt_3_198 : (Jvm.Cond.methodLink "TorchPlate" (178 : Nat) ({ cls := "TorchPlate$Walk", name := "go", desc := "(LTorchPlate$Plate;LTorchPlate$Survey;I)V" } : Jvm.MethodName)) ∈ wsL_law := z_in3 (List.mem_of_getElem? (i := 198) rfl) rfl
theorem zt_3_199 : (Jvm.Cond.instanceMethod ({ cls := "TorchPlate$Walk", name := "go", desc := "(LTorchPlate$Plate;LTorchPlate$Survey;I)V" } : Jvm.MethodName)) ∈ wsL_law := z_in3 (List.mem_of_getElem? (i := 199) rfl) rfl
theorem zt_3_200 : (Jvm.Cond.selects "TorchPlate$Walk" ({ cls := "TorchPlate$Walk", name := "go", desc := "(LTorchPlate$Plate;LTorchPlate$Survey;I)V" } : Jvm.MethodName) ({ cls := "TorchPlate$Walk", name := "go", desc := "(LTorchPlate$Plate;LTorchPlate$Survey;I)V" } : Jvm.MethodName)) ∈ wsL_law := z_in3 (List.mem_of_getElem? (i := 200) rfl) rfl
theorem zk_X8_178 : z_KV RX8 178 mX5_go 3 := ⟨zk0_X5_go, zt_3_198, zt_3_199, zt_3_200⟩
theorem zt_3_237 : (Jvm.Cond.methodLink "TorchPlate" (185 : Nat) ({ cls := "TorchPlate$Past", name := "restore", desc := "(LTorchPlate$Plight;)Z" } : Jvm.MethodName)) ∈ wsL_law := z_in3 (List.mem_of_getElem? (i := 237) rfl) rfl
theorem zt_3_238 : (Jvm.Cond.instanceMethod ({ cls := "TorchPlate$Past", name := "restore", desc := "(LTorchPlate$Plight;)Z" } : Jvm.MethodName)) ∈ wsL_law := z_in3 (List.mem_of_getElem? (i := 238) rfl) rfl
theorem zt_3_239 : (Jvm.Cond.selects "TorchPlate$Past" ({ cls := "TorchPlate$Past", name := "restore", desc := "(LTorchPlate$Plight;)Z" } : Jvm.MethodName) ({ cls := "TorchPlate$Past", name := "restore", desc := "(LTorchPlate$Plight;)Z" } : Jvm.MethodName)) ∈ wsL_law := z_in3 (List.mem_of_getElem? (i := 239) rfl) rfl
theorem zk_X8_185 : z_KV RX8 185 mX0_restore 1 := ⟨zk0_X0_restore, zt_3_237, zt_3_238, zt_3_239⟩
theorem zt_4_5 : (Jvm.Cond.methodLink "TorchPlate" (192 : Nat) ({ cls := "TorchPlate$Survey", name := "hasPiece", desc := "(I)Z" } : Jvm.MethodName)) ∈ wsL_law := z_in4 (List.mem_of_getElem? (i := 5) rfl) rfl
theorem zk_X8_192 : z_KV RX8 192 mX4_hasPiece 1 := ⟨zk0_X4_hasPiece, zt_4_5, zt_3_195, zt_3_196⟩
theorem zt_4_6 : (Jvm.Cond.methodLink "TorchPlate" (203 : Nat) ({ cls := "TorchPlate$Survey", name := "stepsOf", desc := "(I)I" } : Jvm.MethodName)) ∈ wsL_law := z_in4 (List.mem_of_getElem? (i := 6) rfl) rfl
theorem zk_X8_203 : z_KV RX8 203 mX4_stepsOf 1 := ⟨zk0_X4_stepsOf, zt_4_6, zt_3_211, zt_3_212⟩
theorem zt_4_19 : (Jvm.Cond.methodLink "TorchPlate" (218 : Nat) ({ cls := "TorchPlate$Survey", name := "idle", desc := "()I" } : Jvm.MethodName)) ∈ wsL_law := z_in4 (List.mem_of_getElem? (i := 19) rfl) rfl
theorem zt_4_20 : (Jvm.Cond.instanceMethod ({ cls := "TorchPlate$Survey", name := "idle", desc := "()I" } : Jvm.MethodName)) ∈ wsL_law := z_in4 (List.mem_of_getElem? (i := 20) rfl) rfl
theorem zt_4_21 : (Jvm.Cond.selects "TorchPlate$Survey" ({ cls := "TorchPlate$Survey", name := "idle", desc := "()I" } : Jvm.MethodName) ({ cls := "TorchPlate$Survey", name := "idle", desc := "()I" } : Jvm.MethodName)) ∈ wsL_law := z_in4 (List.mem_of_getElem? (i := 21) rfl) rfl
theorem zk_X8_218 : z_KV RX8 218 mX4_idle 0 := ⟨zk0_X4_idle, zt_4_19, zt_4_20, zt_4_21⟩
theorem zt_4_27 : (Jvm.Cond.methodLink "TorchPlate" (222 : Nat) ({ cls := "TorchPlate$Witness", name := "add", desc := "(III)Z" } : Jvm.MethodName)) ∈ wsL_law := z_in4 (List.mem_of_getElem? (i := 27) rfl) rfl
theorem zt_4_28 : (Jvm.Cond.instanceMethod ({ cls := "TorchPlate$Witness", name := "add", desc := "(III)Z" } : Jvm.MethodName)) ∈ wsL_law := z_in4 (List.mem_of_getElem? (i := 28) rfl) rfl
theorem zt_4_29 : (Jvm.Cond.selects "TorchPlate$Witness" ({ cls := "TorchPlate$Witness", name := "add", desc := "(III)Z" } : Jvm.MethodName) ({ cls := "TorchPlate$Witness", name := "add", desc := "(III)Z" } : Jvm.MethodName)) ∈ wsL_law := z_in4 (List.mem_of_getElem? (i := 29) rfl) rfl
theorem zk_X8_222 : z_KV RX8 222 mX7_add 3 := ⟨zk0_X7_add, zt_4_27, zt_4_28, zt_4_29⟩
theorem zt_4_39 : (Jvm.Cond.methodLink "TorchPlate" (227 : Nat) ({ cls := "TorchPlate$Witness", name := "suspects", desc := "(LTorchPlate$Plate;I)I" } : Jvm.MethodName)) ∈ wsL_law := z_in4 (List.mem_of_getElem? (i := 39) rfl) rfl
theorem zk_X8_227 : z_KV RX8 227 mX7_suspects 2 := ⟨zk0_X7_suspects, zt_4_39, zt_4_40, zt_4_41⟩
theorem zt_4_54 : (Jvm.Cond.methodLink "TorchPlate" (231 : Nat) ({ cls := "TorchPlate$Witness", name := "bestQuestion", desc := "(LTorchPlate$Plate;I)I" } : Jvm.MethodName)) ∈ wsL_law := z_in4 (List.mem_of_getElem? (i := 54) rfl) rfl
theorem zt_4_55 : (Jvm.Cond.instanceMethod ({ cls := "TorchPlate$Witness", name := "bestQuestion", desc := "(LTorchPlate$Plate;I)I" } : Jvm.MethodName)) ∈ wsL_law := z_in4 (List.mem_of_getElem? (i := 55) rfl) rfl
theorem zt_4_56 : (Jvm.Cond.selects "TorchPlate$Witness" ({ cls := "TorchPlate$Witness", name := "bestQuestion", desc := "(LTorchPlate$Plate;I)I" } : Jvm.MethodName) ({ cls := "TorchPlate$Witness", name := "bestQuestion", desc := "(LTorchPlate$Plate;I)I" } : Jvm.MethodName)) ∈ wsL_law := z_in4 (List.mem_of_getElem? (i := 56) rfl) rfl
theorem zk_X8_231 : z_KV RX8 231 mX7_bestQuestion 2 := ⟨zk0_X7_bestQuestion, zt_4_54, zt_4_55, zt_4_56⟩
theorem zt_4_75 : (Jvm.Cond.methodLink "TorchPlate" (234 : Nat) ({ cls := "TorchPlate$Plight", name := "become", desc := "(LTorchPlate$Plight;)V" } : Jvm.MethodName)) ∈ wsL_law := z_in4 (List.mem_of_getElem? (i := 75) rfl) rfl
theorem zk_X8_234 : z_KV RX8 234 mX2_become 1 := ⟨zk0_X2_become, zt_4_75, zt_3_151, zt_3_152⟩
theorem zt_3_140 : (Jvm.Cond.methodLink "TorchPlate" (247 : Nat) ({ cls := "TorchPlate$Plate", name := "cutBetween", desc := "(II)I" } : Jvm.MethodName)) ∈ wsL_law := z_in3 (List.mem_of_getElem? (i := 140) rfl) rfl
theorem zk_X8_247 : z_KV RX8 247 mX1_cutBetween 2 := ⟨zk0_X1_cutBetween, zt_3_140, zt_2_227, zt_2_228⟩
theorem zt_3_141 : (Jvm.Cond.methodLink "TorchPlate" (250 : Nat) ({ cls := "TorchPlate$Plight", name := "mayLose", desc := "(ILTorchPlate$Plate;)Z" } : Jvm.MethodName)) ∈ wsL_law := z_in3 (List.mem_of_getElem? (i := 141) rfl) rfl
theorem zt_3_142 : (Jvm.Cond.instanceMethod ({ cls := "TorchPlate$Plight", name := "mayLose", desc := "(ILTorchPlate$Plate;)Z" } : Jvm.MethodName)) ∈ wsL_law := z_in3 (List.mem_of_getElem? (i := 142) rfl) rfl
theorem zt_3_143 : (Jvm.Cond.selects "TorchPlate$Plight" ({ cls := "TorchPlate$Plight", name := "mayLose", desc := "(ILTorchPlate$Plate;)Z" } : Jvm.MethodName) ({ cls := "TorchPlate$Plight", name := "mayLose", desc := "(ILTorchPlate$Plate;)Z" } : Jvm.MethodName)) ∈ wsL_law := z_in3 (List.mem_of_getElem? (i := 143) rfl) rfl
theorem zk_X8_250 : z_KV RX8 250 mX2_mayLose 2 := ⟨zk0_X2_mayLose, zt_3_141, zt_3_142, zt_3_143⟩
theorem zt_3_146 : (Jvm.Cond.methodLink "TorchPlate" (254 : Nat) ({ cls := "TorchPlate$Past", name := "remember", desc := "(LTorchPlate$Plight;)V" } : Jvm.MethodName)) ∈ wsL_law := z_in3 (List.mem_of_getElem? (i := 146) rfl) rfl
theorem zt_3_147 : (Jvm.Cond.instanceMethod ({ cls := "TorchPlate$Past", name := "remember", desc := "(LTorchPlate$Plight;)V" } : Jvm.MethodName)) ∈ wsL_law := z_in3 (List.mem_of_getElem? (i := 147) rfl) rfl
theorem zt_3_148 : (Jvm.Cond.selects "TorchPlate$Past" ({ cls := "TorchPlate$Past", name := "remember", desc := "(LTorchPlate$Plight;)V" } : Jvm.MethodName) ({ cls := "TorchPlate$Past", name := "remember", desc := "(LTorchPlate$Plight;)V" } : Jvm.MethodName)) ∈ wsL_law := z_in3 (List.mem_of_getElem? (i := 148) rfl) rfl
theorem zk_X8_254 : z_KV RX8 254 mX0_remember 1 := ⟨zk0_X0_remember, zt_3_146, zt_3_147, zt_3_148⟩
theorem zt_3_158 : (Jvm.Cond.methodLink "TorchPlate" (257 : Nat) ({ cls := "TorchPlate$Plight", name := "burn", desc := "(IILTorchPlate$Plate;)V" } : Jvm.MethodName)) ∈ wsL_law := z_in3 (List.mem_of_getElem? (i := 158) rfl) rfl
theorem zt_3_159 : (Jvm.Cond.instanceMethod ({ cls := "TorchPlate$Plight", name := "burn", desc := "(IILTorchPlate$Plate;)V" } : Jvm.MethodName)) ∈ wsL_law := z_in3 (List.mem_of_getElem? (i := 159) rfl) rfl
theorem zt_3_160 : (Jvm.Cond.selects "TorchPlate$Plight" ({ cls := "TorchPlate$Plight", name := "burn", desc := "(IILTorchPlate$Plate;)V" } : Jvm.MethodName) ({ cls := "TorchPlate$Plight", name := "burn", desc := "(IILTorchPlate$Plate;)V" } : Jvm.MethodName)) ∈ wsL_law := z_in3 (List.mem_of_getElem? (i := 160) rfl) rfl
theorem zk_X8_257 : z_KV RX8 257 mX2_burn 3 := ⟨zk0_X2_burn, zt_3_158, zt_3_159, zt_3_160⟩
theorem zt_3_181 : (Jvm.Cond.methodLink "TorchPlate" (261 : Nat) ({ cls := "TorchPlate$Plight", name := "move", desc := "(ILTorchPlate$Plate;)V" } : Jvm.MethodName)) ∈ wsL_law := z_in3 (List.mem_of_getElem? (i := 181) rfl) rfl
theorem zt_3_182 : (Jvm.Cond.instanceMethod ({ cls := "TorchPlate$Plight", name := "move", desc := "(ILTorchPlate$Plate;)V" } : Jvm.MethodName)) ∈ wsL_law := z_in3 (List.mem_of_getElem? (i := 182) rfl) rfl
theorem zt_3_183 : (Jvm.Cond.selects "TorchPlate$Plight" ({ cls := "TorchPlate$Plight", name := "move", desc := "(ILTorchPlate$Plate;)V" } : Jvm.MethodName) ({ cls := "TorchPlate$Plight", name := "move", desc := "(ILTorchPlate$Plate;)V" } : Jvm.MethodName)) ∈ wsL_law := z_in3 (List.mem_of_getElem? (i := 183) rfl) rfl
theorem zk_X8_261 : z_KV RX8 261 mX2_move 2 := ⟨zk0_X2_move, zt_3_181, zt_3_182, zt_3_183⟩
theorem zt_3_44 : (Jvm.Cond.methodLink "TorchPlate" (265 : Nat) ({ cls := "TorchPlate$Survey", name := "look", desc := "(LTorchPlate$Plate;LTorchPlate$Plight;)V" } : Jvm.MethodName)) ∈ wsL_law := z_in3 (List.mem_of_getElem? (i := 44) rfl) rfl
theorem zt_3_45 : (Jvm.Cond.instanceMethod ({ cls := "TorchPlate$Survey", name := "look", desc := "(LTorchPlate$Plate;LTorchPlate$Plight;)V" } : Jvm.MethodName)) ∈ wsL_law := z_in3 (List.mem_of_getElem? (i := 45) rfl) rfl
theorem zt_3_46 : (Jvm.Cond.selects "TorchPlate$Survey" ({ cls := "TorchPlate$Survey", name := "look", desc := "(LTorchPlate$Plate;LTorchPlate$Plight;)V" } : Jvm.MethodName) ({ cls := "TorchPlate$Survey", name := "look", desc := "(LTorchPlate$Plate;LTorchPlate$Plight;)V" } : Jvm.MethodName)) ∈ wsL_law := z_in3 (List.mem_of_getElem? (i := 46) rfl) rfl
theorem zk_X8_265 : z_KV RX8 265 mX4_look 2 := ⟨zk0_X4_look, zt_3_44, zt_3_45, zt_3_46⟩
theorem zt_4_89 : (Jvm.Cond.methodLink "TorchPlateModel" (1 : Nat) ({ cls := "java/lang/Object", name := "<init>", desc := "()V" } : Jvm.MethodName)) ∈ wsL_law := z_in4 (List.mem_of_getElem? (i := 89) rfl) rfl
theorem zt_4_90 : (Jvm.Cond.methodLink "TorchPlateModel" (74 : Nat) ({ cls := "TorchPlateModel", name := "begins", desc := "()V" } : Jvm.MethodName)) ∈ wsL_law := z_in4 (List.mem_of_getElem? (i := 90) rfl) rfl
theorem zt_4_92 : (Jvm.Cond.instanceMethod ({ cls := "TorchPlateModel", name := "begins", desc := "()V" } : Jvm.MethodName)) ∈ wsL_law := z_in4 (List.mem_of_getElem? (i := 92) rfl) rfl
theorem zt_S_39 : Cond.selects "TorchPlateModel" ⟨"TorchPlateModel", "begins", "()V"⟩ ⟨"TorchPlateModel", "begins", "()V"⟩ ∈ wsL_law := z_inS (List.mem_of_getElem? (i := 39) rfl) rfl
theorem zk_X9_74 : z_KV RX9 74 mX9_begins 0 := ⟨zk0_X9_begins, zt_4_90, zt_4_92, zt_S_39⟩
theorem zt_4_94 : (Jvm.Cond.methodLink "TorchPlateModel" (77 : Nat) ({ cls := "TorchPlateModel", name := "settles", desc := "()V" } : Jvm.MethodName)) ∈ wsL_law := z_in4 (List.mem_of_getElem? (i := 94) rfl) rfl
theorem zt_4_96 : (Jvm.Cond.instanceMethod ({ cls := "TorchPlateModel", name := "settles", desc := "()V" } : Jvm.MethodName)) ∈ wsL_law := z_in4 (List.mem_of_getElem? (i := 96) rfl) rfl
theorem zt_S_40 : Cond.selects "TorchPlateModel" ⟨"TorchPlateModel", "settles", "()V"⟩ ⟨"TorchPlateModel", "settles", "()V"⟩ ∈ wsL_law := z_inS (List.mem_of_getElem? (i := 40) rfl) rfl
theorem zk_X9_77 : z_KV RX9 77 mX9_settles 0 := ⟨zk0_X9_settles, zt_4_94, zt_4_96, zt_S_40⟩
theorem zt_5_37 : (Jvm.Cond.methodLink "TorchPlateModel" (84 : Nat) ({ cls := "TorchPlateModel", name := "has", desc := "(II)Z" } : Jvm.MethodName)) ∈ wsL_law := z_in5 (List.mem_of_getElem? (i := 37) rfl) rfl
theorem zt_5_38 : (Jvm.Cond.static ({ cls := "TorchPlateModel", name := "has", desc := "(II)Z" } : Jvm.MethodName)) ∈ wsL_law := z_in5 (List.mem_of_getElem? (i := 38) rfl) rfl
theorem zk_X9_84 : z_KS RX9 84 mX9_has 2 := ⟨zk0_X9_has, zt_5_37, zt_5_38⟩
theorem zt_4_110 : (Jvm.Cond.methodLink "TorchPlateModel" (88 : Nat) ({ cls := "TorchPlateModel", name := "in", desc := "(III)Z" } : Jvm.MethodName)) ∈ wsL_law := z_in4 (List.mem_of_getElem? (i := 110) rfl) rfl
theorem zt_4_111 : (Jvm.Cond.static ({ cls := "TorchPlateModel", name := "in", desc := "(III)Z" } : Jvm.MethodName)) ∈ wsL_law := z_in4 (List.mem_of_getElem? (i := 111) rfl) rfl
theorem zk_X9_88 : z_KS RX9 88 mX9_in 3 := ⟨zk0_X9_in, zt_4_110, zt_4_111⟩
theorem zt_4_237 : (Jvm.Cond.methodLink "TorchPlateModel" (98 : Nat) ({ cls := "TorchPlateModel", name := "letterAt", desc := "(I)I" } : Jvm.MethodName)) ∈ wsL_law := z_in4 (List.mem_of_getElem? (i := 237) rfl) rfl
theorem zt_4_239 : (Jvm.Cond.instanceMethod ({ cls := "TorchPlateModel", name := "letterAt", desc := "(I)I" } : Jvm.MethodName)) ∈ wsL_law := z_in4 (List.mem_of_getElem? (i := 239) rfl) rfl
theorem zt_S_46 : Cond.selects "TorchPlateModel" ⟨"TorchPlateModel", "letterAt", "(I)I"⟩ ⟨"TorchPlateModel", "letterAt", "(I)I"⟩ ∈ wsL_law := z_inS (List.mem_of_getElem? (i := 46) rfl) rfl
theorem zk_X9_98 : z_KV RX9 98 mX9_letterAt 1 := ⟨zk0_X9_letterAt, zt_4_237, zt_4_239, zt_S_46⟩
theorem zt_5_1 : (Jvm.Cond.methodLink "TorchPlateModel" (114 : Nat) ({ cls := "TorchPlateModel", name := "isWell", desc := "()Z" } : Jvm.MethodName)) ∈ wsL_law := z_in5 (List.mem_of_getElem? (i := 1) rfl) rfl
theorem zt_5_3 : (Jvm.Cond.instanceMethod ({ cls := "TorchPlateModel", name := "isWell", desc := "()Z" } : Jvm.MethodName)) ∈ wsL_law := z_in5 (List.mem_of_getElem? (i := 3) rfl) rfl
theorem zt_S_47 : Cond.selects "TorchPlateModel" ⟨"TorchPlateModel", "isWell", "()Z"⟩ ⟨"TorchPlateModel", "isWell", "()Z"⟩ ∈ wsL_law := z_inS (List.mem_of_getElem? (i := 47) rfl) rfl
theorem zk_X9_114 : z_KV RX9 114 mX9_isWell 0 := ⟨zk0_X9_isWell, zt_5_1, zt_5_3, zt_S_47⟩
theorem zt_4_233 : (Jvm.Cond.methodLink "TorchPlateModel" (118 : Nat) ({ cls := "TorchPlateModel", name := "advances", desc := "()V" } : Jvm.MethodName)) ∈ wsL_law := z_in4 (List.mem_of_getElem? (i := 233) rfl) rfl
theorem zt_4_235 : (Jvm.Cond.instanceMethod ({ cls := "TorchPlateModel", name := "advances", desc := "()V" } : Jvm.MethodName)) ∈ wsL_law := z_in4 (List.mem_of_getElem? (i := 235) rfl) rfl
theorem zt_S_45 : Cond.selects "TorchPlateModel" ⟨"TorchPlateModel", "advances", "()V"⟩ ⟨"TorchPlateModel", "advances", "()V"⟩ ∈ wsL_law := z_inS (List.mem_of_getElem? (i := 45) rfl) rfl
theorem zk_X9_118 : z_KV RX9 118 mX9_advances 0 := ⟨zk0_X9_advances, zt_4_233, zt_4_235, zt_S_45⟩
theorem zt_5_44 : (Jvm.Cond.methodLink "TorchPlateModel" (125 : Nat) ({ cls := "TorchPlateModel", name := "cutOf", desc := "([III)I" } : Jvm.MethodName)) ∈ wsL_law := z_in5 (List.mem_of_getElem? (i := 44) rfl) rfl
theorem zt_5_45 : (Jvm.Cond.static ({ cls := "TorchPlateModel", name := "cutOf", desc := "([III)I" } : Jvm.MethodName)) ∈ wsL_law := z_in5 (List.mem_of_getElem? (i := 45) rfl) rfl
theorem zk_X9_125 : z_KS RX9 125 mX9_cutOf 3 := ⟨zk0_X9_cutOf, zt_5_44, zt_5_45⟩
theorem zt_5_17 : (Jvm.Cond.methodLink "TorchPlateModel" (129 : Nat) ({ cls := "TorchPlateModel", name := "isNumber", desc := "(II)Z" } : Jvm.MethodName)) ∈ wsL_law := z_in5 (List.mem_of_getElem? (i := 17) rfl) rfl
theorem zt_5_19 : (Jvm.Cond.instanceMethod ({ cls := "TorchPlateModel", name := "isNumber", desc := "(II)Z" } : Jvm.MethodName)) ∈ wsL_law := z_in5 (List.mem_of_getElem? (i := 19) rfl) rfl
theorem zt_S_51 : Cond.selects "TorchPlateModel" ⟨"TorchPlateModel", "isNumber", "(II)Z"⟩ ⟨"TorchPlateModel", "isNumber", "(II)Z"⟩ ∈ wsL_law := z_inS (List.mem_of_getElem? (i := 51) rfl) rfl
theorem zk_X9_129 : z_KV RX9 129 mX9_isNumber 2 := ⟨zk0_X9_isNumber, zt_5_17, zt_5_19, zt_S_51⟩
theorem zt_5_9 : (Jvm.Cond.methodLink "TorchPlateModel" (132 : Nat) ({ cls := "TorchPlateModel", name := "takes", desc := "(Z)I" } : Jvm.MethodName)) ∈ wsL_law := z_in5 (List.mem_of_getElem? (i := 9) rfl) rfl
theorem zt_5_11 : (Jvm.Cond.instanceMethod ({ cls := "TorchPlateModel", name := "takes", desc := "(Z)I" } : Jvm.MethodName)) ∈ wsL_law := z_in5 (List.mem_of_getElem? (i := 11) rfl) rfl
theorem zt_S_49 : Cond.selects "TorchPlateModel" ⟨"TorchPlateModel", "takes", "(Z)I"⟩ ⟨"TorchPlateModel", "takes", "(Z)I"⟩ ∈ wsL_law := z_inS (List.mem_of_getElem? (i := 49) rfl) rfl
theorem zk_X9_132 : z_KV RX9 132 mX9_takes 1 := ⟨zk0_X9_takes, zt_5_9, zt_5_11, zt_S_49⟩
theorem zt_5_25 : (Jvm.Cond.methodLink "TorchPlateModel" (136 : Nat) ({ cls := "TorchPlateModel", name := "isFreeAt", desc := "(II)Z" } : Jvm.MethodName)) ∈ wsL_law := z_in5 (List.mem_of_getElem? (i := 25) rfl) rfl
theorem zt_5_27 : (Jvm.Cond.instanceMethod ({ cls := "TorchPlateModel", name := "isFreeAt", desc := "(II)Z" } : Jvm.MethodName)) ∈ wsL_law := z_in5 (List.mem_of_getElem? (i := 27) rfl) rfl
theorem zt_S_53 : Cond.selects "TorchPlateModel" ⟨"TorchPlateModel", "isFreeAt", "(II)Z"⟩ ⟨"TorchPlateModel", "isFreeAt", "(II)Z"⟩ ∈ wsL_law := z_inS (List.mem_of_getElem? (i := 53) rfl) rfl
theorem zk_X9_136 : z_KV RX9 136 mX9_isFreeAt 2 := ⟨zk0_X9_isFreeAt, zt_5_25, zt_5_27, zt_S_53⟩
theorem zt_5_33 : (Jvm.Cond.methodLink "TorchPlateModel" (139 : Nat) ({ cls := "TorchPlateModel", name := "isCorner", desc := "()Z" } : Jvm.MethodName)) ∈ wsL_law := z_in5 (List.mem_of_getElem? (i := 33) rfl) rfl
theorem zt_5_35 : (Jvm.Cond.instanceMethod ({ cls := "TorchPlateModel", name := "isCorner", desc := "()Z" } : Jvm.MethodName)) ∈ wsL_law := z_in5 (List.mem_of_getElem? (i := 35) rfl) rfl
theorem zt_S_55 : Cond.selects "TorchPlateModel" ⟨"TorchPlateModel", "isCorner", "()Z"⟩ ⟨"TorchPlateModel", "isCorner", "()Z"⟩ ∈ wsL_law := z_inS (List.mem_of_getElem? (i := 55) rfl) rfl
theorem zk_X9_139 : z_KV RX9 139 mX9_isCorner 0 := ⟨zk0_X9_isCorner, zt_5_33, zt_5_35, zt_S_55⟩
theorem zt_5_40 : (Jvm.Cond.methodLink "TorchPlateModel" (142 : Nat) ({ cls := "TorchPlateModel", name := "hasRoom", desc := "(II)Z" } : Jvm.MethodName)) ∈ wsL_law := z_in5 (List.mem_of_getElem? (i := 40) rfl) rfl
theorem zt_5_42 : (Jvm.Cond.instanceMethod ({ cls := "TorchPlateModel", name := "hasRoom", desc := "(II)Z" } : Jvm.MethodName)) ∈ wsL_law := z_in5 (List.mem_of_getElem? (i := 42) rfl) rfl
theorem zt_S_56 : Cond.selects "TorchPlateModel" ⟨"TorchPlateModel", "hasRoom", "(II)Z"⟩ ⟨"TorchPlateModel", "hasRoom", "(II)Z"⟩ ∈ wsL_law := z_inS (List.mem_of_getElem? (i := 56) rfl) rfl
theorem zk_X9_142 : z_KV RX9 142 mX9_hasRoom 2 := ⟨zk0_X9_hasRoom, zt_5_40, zt_5_42, zt_S_56⟩
theorem zt_5_47 : (Jvm.Cond.methodLink "TorchPlateModel" (145 : Nat) ({ cls := "TorchPlateModel", name := "cuts", desc := "(II)V" } : Jvm.MethodName)) ∈ wsL_law := z_in5 (List.mem_of_getElem? (i := 47) rfl) rfl
theorem zt_5_49 : (Jvm.Cond.instanceMethod ({ cls := "TorchPlateModel", name := "cuts", desc := "(II)V" } : Jvm.MethodName)) ∈ wsL_law := z_in5 (List.mem_of_getElem? (i := 49) rfl) rfl
theorem zt_S_57 : Cond.selects "TorchPlateModel" ⟨"TorchPlateModel", "cuts", "(II)V"⟩ ⟨"TorchPlateModel", "cuts", "(II)V"⟩ ∈ wsL_law := z_inS (List.mem_of_getElem? (i := 57) rfl) rfl
theorem zk_X9_145 : z_KV RX9 145 mX9_cuts 2 := ⟨zk0_X9_cuts, zt_5_47, zt_5_49, zt_S_57⟩
theorem zt_5_21 : (Jvm.Cond.methodLink "TorchPlateModel" (149 : Nat) ({ cls := "TorchPlateModel", name := "readsCorner", desc := "()V" } : Jvm.MethodName)) ∈ wsL_law := z_in5 (List.mem_of_getElem? (i := 21) rfl) rfl
theorem zt_5_23 : (Jvm.Cond.instanceMethod ({ cls := "TorchPlateModel", name := "readsCorner", desc := "()V" } : Jvm.MethodName)) ∈ wsL_law := z_in5 (List.mem_of_getElem? (i := 23) rfl) rfl
theorem zt_S_52 : Cond.selects "TorchPlateModel" ⟨"TorchPlateModel", "readsCorner", "()V"⟩ ⟨"TorchPlateModel", "readsCorner", "()V"⟩ ∈ wsL_law := z_inS (List.mem_of_getElem? (i := 52) rfl) rfl
theorem zk_X9_149 : z_KV RX9 149 mX9_readsCorner 0 := ⟨zk0_X9_readsCorner, zt_5_21, zt_5_23, zt_S_52⟩
theorem zt_5_29 : (Jvm.Cond.methodLink "TorchPlateModel" (152 : Nat) ({ cls := "TorchPlateModel", name := "readsPart", desc := "()V" } : Jvm.MethodName)) ∈ wsL_law := z_in5 (List.mem_of_getElem? (i := 29) rfl) rfl
theorem zt_5_31 : (Jvm.Cond.instanceMethod ({ cls := "TorchPlateModel", name := "readsPart", desc := "()V" } : Jvm.MethodName)) ∈ wsL_law := z_in5 (List.mem_of_getElem? (i := 31) rfl) rfl
theorem zt_S_54 : Cond.selects "TorchPlateModel" ⟨"TorchPlateModel", "readsPart", "()V"⟩ ⟨"TorchPlateModel", "readsPart", "()V"⟩ ∈ wsL_law := z_inS (List.mem_of_getElem? (i := 54) rfl) rfl
theorem zk_X9_152 : z_KV RX9 152 mX9_readsPart 0 := ⟨zk0_X9_readsPart, zt_5_29, zt_5_31, zt_S_54⟩
theorem zt_5_51 : (Jvm.Cond.methodLink "TorchPlateModel" (155 : Nat) ({ cls := "TorchPlateModel", name := "readsSeam", desc := "()V" } : Jvm.MethodName)) ∈ wsL_law := z_in5 (List.mem_of_getElem? (i := 51) rfl) rfl
theorem zt_5_53 : (Jvm.Cond.instanceMethod ({ cls := "TorchPlateModel", name := "readsSeam", desc := "()V" } : Jvm.MethodName)) ∈ wsL_law := z_in5 (List.mem_of_getElem? (i := 53) rfl) rfl
theorem zt_S_58 : Cond.selects "TorchPlateModel" ⟨"TorchPlateModel", "readsSeam", "()V"⟩ ⟨"TorchPlateModel", "readsSeam", "()V"⟩ ∈ wsL_law := z_inS (List.mem_of_getElem? (i := 58) rfl) rfl
theorem zk_X9_155 : z_KV RX9 155 mX9_readsSeam 0 := ⟨zk0_X9_readsSeam, zt_5_51, zt_5_53, zt_S_58⟩
theorem zt_5_5 : (Jvm.Cond.methodLink "TorchPlateModel" (158 : Nat) ({ cls := "TorchPlateModel", name := "mayBegin", desc := "()Z" } : Jvm.MethodName)) ∈ wsL_law := z_in5 (List.mem_of_getElem? (i := 5) rfl) rfl
theorem zt_5_7 : (Jvm.Cond.instanceMethod ({ cls := "TorchPlateModel", name := "mayBegin", desc := "()Z" } : Jvm.MethodName)) ∈ wsL_law := z_in5 (List.mem_of_getElem? (i := 7) rfl) rfl
theorem zt_S_48 : Cond.selects "TorchPlateModel" ⟨"TorchPlateModel", "mayBegin", "()Z"⟩ ⟨"TorchPlateModel", "mayBegin", "()Z"⟩ ∈ wsL_law := z_inS (List.mem_of_getElem? (i := 48) rfl) rfl
theorem zk_X9_158 : z_KV RX9 158 mX9_mayBegin 0 := ⟨zk0_X9_mayBegin, zt_5_5, zt_5_7, zt_S_48⟩
theorem zt_5_13 : (Jvm.Cond.methodLink "TorchPlateModel" (161 : Nat) ({ cls := "TorchPlateModel", name := "readsItem", desc := "(I)V" } : Jvm.MethodName)) ∈ wsL_law := z_in5 (List.mem_of_getElem? (i := 13) rfl) rfl
theorem zt_5_15 : (Jvm.Cond.instanceMethod ({ cls := "TorchPlateModel", name := "readsItem", desc := "(I)V" } : Jvm.MethodName)) ∈ wsL_law := z_in5 (List.mem_of_getElem? (i := 15) rfl) rfl
theorem zt_S_50 : Cond.selects "TorchPlateModel" ⟨"TorchPlateModel", "readsItem", "(I)V"⟩ ⟨"TorchPlateModel", "readsItem", "(I)V"⟩ ∈ wsL_law := z_inS (List.mem_of_getElem? (i := 50) rfl) rfl
theorem zk_X9_161 : z_KV RX9 161 mX9_readsItem 1 := ⟨zk0_X9_readsItem, zt_5_13, zt_5_15, zt_S_50⟩
theorem zt_5_55 : (Jvm.Cond.methodLink "TorchPlateModel" (165 : Nat) ({ cls := "TorchPlateModel", name := "sorts", desc := "()V" } : Jvm.MethodName)) ∈ wsL_law := z_in5 (List.mem_of_getElem? (i := 55) rfl) rfl
theorem zt_5_57 : (Jvm.Cond.instanceMethod ({ cls := "TorchPlateModel", name := "sorts", desc := "()V" } : Jvm.MethodName)) ∈ wsL_law := z_in5 (List.mem_of_getElem? (i := 57) rfl) rfl
theorem zt_S_59 : Cond.selects "TorchPlateModel" ⟨"TorchPlateModel", "sorts", "()V"⟩ ⟨"TorchPlateModel", "sorts", "()V"⟩ ∈ wsL_law := z_inS (List.mem_of_getElem? (i := 59) rfl) rfl
theorem zk_X9_165 : z_KV RX9 165 mX9_sorts 0 := ⟨zk0_X9_sorts, zt_5_55, zt_5_57, zt_S_59⟩
theorem zt_4_98 : (Jvm.Cond.methodLink "TorchPlateModel" (168 : Nat) ({ cls := "TorchPlateModel", name := "isWithin", desc := "(II)Z" } : Jvm.MethodName)) ∈ wsL_law := z_in4 (List.mem_of_getElem? (i := 98) rfl) rfl
theorem zt_4_100 : (Jvm.Cond.instanceMethod ({ cls := "TorchPlateModel", name := "isWithin", desc := "(II)Z" } : Jvm.MethodName)) ∈ wsL_law := z_in4 (List.mem_of_getElem? (i := 100) rfl) rfl
theorem zt_S_41 : Cond.selects "TorchPlateModel" ⟨"TorchPlateModel", "isWithin", "(II)Z"⟩ ⟨"TorchPlateModel", "isWithin", "(II)Z"⟩ ∈ wsL_law := z_inS (List.mem_of_getElem? (i := 41) rfl) rfl
theorem zk_X9_168 : z_KV RX9 168 mX9_isWithin 2 := ⟨zk0_X9_isWithin, zt_4_98, zt_4_100, zt_S_41⟩
theorem zt_4_113 : (Jvm.Cond.methodLink "TorchPlateModel" (177 : Nat) ({ cls := "TorchPlateModel", name := "side", desc := "(III)I" } : Jvm.MethodName)) ∈ wsL_law := z_in4 (List.mem_of_getElem? (i := 113) rfl) rfl
theorem zt_4_115 : (Jvm.Cond.instanceMethod ({ cls := "TorchPlateModel", name := "side", desc := "(III)I" } : Jvm.MethodName)) ∈ wsL_law := z_in4 (List.mem_of_getElem? (i := 115) rfl) rfl
theorem zt_S_44 : Cond.selects "TorchPlateModel" ⟨"TorchPlateModel", "side", "(III)I"⟩ ⟨"TorchPlateModel", "side", "(III)I"⟩ ∈ wsL_law := z_inS (List.mem_of_getElem? (i := 44) rfl) rfl
theorem zk_X9_177 : z_KV RX9 177 mX9_side 3 := ⟨zk0_X9_side, zt_4_113, zt_4_115, zt_S_44⟩
theorem zt_4_102 : (Jvm.Cond.methodLink "TorchPlateModel" (181 : Nat) ({ cls := "TorchPlateModel", name := "ringAt", desc := "(II)I" } : Jvm.MethodName)) ∈ wsL_law := z_in4 (List.mem_of_getElem? (i := 102) rfl) rfl
theorem zt_4_104 : (Jvm.Cond.instanceMethod ({ cls := "TorchPlateModel", name := "ringAt", desc := "(II)I" } : Jvm.MethodName)) ∈ wsL_law := z_in4 (List.mem_of_getElem? (i := 104) rfl) rfl
theorem zt_S_42 : Cond.selects "TorchPlateModel" ⟨"TorchPlateModel", "ringAt", "(II)I"⟩ ⟨"TorchPlateModel", "ringAt", "(II)I"⟩ ∈ wsL_law := z_inS (List.mem_of_getElem? (i := 42) rfl) rfl
theorem zk_X9_181 : z_KV RX9 181 mX9_ringAt 2 := ⟨zk0_X9_ringAt, zt_4_102, zt_4_104, zt_S_42⟩
theorem zt_4_106 : (Jvm.Cond.methodLink "TorchPlateModel" (185 : Nat) ({ cls := "TorchPlateModel", name := "isOn", desc := "(III)Z" } : Jvm.MethodName)) ∈ wsL_law := z_in4 (List.mem_of_getElem? (i := 106) rfl) rfl
theorem zt_4_108 : (Jvm.Cond.instanceMethod ({ cls := "TorchPlateModel", name := "isOn", desc := "(III)Z" } : Jvm.MethodName)) ∈ wsL_law := z_in4 (List.mem_of_getElem? (i := 108) rfl) rfl
theorem zt_S_43 : Cond.selects "TorchPlateModel" ⟨"TorchPlateModel", "isOn", "(III)Z"⟩ ⟨"TorchPlateModel", "isOn", "(III)Z"⟩ ∈ wsL_law := z_inS (List.mem_of_getElem? (i := 43) rfl) rfl
theorem zk_X9_185 : z_KV RX9 185 mX9_isOn 3 := ⟨zk0_X9_isOn, zt_4_106, zt_4_108, zt_S_43⟩
theorem zt_5_63 : (Jvm.Cond.methodLink "TorchPlateModel" (188 : Nat) ({ cls := "TorchPlateModel", name := "isCornerNow", desc := "(I)Z" } : Jvm.MethodName)) ∈ wsL_law := z_in5 (List.mem_of_getElem? (i := 63) rfl) rfl
theorem zt_5_65 : (Jvm.Cond.instanceMethod ({ cls := "TorchPlateModel", name := "isCornerNow", desc := "(I)Z" } : Jvm.MethodName)) ∈ wsL_law := z_in5 (List.mem_of_getElem? (i := 65) rfl) rfl
theorem zt_S_60 : Cond.selects "TorchPlateModel" ⟨"TorchPlateModel", "isCornerNow", "(I)Z"⟩ ⟨"TorchPlateModel", "isCornerNow", "(I)Z"⟩ ∈ wsL_law := z_inS (List.mem_of_getElem? (i := 60) rfl) rfl
theorem zk_X9_188 : z_KV RX9 188 mX9_isCornerNow 1 := ⟨zk0_X9_isCornerNow, zt_5_63, zt_5_65, zt_S_60⟩
theorem zt_5_67 : (Jvm.Cond.methodLink "TorchPlateModel" (192 : Nat) ({ cls := "TorchPlateModel", name := "endsAt", desc := "([III)I" } : Jvm.MethodName)) ∈ wsL_law := z_in5 (List.mem_of_getElem? (i := 67) rfl) rfl
theorem zt_5_68 : (Jvm.Cond.static ({ cls := "TorchPlateModel", name := "endsAt", desc := "([III)I" } : Jvm.MethodName)) ∈ wsL_law := z_in5 (List.mem_of_getElem? (i := 68) rfl) rfl
theorem zk_X9_192 : z_KS RX9 192 mX9_endsAt 3 := ⟨zk0_X9_endsAt, zt_5_67, zt_5_68⟩
theorem zt_5_78 : (Jvm.Cond.methodLink "TorchPlateModel" (195 : Nat) ({ cls := "TorchPlateModel", name := "roots", desc := "(I)V" } : Jvm.MethodName)) ∈ wsL_law := z_in5 (List.mem_of_getElem? (i := 78) rfl) rfl
theorem zt_5_80 : (Jvm.Cond.instanceMethod ({ cls := "TorchPlateModel", name := "roots", desc := "(I)V" } : Jvm.MethodName)) ∈ wsL_law := z_in5 (List.mem_of_getElem? (i := 80) rfl) rfl
theorem zt_S_62 : Cond.selects "TorchPlateModel" ⟨"TorchPlateModel", "roots", "(I)V"⟩ ⟨"TorchPlateModel", "roots", "(I)V"⟩ ∈ wsL_law := z_inS (List.mem_of_getElem? (i := 62) rfl) rfl
theorem zk_X9_195 : z_KV RX9 195 mX9_roots 1 := ⟨zk0_X9_roots, zt_5_78, zt_5_80, zt_S_62⟩
theorem zt_5_74 : (Jvm.Cond.methodLink "TorchPlateModel" (201 : Nat) ({ cls := "TorchPlateModel", name := "pieces", desc := "()V" } : Jvm.MethodName)) ∈ wsL_law := z_in5 (List.mem_of_getElem? (i := 74) rfl) rfl
theorem zt_5_76 : (Jvm.Cond.instanceMethod ({ cls := "TorchPlateModel", name := "pieces", desc := "()V" } : Jvm.MethodName)) ∈ wsL_law := z_in5 (List.mem_of_getElem? (i := 76) rfl) rfl
theorem zt_S_61 : Cond.selects "TorchPlateModel" ⟨"TorchPlateModel", "pieces", "()V"⟩ ⟨"TorchPlateModel", "pieces", "()V"⟩ ∈ wsL_law := z_inS (List.mem_of_getElem? (i := 61) rfl) rfl
theorem zk_X9_201 : z_KV RX9 201 mX9_pieces 0 := ⟨zk0_X9_pieces, zt_5_74, zt_5_76, zt_S_61⟩
theorem zt_5_82 : (Jvm.Cond.methodLink "TorchPlateModel" (204 : Nat) ({ cls := "TorchPlateModel", name := "way", desc := "(II)I" } : Jvm.MethodName)) ∈ wsL_law := z_in5 (List.mem_of_getElem? (i := 82) rfl) rfl
theorem zt_5_84 : (Jvm.Cond.instanceMethod ({ cls := "TorchPlateModel", name := "way", desc := "(II)I" } : Jvm.MethodName)) ∈ wsL_law := z_in5 (List.mem_of_getElem? (i := 84) rfl) rfl
theorem zt_S_63 : Cond.selects "TorchPlateModel" ⟨"TorchPlateModel", "way", "(II)I"⟩ ⟨"TorchPlateModel", "way", "(II)I"⟩ ∈ wsL_law := z_inS (List.mem_of_getElem? (i := 63) rfl) rfl
theorem zk_X9_204 : z_KV RX9 204 mX9_way 2 := ⟨zk0_X9_way, zt_5_82, zt_5_84, zt_S_63⟩
theorem zt_5_86 : (Jvm.Cond.methodLink "TorchPlateModel" (207 : Nat) ({ cls := "TorchPlateModel", name := "pieceOf", desc := "(I)I" } : Jvm.MethodName)) ∈ wsL_law := z_in5 (List.mem_of_getElem? (i := 86) rfl) rfl
theorem zt_5_88 : (Jvm.Cond.instanceMethod ({ cls := "TorchPlateModel", name := "pieceOf", desc := "(I)I" } : Jvm.MethodName)) ∈ wsL_law := z_in5 (List.mem_of_getElem? (i := 88) rfl) rfl
theorem zt_S_64 : Cond.selects "TorchPlateModel" ⟨"TorchPlateModel", "pieceOf", "(I)I"⟩ ⟨"TorchPlateModel", "pieceOf", "(I)I"⟩ ∈ wsL_law := z_inS (List.mem_of_getElem? (i := 64) rfl) rfl
theorem zk_X9_207 : z_KV RX9 207 mX9_pieceOf 1 := ⟨zk0_X9_pieceOf, zt_5_86, zt_5_88, zt_S_64⟩
theorem zt_5_94 : (Jvm.Cond.methodLink "TorchPlateModel" (210 : Nat) ({ cls := "TorchPlateModel", name := "cutsOfPart", desc := "(I)I" } : Jvm.MethodName)) ∈ wsL_law := z_in5 (List.mem_of_getElem? (i := 94) rfl) rfl
theorem zt_5_96 : (Jvm.Cond.instanceMethod ({ cls := "TorchPlateModel", name := "cutsOfPart", desc := "(I)I" } : Jvm.MethodName)) ∈ wsL_law := z_in5 (List.mem_of_getElem? (i := 96) rfl) rfl
theorem zt_S_65 : Cond.selects "TorchPlateModel" ⟨"TorchPlateModel", "cutsOfPart", "(I)I"⟩ ⟨"TorchPlateModel", "cutsOfPart", "(I)I"⟩ ∈ wsL_law := z_inS (List.mem_of_getElem? (i := 65) rfl) rfl
theorem zk_X9_210 : z_KV RX9 210 mX9_cutsOfPart 1 := ⟨zk0_X9_cutsOfPart, zt_5_94, zt_5_96, zt_S_65⟩
theorem zt_5_98 : (Jvm.Cond.methodLink "TorchPlateModel" (213 : Nat) ({ cls := "TorchPlateModel", name := "ones", desc := "(I)I" } : Jvm.MethodName)) ∈ wsL_law := z_in5 (List.mem_of_getElem? (i := 98) rfl) rfl
theorem zt_5_99 : (Jvm.Cond.static ({ cls := "TorchPlateModel", name := "ones", desc := "(I)I" } : Jvm.MethodName)) ∈ wsL_law := z_in5 (List.mem_of_getElem? (i := 99) rfl) rfl
theorem zk_X9_213 : z_KS RX9 213 mX9_ones 1 := ⟨zk0_X9_ones, zt_5_98, zt_5_99⟩
theorem zt_5_125 : (Jvm.Cond.methodLink "TorchPlateModel" (216 : Nat) ({ cls := "TorchPlateModel", name := "isCool", desc := "(II)Z" } : Jvm.MethodName)) ∈ wsL_law := z_in5 (List.mem_of_getElem? (i := 125) rfl) rfl
theorem zt_5_127 : (Jvm.Cond.instanceMethod ({ cls := "TorchPlateModel", name := "isCool", desc := "(II)Z" } : Jvm.MethodName)) ∈ wsL_law := z_in5 (List.mem_of_getElem? (i := 127) rfl) rfl
theorem zt_S_71 : Cond.selects "TorchPlateModel" ⟨"TorchPlateModel", "isCool", "(II)Z"⟩ ⟨"TorchPlateModel", "isCool", "(II)Z"⟩ ∈ wsL_law := z_inS (List.mem_of_getElem? (i := 71) rfl) rfl
theorem zk_X9_216 : z_KV RX9 216 mX9_isCool 2 := ⟨zk0_X9_isCool, zt_5_125, zt_5_127, zt_S_71⟩
theorem zt_5_109 : (Jvm.Cond.methodLink "TorchPlateModel" (219 : Nat) ({ cls := "TorchPlateModel", name := "wouldFall", desc := "(I)Z" } : Jvm.MethodName)) ∈ wsL_law := z_in5 (List.mem_of_getElem? (i := 109) rfl) rfl
theorem zt_5_111 : (Jvm.Cond.instanceMethod ({ cls := "TorchPlateModel", name := "wouldFall", desc := "(I)Z" } : Jvm.MethodName)) ∈ wsL_law := z_in5 (List.mem_of_getElem? (i := 111) rfl) rfl
theorem zt_S_67 : Cond.selects "TorchPlateModel" ⟨"TorchPlateModel", "wouldFall", "(I)Z"⟩ ⟨"TorchPlateModel", "wouldFall", "(I)Z"⟩ ∈ wsL_law := z_inS (List.mem_of_getElem? (i := 67) rfl) rfl
theorem zk_X9_219 : z_KV RX9 219 mX9_wouldFall 1 := ⟨zk0_X9_wouldFall, zt_5_109, zt_5_111, zt_S_67⟩
theorem zt_5_117 : (Jvm.Cond.methodLink "TorchPlateModel" (222 : Nat) ({ cls := "TorchPlateModel", name := "notes", desc := "()V" } : Jvm.MethodName)) ∈ wsL_law := z_in5 (List.mem_of_getElem? (i := 117) rfl) rfl
theorem zt_5_119 : (Jvm.Cond.instanceMethod ({ cls := "TorchPlateModel", name := "notes", desc := "()V" } : Jvm.MethodName)) ∈ wsL_law := z_in5 (List.mem_of_getElem? (i := 119) rfl) rfl
theorem zt_S_69 : Cond.selects "TorchPlateModel" ⟨"TorchPlateModel", "notes", "()V"⟩ ⟨"TorchPlateModel", "notes", "()V"⟩ ∈ wsL_law := z_inS (List.mem_of_getElem? (i := 69) rfl) rfl
theorem zk_X9_222 : z_KV RX9 222 mX9_notes 0 := ⟨zk0_X9_notes, zt_5_117, zt_5_119, zt_S_69⟩
theorem zt_5_121 : (Jvm.Cond.methodLink "TorchPlateModel" (225 : Nat) ({ cls := "TorchPlateModel", name := "beginsAt", desc := "(II)I" } : Jvm.MethodName)) ∈ wsL_law := z_in5 (List.mem_of_getElem? (i := 121) rfl) rfl
theorem zt_5_123 : (Jvm.Cond.instanceMethod ({ cls := "TorchPlateModel", name := "beginsAt", desc := "(II)I" } : Jvm.MethodName)) ∈ wsL_law := z_in5 (List.mem_of_getElem? (i := 123) rfl) rfl
theorem zt_S_70 : Cond.selects "TorchPlateModel" ⟨"TorchPlateModel", "beginsAt", "(II)I"⟩ ⟨"TorchPlateModel", "beginsAt", "(II)I"⟩ ∈ wsL_law := z_inS (List.mem_of_getElem? (i := 70) rfl) rfl
theorem zk_X9_225 : z_KV RX9 225 mX9_beginsAt 2 := ⟨zk0_X9_beginsAt, zt_5_121, zt_5_123, zt_S_70⟩
theorem zt_5_105 : (Jvm.Cond.methodLink "TorchPlateModel" (228 : Nat) ({ cls := "TorchPlateModel", name := "mayBurn", desc := "(I)Z" } : Jvm.MethodName)) ∈ wsL_law := z_in5 (List.mem_of_getElem? (i := 105) rfl) rfl
theorem zt_5_107 : (Jvm.Cond.instanceMethod ({ cls := "TorchPlateModel", name := "mayBurn", desc := "(I)Z" } : Jvm.MethodName)) ∈ wsL_law := z_in5 (List.mem_of_getElem? (i := 107) rfl) rfl
theorem zt_S_66 : Cond.selects "TorchPlateModel" ⟨"TorchPlateModel", "mayBurn", "(I)Z"⟩ ⟨"TorchPlateModel", "mayBurn", "(I)Z"⟩ ∈ wsL_law := z_inS (List.mem_of_getElem? (i := 66) rfl) rfl
theorem zk_X9_228 : z_KV RX9 228 mX9_mayBurn 1 := ⟨zk0_X9_mayBurn, zt_5_105, zt_5_107, zt_S_66⟩
theorem zt_5_113 : (Jvm.Cond.methodLink "TorchPlateModel" (231 : Nat) ({ cls := "TorchPlateModel", name := "burn", desc := "(I)I" } : Jvm.MethodName)) ∈ wsL_law := z_in5 (List.mem_of_getElem? (i := 113) rfl) rfl
theorem zt_5_115 : (Jvm.Cond.instanceMethod ({ cls := "TorchPlateModel", name := "burn", desc := "(I)I" } : Jvm.MethodName)) ∈ wsL_law := z_in5 (List.mem_of_getElem? (i := 115) rfl) rfl
theorem zt_S_68 : Cond.selects "TorchPlateModel" ⟨"TorchPlateModel", "burn", "(I)I"⟩ ⟨"TorchPlateModel", "burn", "(I)I"⟩ ∈ wsL_law := z_inS (List.mem_of_getElem? (i := 68) rfl) rfl
theorem zk_X9_231 : z_KV RX9 231 mX9_burn 1 := ⟨zk0_X9_burn, zt_5_113, zt_5_115, zt_S_68⟩
theorem zt_5_133 : (Jvm.Cond.methodLink "TorchPlateModel" (234 : Nat) ({ cls := "TorchPlateModel", name := "move", desc := "(I)I" } : Jvm.MethodName)) ∈ wsL_law := z_in5 (List.mem_of_getElem? (i := 133) rfl) rfl
theorem zt_5_135 : (Jvm.Cond.instanceMethod ({ cls := "TorchPlateModel", name := "move", desc := "(I)I" } : Jvm.MethodName)) ∈ wsL_law := z_in5 (List.mem_of_getElem? (i := 135) rfl) rfl
theorem zt_S_72 : Cond.selects "TorchPlateModel" ⟨"TorchPlateModel", "move", "(I)I"⟩ ⟨"TorchPlateModel", "move", "(I)I"⟩ ∈ wsL_law := z_inS (List.mem_of_getElem? (i := 72) rfl) rfl
theorem zk_X9_234 : z_KV RX9 234 mX9_move 1 := ⟨zk0_X9_move, zt_5_133, zt_5_135, zt_S_72⟩
theorem zt_5_141 : (Jvm.Cond.methodLink "TorchPlateModel" (237 : Nat) ({ cls := "TorchPlateModel", name := "tours", desc := "()Z" } : Jvm.MethodName)) ∈ wsL_law := z_in5 (List.mem_of_getElem? (i := 141) rfl) rfl
theorem zt_5_143 : (Jvm.Cond.instanceMethod ({ cls := "TorchPlateModel", name := "tours", desc := "()Z" } : Jvm.MethodName)) ∈ wsL_law := z_in5 (List.mem_of_getElem? (i := 143) rfl) rfl
theorem zt_S_73 : Cond.selects "TorchPlateModel" ⟨"TorchPlateModel", "tours", "()Z"⟩ ⟨"TorchPlateModel", "tours", "()Z"⟩ ∈ wsL_law := z_inS (List.mem_of_getElem? (i := 73) rfl) rfl
theorem zk_X9_237 : z_KV RX9 237 mX9_tours 0 := ⟨zk0_X9_tours, zt_5_141, zt_5_143, zt_S_73⟩
theorem zt_5_154 : (Jvm.Cond.methodLink "TorchPlateModel" (240 : Nat) ({ cls := "TorchPlateModel", name := "startOf", desc := "(I)I" } : Jvm.MethodName)) ∈ wsL_law := z_in5 (List.mem_of_getElem? (i := 154) rfl) rfl
theorem zt_5_156 : (Jvm.Cond.instanceMethod ({ cls := "TorchPlateModel", name := "startOf", desc := "(I)I" } : Jvm.MethodName)) ∈ wsL_law := z_in5 (List.mem_of_getElem? (i := 156) rfl) rfl
theorem zt_S_76 : Cond.selects "TorchPlateModel" ⟨"TorchPlateModel", "startOf", "(I)I"⟩ ⟨"TorchPlateModel", "startOf", "(I)I"⟩ ∈ wsL_law := z_inS (List.mem_of_getElem? (i := 76) rfl) rfl
theorem zk_X9_240 : z_KV RX9 240 mX9_startOf 1 := ⟨zk0_X9_startOf, zt_5_154, zt_5_156, zt_S_76⟩
theorem zt_5_158 : (Jvm.Cond.methodLink "TorchPlateModel" (243 : Nat) ({ cls := "TorchPlateModel", name := "rounds", desc := "(I)I" } : Jvm.MethodName)) ∈ wsL_law := z_in5 (List.mem_of_getElem? (i := 158) rfl) rfl
theorem zt_5_160 : (Jvm.Cond.instanceMethod ({ cls := "TorchPlateModel", name := "rounds", desc := "(I)I" } : Jvm.MethodName)) ∈ wsL_law := z_in5 (List.mem_of_getElem? (i := 160) rfl) rfl
theorem zt_S_77 : Cond.selects "TorchPlateModel" ⟨"TorchPlateModel", "rounds", "(I)I"⟩ ⟨"TorchPlateModel", "rounds", "(I)I"⟩ ∈ wsL_law := z_inS (List.mem_of_getElem? (i := 77) rfl) rfl
theorem zk_X9_243 : z_KV RX9 243 mX9_rounds 1 := ⟨zk0_X9_rounds, zt_5_158, zt_5_160, zt_S_77⟩
theorem zt_5_174 : (Jvm.Cond.methodLink "TorchPlateModel" (247 : Nat) ({ cls := "TorchPlateModel", name := "lowest", desc := "(I)I" } : Jvm.MethodName)) ∈ wsL_law := z_in5 (List.mem_of_getElem? (i := 174) rfl) rfl
theorem zt_5_175 : (Jvm.Cond.static ({ cls := "TorchPlateModel", name := "lowest", desc := "(I)I" } : Jvm.MethodName)) ∈ wsL_law := z_in5 (List.mem_of_getElem? (i := 175) rfl) rfl
theorem zk_X9_247 : z_KS RX9 247 mX9_lowest 1 := ⟨zk0_X9_lowest, zt_5_174, zt_5_175⟩
theorem zt_5_166 : (Jvm.Cond.methodLink "TorchPlateModel" (250 : Nat) ({ cls := "TorchPlateModel", name := "oddOf", desc := "(I)I" } : Jvm.MethodName)) ∈ wsL_law := z_in5 (List.mem_of_getElem? (i := 166) rfl) rfl
theorem zt_5_168 : (Jvm.Cond.instanceMethod ({ cls := "TorchPlateModel", name := "oddOf", desc := "(I)I" } : Jvm.MethodName)) ∈ wsL_law := z_in5 (List.mem_of_getElem? (i := 168) rfl) rfl
theorem zt_S_79 : Cond.selects "TorchPlateModel" ⟨"TorchPlateModel", "oddOf", "(I)I"⟩ ⟨"TorchPlateModel", "oddOf", "(I)I"⟩ ∈ wsL_law := z_inS (List.mem_of_getElem? (i := 79) rfl) rfl
theorem zk_X9_250 : z_KV RX9 250 mX9_oddOf 1 := ⟨zk0_X9_oddOf, zt_5_166, zt_5_168, zt_S_79⟩
theorem zt_5_170 : (Jvm.Cond.methodLink "TorchPlateModel" (253 : Nat) ({ cls := "TorchPlateModel", name := "pairs", desc := "(I)V" } : Jvm.MethodName)) ∈ wsL_law := z_in5 (List.mem_of_getElem? (i := 170) rfl) rfl
theorem zt_5_172 : (Jvm.Cond.instanceMethod ({ cls := "TorchPlateModel", name := "pairs", desc := "(I)V" } : Jvm.MethodName)) ∈ wsL_law := z_in5 (List.mem_of_getElem? (i := 172) rfl) rfl
theorem zt_S_80 : Cond.selects "TorchPlateModel" ⟨"TorchPlateModel", "pairs", "(I)V"⟩ ⟨"TorchPlateModel", "pairs", "(I)V"⟩ ∈ wsL_law := z_inS (List.mem_of_getElem? (i := 80) rfl) rfl
theorem zk_X9_253 : z_KV RX9 253 mX9_pairs 1 := ⟨zk0_X9_pairs, zt_5_170, zt_5_172, zt_S_80⟩
theorem zt_5_162 : (Jvm.Cond.methodLink "TorchPlateModel" (256 : Nat) ({ cls := "TorchPlateModel", name := "links", desc := "(I)I" } : Jvm.MethodName)) ∈ wsL_law := z_in5 (List.mem_of_getElem? (i := 162) rfl) rfl
theorem zt_5_164 : (Jvm.Cond.instanceMethod ({ cls := "TorchPlateModel", name := "links", desc := "(I)I" } : Jvm.MethodName)) ∈ wsL_law := z_in5 (List.mem_of_getElem? (i := 164) rfl) rfl
theorem zt_S_78 : Cond.selects "TorchPlateModel" ⟨"TorchPlateModel", "links", "(I)I"⟩ ⟨"TorchPlateModel", "links", "(I)I"⟩ ∈ wsL_law := z_inS (List.mem_of_getElem? (i := 78) rfl) rfl
theorem zk_X9_256 : z_KV RX9 256 mX9_links 1 := ⟨zk0_X9_links, zt_5_162, zt_5_164, zt_S_78⟩
theorem zt_5_185 : (Jvm.Cond.methodLink "TorchPlateModel" (259 : Nat) ({ cls := "TorchPlateModel", name := "isOpen", desc := "(III)Z" } : Jvm.MethodName)) ∈ wsL_law := z_in5 (List.mem_of_getElem? (i := 185) rfl) rfl
theorem zt_5_187 : (Jvm.Cond.instanceMethod ({ cls := "TorchPlateModel", name := "isOpen", desc := "(III)Z" } : Jvm.MethodName)) ∈ wsL_law := z_in5 (List.mem_of_getElem? (i := 187) rfl) rfl
theorem zt_S_83 : Cond.selects "TorchPlateModel" ⟨"TorchPlateModel", "isOpen", "(III)Z"⟩ ⟨"TorchPlateModel", "isOpen", "(III)Z"⟩ ∈ wsL_law := z_inS (List.mem_of_getElem? (i := 83) rfl) rfl
theorem zk_X9_259 : z_KV RX9 259 mX9_isOpen 3 := ⟨zk0_X9_isOpen, zt_5_185, zt_5_187, zt_S_83⟩
theorem zt_5_189 : (Jvm.Cond.methodLink "TorchPlateModel" (262 : Nat) ({ cls := "TorchPlateModel", name := "shuts", desc := "(III)V" } : Jvm.MethodName)) ∈ wsL_law := z_in5 (List.mem_of_getElem? (i := 189) rfl) rfl
theorem zt_5_191 : (Jvm.Cond.instanceMethod ({ cls := "TorchPlateModel", name := "shuts", desc := "(III)V" } : Jvm.MethodName)) ∈ wsL_law := z_in5 (List.mem_of_getElem? (i := 191) rfl) rfl
theorem zt_S_84 : Cond.selects "TorchPlateModel" ⟨"TorchPlateModel", "shuts", "(III)V"⟩ ⟨"TorchPlateModel", "shuts", "(III)V"⟩ ∈ wsL_law := z_inS (List.mem_of_getElem? (i := 84) rfl) rfl
theorem zk_X9_262 : z_KV RX9 262 mX9_shuts 3 := ⟨zk0_X9_shuts, zt_5_189, zt_5_191, zt_S_84⟩
theorem zt_5_193 : (Jvm.Cond.methodLink "TorchPlateModel" (266 : Nat) ({ cls := "TorchPlateModel", name := "isAllFrom", desc := "(I)Z" } : Jvm.MethodName)) ∈ wsL_law := z_in5 (List.mem_of_getElem? (i := 193) rfl) rfl
theorem zt_5_195 : (Jvm.Cond.instanceMethod ({ cls := "TorchPlateModel", name := "isAllFrom", desc := "(I)Z" } : Jvm.MethodName)) ∈ wsL_law := z_in5 (List.mem_of_getElem? (i := 195) rfl) rfl
theorem zt_S_85 : Cond.selects "TorchPlateModel" ⟨"TorchPlateModel", "isAllFrom", "(I)Z"⟩ ⟨"TorchPlateModel", "isAllFrom", "(I)Z"⟩ ∈ wsL_law := z_inS (List.mem_of_getElem? (i := 85) rfl) rfl
theorem zk_X9_266 : z_KV RX9 266 mX9_isAllFrom 1 := ⟨zk0_X9_isAllFrom, zt_5_193, zt_5_195, zt_S_85⟩
theorem zt_5_177 : (Jvm.Cond.methodLink "TorchPlateModel" (269 : Nat) ({ cls := "TorchPlateModel", name := "opens", desc := "(III)V" } : Jvm.MethodName)) ∈ wsL_law := z_in5 (List.mem_of_getElem? (i := 177) rfl) rfl
theorem zt_5_179 : (Jvm.Cond.instanceMethod ({ cls := "TorchPlateModel", name := "opens", desc := "(III)V" } : Jvm.MethodName)) ∈ wsL_law := z_in5 (List.mem_of_getElem? (i := 179) rfl) rfl
theorem zt_S_81 : Cond.selects "TorchPlateModel" ⟨"TorchPlateModel", "opens", "(III)V"⟩ ⟨"TorchPlateModel", "opens", "(III)V"⟩ ∈ wsL_law := z_inS (List.mem_of_getElem? (i := 81) rfl) rfl
theorem zk_X9_269 : z_KV RX9 269 mX9_opens 3 := ⟨zk0_X9_opens, zt_5_177, zt_5_179, zt_S_81⟩
theorem zt_5_150 : (Jvm.Cond.methodLink "TorchPlateModel" (275 : Nat) ({ cls := "TorchPlateModel", name := "cutsOf", desc := "(I)I" } : Jvm.MethodName)) ∈ wsL_law := z_in5 (List.mem_of_getElem? (i := 150) rfl) rfl
theorem zt_5_152 : (Jvm.Cond.instanceMethod ({ cls := "TorchPlateModel", name := "cutsOf", desc := "(I)I" } : Jvm.MethodName)) ∈ wsL_law := z_in5 (List.mem_of_getElem? (i := 152) rfl) rfl
theorem zt_S_75 : Cond.selects "TorchPlateModel" ⟨"TorchPlateModel", "cutsOf", "(I)I"⟩ ⟨"TorchPlateModel", "cutsOf", "(I)I"⟩ ∈ wsL_law := z_inS (List.mem_of_getElem? (i := 75) rfl) rfl
theorem zk_X9_275 : z_KV RX9 275 mX9_cutsOf 1 := ⟨zk0_X9_cutsOf, zt_5_150, zt_5_152, zt_S_75⟩
theorem zt_5_181 : (Jvm.Cond.methodLink "TorchPlateModel" (278 : Nat) ({ cls := "TorchPlateModel", name := "goesOn", desc := "(III)Z" } : Jvm.MethodName)) ∈ wsL_law := z_in5 (List.mem_of_getElem? (i := 181) rfl) rfl
theorem zt_5_183 : (Jvm.Cond.instanceMethod ({ cls := "TorchPlateModel", name := "goesOn", desc := "(III)Z" } : Jvm.MethodName)) ∈ wsL_law := z_in5 (List.mem_of_getElem? (i := 183) rfl) rfl
theorem zt_S_82 : Cond.selects "TorchPlateModel" ⟨"TorchPlateModel", "goesOn", "(III)Z"⟩ ⟨"TorchPlateModel", "goesOn", "(III)Z"⟩ ∈ wsL_law := z_inS (List.mem_of_getElem? (i := 82) rfl) rfl
theorem zk_X9_278 : z_KV RX9 278 mX9_goesOn 3 := ⟨zk0_X9_goesOn, zt_5_181, zt_5_183, zt_S_82⟩
theorem zt_5_146 : (Jvm.Cond.methodLink "TorchPlateModel" (284 : Nat) ({ cls := "TorchPlateModel", name := "aheadOf", desc := "(I)I" } : Jvm.MethodName)) ∈ wsL_law := z_in5 (List.mem_of_getElem? (i := 146) rfl) rfl
theorem zt_5_148 : (Jvm.Cond.instanceMethod ({ cls := "TorchPlateModel", name := "aheadOf", desc := "(I)I" } : Jvm.MethodName)) ∈ wsL_law := z_in5 (List.mem_of_getElem? (i := 148) rfl) rfl
theorem zt_S_74 : Cond.selects "TorchPlateModel" ⟨"TorchPlateModel", "aheadOf", "(I)I"⟩ ⟨"TorchPlateModel", "aheadOf", "(I)I"⟩ ∈ wsL_law := z_inS (List.mem_of_getElem? (i := 74) rfl) rfl
theorem zk_X9_284 : z_KV RX9 284 mX9_aheadOf 1 := ⟨zk0_X9_aheadOf, zt_5_146, zt_5_148, zt_S_74⟩
theorem zt_5_229 : (Jvm.Cond.methodLink "TorchPlateModel" (287 : Nat) ({ cls := "TorchPlateModel", name := "unseenSet", desc := "()I" } : Jvm.MethodName)) ∈ wsL_law := z_in5 (List.mem_of_getElem? (i := 229) rfl) rfl
theorem zt_5_231 : (Jvm.Cond.instanceMethod ({ cls := "TorchPlateModel", name := "unseenSet", desc := "()I" } : Jvm.MethodName)) ∈ wsL_law := z_in5 (List.mem_of_getElem? (i := 231) rfl) rfl
theorem zt_S_86 : Cond.selects "TorchPlateModel" ⟨"TorchPlateModel", "unseenSet", "()I"⟩ ⟨"TorchPlateModel", "unseenSet", "()I"⟩ ∈ wsL_law := z_inS (List.mem_of_getElem? (i := 86) rfl) rfl
theorem zk_X9_287 : z_KV RX9 287 mX9_unseenSet 0 := ⟨zk0_X9_unseenSet, zt_5_229, zt_5_231, zt_S_86⟩
theorem zt_3_76 : (Jvm.Cond.constant "java/lang/Integer" (265 : Nat) (1431655765 : Int32)) ∈ wsL_law := z_in3 (List.mem_of_getElem? (i := 76) rfl) rfl
theorem zt_3_77 : (Jvm.Cond.constant "java/lang/Integer" (266 : Nat) (858993459 : Int32)) ∈ wsL_law := z_in3 (List.mem_of_getElem? (i := 77) rfl) rfl
theorem zt_3_78 : (Jvm.Cond.constant "java/lang/Integer" (267 : Nat) (252645135 : Int32)) ∈ wsL_law := z_in3 (List.mem_of_getElem? (i := 78) rfl) rfl
theorem zt_3_86 : (Jvm.Cond.constant "java/lang/Integer" (264 : Nat) (65536 : Int32)) ∈ wsL_law := z_in3 (List.mem_of_getElem? (i := 86) rfl) rfl
theorem zt_3_87 : (Jvm.Cond.constant "TorchPlate$Survey" (127 : Nat) (1000000 : Int32)) ∈ wsL_law := z_in3 (List.mem_of_getElem? (i := 87) rfl) rfl
theorem zt_3_189 : (Jvm.Cond.constant "TorchPlate" (171 : Nat) (1000000 : Int32)) ∈ wsL_law := z_in3 (List.mem_of_getElem? (i := 189) rfl) rfl
theorem zt_4_69 : (Jvm.Cond.constant "TorchPlate$Witness" (69 : Nat) (1000000 : Int32)) ∈ wsL_law := z_in4 (List.mem_of_getElem? (i := 69) rfl) rfl
theorem zt_5_145 : (Jvm.Cond.constant "TorchPlateModel" (246 : Nat) (99999 : Int32)) ∈ wsL_law := z_in5 (List.mem_of_getElem? (i := 145) rfl) rfl
theorem zt_1_15 : (Jvm.Cond.classLink "TorchPlateLaw" (7 : Nat) "TorchPlate") ∈ wsL_law := z_in1 (List.mem_of_getElem? (i := 15) rfl) rfl
theorem zt_1_16 : (Jvm.Cond.instantiable "TorchPlate" (12 : Nat)) ∈ wsL_law := z_in1 (List.mem_of_getElem? (i := 16) rfl) rfl
theorem zt_1_23 : (Jvm.Cond.classLink "TorchPlate" (17 : Nat) "TorchPlate$Plate") ∈ wsL_law := z_in1 (List.mem_of_getElem? (i := 23) rfl) rfl
theorem zt_1_24 : (Jvm.Cond.instantiable "TorchPlate$Plate" (14 : Nat)) ∈ wsL_law := z_in1 (List.mem_of_getElem? (i := 24) rfl) rfl
theorem zt_1_29 : (Jvm.Cond.classLink "TorchPlate$Plate" (40 : Nat) "[[I") ∈ wsL_law := z_in1 (List.mem_of_getElem? (i := 29) rfl) rfl
theorem zt_1_109 : (Jvm.Cond.arrayClass Jvm.ClassFile.FieldType.int) ∈ wsL_law := z_in1 (List.mem_of_getElem? (i := 109) rfl) rfl
theorem zt_1_110 : (Jvm.Cond.classLink "TorchPlate" (27 : Nat) "TorchPlate$Reader") ∈ wsL_law := z_in1 (List.mem_of_getElem? (i := 110) rfl) rfl
theorem zt_1_111 : (Jvm.Cond.instantiable "TorchPlate$Reader" (9 : Nat)) ∈ wsL_law := z_in1 (List.mem_of_getElem? (i := 111) rfl) rfl
theorem zt_1_144 : (Jvm.Cond.classLink "TorchPlate" (34 : Nat) "TorchPlate$Plight") ∈ wsL_law := z_in1 (List.mem_of_getElem? (i := 144) rfl) rfl
theorem zt_1_145 : (Jvm.Cond.instantiable "TorchPlate$Plight" (5 : Nat)) ∈ wsL_law := z_in1 (List.mem_of_getElem? (i := 145) rfl) rfl
theorem zt_1_172 : (Jvm.Cond.classLink "TorchPlate" (41 : Nat) "TorchPlate$Past") ∈ wsL_law := z_in1 (List.mem_of_getElem? (i := 172) rfl) rfl
theorem zt_1_173 : (Jvm.Cond.instantiable "TorchPlate$Past" (3 : Nat)) ∈ wsL_law := z_in1 (List.mem_of_getElem? (i := 173) rfl) rfl
theorem zt_1_178 : (Jvm.Cond.classLink "TorchPlate$Past" (9 : Nat) "TorchPlate$Plight") ∈ wsL_law := z_in1 (List.mem_of_getElem? (i := 178) rfl) rfl
theorem zt_1_192 : (Jvm.Cond.classLink "TorchPlate" (55 : Nat) "TorchPlate$Survey") ∈ wsL_law := z_in1 (List.mem_of_getElem? (i := 192) rfl) rfl
theorem zt_1_193 : (Jvm.Cond.instantiable "TorchPlate$Survey" (12 : Nat)) ∈ wsL_law := z_in1 (List.mem_of_getElem? (i := 193) rfl) rfl
theorem zt_1_198 : (Jvm.Cond.classLink "TorchPlate$Survey" (47 : Nat) "TorchPlate$Web") ∈ wsL_law := z_in1 (List.mem_of_getElem? (i := 198) rfl) rfl
theorem zt_1_199 : (Jvm.Cond.instantiable "TorchPlate$Web" (2 : Nat)) ∈ wsL_law := z_in1 (List.mem_of_getElem? (i := 199) rfl) rfl
theorem zt_2_23 : (Jvm.Cond.classLink "TorchPlate" (62 : Nat) "TorchPlate$Walk") ∈ wsL_law := z_in2 (List.mem_of_getElem? (i := 23) rfl) rfl
theorem zt_2_24 : (Jvm.Cond.instantiable "TorchPlate$Walk" (5 : Nat)) ∈ wsL_law := z_in2 (List.mem_of_getElem? (i := 24) rfl) rfl
theorem zt_2_29 : (Jvm.Cond.classLink "TorchPlate$Walk" (25 : Nat) "TorchPlate$Web") ∈ wsL_law := z_in2 (List.mem_of_getElem? (i := 29) rfl) rfl
theorem zt_2_51 : (Jvm.Cond.classLink "TorchPlate" (69 : Nat) "TorchPlate$Witness") ∈ wsL_law := z_in2 (List.mem_of_getElem? (i := 51) rfl) rfl
theorem zt_2_52 : (Jvm.Cond.instantiable "TorchPlate$Witness" (6 : Nat)) ∈ wsL_law := z_in2 (List.mem_of_getElem? (i := 52) rfl) rfl
theorem zt_2_57 : (Jvm.Cond.classLink "TorchPlate$Witness" (28 : Nat) "TorchPlate$Web") ∈ wsL_law := z_in2 (List.mem_of_getElem? (i := 57) rfl) rfl
theorem zt_4_84 : (Jvm.Cond.classLink "TorchPlateLaw" (10 : Nat) "TorchPlateModel") ∈ wsL_law := z_in4 (List.mem_of_getElem? (i := 84) rfl) rfl
theorem zt_4_85 : (Jvm.Cond.instantiable "TorchPlateModel" (34 : Nat)) ∈ wsL_law := z_in4 (List.mem_of_getElem? (i := 85) rfl) rfl
theorem zt_4_220 : (Jvm.Cond.arrayClass Jvm.ClassFile.FieldType.boolean) ∈ wsL_law := z_in4 (List.mem_of_getElem? (i := 220) rfl) rfl
