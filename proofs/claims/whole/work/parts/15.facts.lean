/-! methods and what the tables say of them, printed by wip/whole/emit.py -/
theorem zmt1 {w : Cond} (h : w ∈ tables_1_1) : w ∈ lw_tbl := List.mem_append_right _ (show w ∈ tables_1 from List.mem_append_left _ h)
theorem zmt2 {w : Cond} (h : w ∈ tables_1_2) : w ∈ lw_tbl := List.mem_append_right _ (show w ∈ tables_1 from List.mem_append_right _ (List.mem_append_left _ h))
theorem zmt3 {w : Cond} (h : w ∈ tables_1_3) : w ∈ lw_tbl := List.mem_append_right _ (show w ∈ tables_1 from List.mem_append_right _ (List.mem_append_right _ (List.mem_append_left _ h)))
theorem zmt4 {w : Cond} (h : w ∈ tables_1_4) : w ∈ lw_tbl := List.mem_append_right _ (show w ∈ tables_1 from List.mem_append_right _ (List.mem_append_right _ (List.mem_append_right _ (List.mem_append_left _ h))))
theorem zmt5 {w : Cond} (h : w ∈ tables_1_5) : w ∈ lw_tbl := List.mem_append_right _ (show w ∈ tables_1 from List.mem_append_right _ (List.mem_append_right _ (List.mem_append_right _ (List.mem_append_right _ (List.mem_append_left _ h)))))
theorem zmt6 {w : Cond} (h : w ∈ tables_1_6) : w ∈ lw_tbl := List.mem_append_right _ (show w ∈ tables_1 from List.mem_append_right _ (List.mem_append_right _ (List.mem_append_right _ (List.mem_append_right _ (List.mem_append_right _ (List.mem_append_left _ h))))))
theorem zmt7 {w : Cond} (h : w ∈ tables_1_7) : w ∈ lw_tbl := List.mem_append_right _ (show w ∈ tables_1 from List.mem_append_right _ (List.mem_append_right _ (List.mem_append_right _ (List.mem_append_right _ (List.mem_append_right _ (List.mem_append_right _ (List.mem_append_left _ h)))))))
theorem zmt8 {w : Cond} (h : w ∈ tables_1_8) : w ∈ lw_tbl := List.mem_append_right _ (show w ∈ tables_1 from List.mem_append_right _ (List.mem_append_right _ (List.mem_append_right _ (List.mem_append_right _ (List.mem_append_right _ (List.mem_append_right _ (List.mem_append_right _ (List.mem_append_left _ h))))))))
theorem zmt9 {w : Cond} (h : w ∈ tables_1_9) : w ∈ lw_tbl := List.mem_append_right _ (show w ∈ tables_1 from List.mem_append_right _ (List.mem_append_right _ (List.mem_append_right _ (List.mem_append_right _ (List.mem_append_right _ (List.mem_append_right _ (List.mem_append_right _ (List.mem_append_right _ (h)))))))))
theorem zmp (i : Nat) (q : MethodName × Nat) (h : lw_privs[i]? = some q) : Cond.selects q.1.cls q.1 q.1 ∈ lw_tbl := List.mem_append_left _ (List.mem_map.mpr ⟨q, List.mem_of_getElem? h, rfl⟩)
theorem zcl_0 : ∃ q, vwCl[0]? = some q ∧ q.1 = RX0 := ⟨(RX0, TX0, 1), rfl, rfl⟩
theorem zcl_1 : ∃ q, vwCl[1]? = some q ∧ q.1 = RX1 := ⟨(RX1, TX1, 17), rfl, rfl⟩
theorem zcl_2 : ∃ q, vwCl[2]? = some q ∧ q.1 = RX2 := ⟨(RX2, TX2, 10), rfl, rfl⟩
theorem zcl_3 : ∃ q, vwCl[3]? = some q ∧ q.1 = RX3 := ⟨(RX3, TX3, 2), rfl, rfl⟩
theorem zcl_4 : ∃ q, vwCl[4]? = some q ∧ q.1 = RX4 := ⟨(RX4, TX4, 4), rfl, rfl⟩
theorem zcl_5 : ∃ q, vwCl[5]? = some q ∧ q.1 = RX5 := ⟨(RX5, TX5, 6), rfl, rfl⟩
theorem zcl_6 : ∃ q, vwCl[6]? = some q ∧ q.1 = RX6 := ⟨(RX6, TX6, 11), rfl, rfl⟩
theorem zcl_7 : ∃ q, vwCl[7]? = some q ∧ q.1 = RX7 := ⟨(RX7, TX7, 19), rfl, rfl⟩
theorem zcl_8 : ∃ q, vwCl[8]? = some q ∧ q.1 = RX8 := ⟨(RX8, TX8, 3), rfl, rfl⟩
theorem zcl_9 : ∃ q, vwCl[9]? = some q ∧ q.1 = RX9 := ⟨(RX9, TX9, 5), rfl, rfl⟩
theorem zcl_10 : ∃ q, vwCl[10]? = some q ∧ q.1 = RX10 := ⟨(RX10, TX10, 5), rfl, rfl⟩
theorem zcl_11 : ∃ q, vwCl[11]? = some q ∧ q.1 = RX11 := ⟨(RX11, TX11, 16), rfl, rfl⟩
theorem zcl_12 : ∃ q, vwCl[12]? = some q ∧ q.1 = RX12 := ⟨(RX12, TX12, 83), rfl, rfl⟩
abbrev M_J13_bitCount_95d88 : zMth := (yJ13_bitCount_95d88, cJ13_bitCount_95d88, 2, (some .int))
abbrev M_J6_bitCount_0f7a4 : zMth := (yJ6_bitCount_0f7a4, cJ6_bitCount_0f7a4, 1, (some .int))
abbrev M_J7_fill_53178 : zMth := (yJ7_fill_53178, cJ7_fill_53178, 4, none)
abbrev M_J7_fill_d0a16 : zMth := (yJ7_fill_d0a16, cJ7_fill_d0a16, 5, none)
abbrev M_X0_anchorTells : zMth := (yX0_anchorTells, cX0_anchorTells, 2, (some .int))
abbrev M_X0_beaconGreets : zMth := (yX0_beaconGreets, cX0_beaconGreets, 2, (some .int))
abbrev M_X0_beaconTells : zMth := (yX0_beaconTells, cX0_beaconTells, 2, (some .int))
abbrev M_X0_deafTells : zMth := (yX0_deafTells, cX0_deafTells, 2, (some .int))
abbrev M_X0_farTells : zMth := (yX0_farTells, cX0_farTells, 2, (some .int))
abbrev M_X0_greetingOf : zMth := (yX0_greetingOf, cX0_greetingOf, 2, (some .int))
abbrev M_X0_hearsTells : zMth := (yX0_hearsTells, cX0_hearsTells, 2, (some .int))
abbrev M_X0_hearsWeighs : zMth := (yX0_hearsWeighs, cX0_hearsWeighs, 1, (some .int))
abbrev M_X0_init : zMth := (yX0_init, cX0_init, 1, none)
abbrev M_X0_leave : zMth := (yX0_leave, cX0_leave, 2, none)
abbrev M_X0_measureTells : zMth := (yX0_measureTells, cX0_measureTells, 2, (some .int))
abbrev M_X0_measureWeighs : zMth := (yX0_measureWeighs, cX0_measureWeighs, 2, (some .int))
abbrev M_X0_stepsTells : zMth := (yX0_stepsTells, cX0_stepsTells, 2, (some .int))
abbrev M_X0_stepsWeighs : zMth := (yX0_stepsWeighs, cX0_stepsWeighs, 2, (some .int))
abbrev M_X0_tellingOf : zMth := (yX0_tellingOf, cX0_tellingOf, 2, (some .int))
abbrev M_X0_tellingOf_ : zMth := (yX0_tellingOf_, cX0_tellingOf_, 2, (some .int))
abbrev M_X0_thingGreets : zMth := (yX0_thingGreets, cX0_thingGreets, 2, (some .int))
abbrev M_X0_thingTells : zMth := (yX0_thingTells, cX0_thingTells, 2, (some .int))
abbrev M_X0_weightOf : zMth := (yX0_weightOf, cX0_weightOf, 2, (some .int))
abbrev M_X10_cellAt : zMth := (yX10_cellAt, cX10_cellAt, 11, (some .int))
abbrev M_X10_cellsAt : zMth := (yX10_cellsAt, cX10_cellsAt, 3, (some .long))
abbrev M_X10_chosen : zMth := (yX10_chosen, cX10_chosen, 11, (some .int))
abbrev M_X10_count : zMth := (yX10_count, cX10_count, 3, (some .long))
abbrev M_X10_countFrom : zMth := (yX10_countFrom, cX10_countFrom, 7, none)
abbrev M_X10_forget : zMth := (yX10_forget, cX10_forget, 1, none)
abbrev M_X10_init : zMth := (yX10_init, cX10_init, 4, none)
abbrev M_X10_next : zMth := (yX10_next, cX10_next, 4, (some .long))
abbrev M_X10_sum : zMth := (yX10_sum, cX10_sum, 8, (some .long))
abbrev M_X11_about : zMth := (yX11_about, cX11_about, 5, (some .int))
abbrev M_X11_alone : zMth := (yX11_alone, cX11_alone, 2, (some .int))
abbrev M_X11_as : zMth := (yX11_as, cX11_as, 5, (some .int))
abbrev M_X11_ask : zMth := (yX11_ask, cX11_ask, 4, (some .int))
abbrev M_X11_back : zMth := (yX11_back, cX11_back, 2, (some .int))
abbrev M_X11_between : zMth := (yX11_between, cX11_between, 3, (some .int))
abbrev M_X11_bit : zMth := (yX11_bit, cX11_bit, 1, (some .long))
abbrev M_X11_box : zMth := (yX11_box, cX11_box, 6, (some .int))
abbrev M_X11_boxed : zMth := (yX11_boxed, cX11_boxed, 8, (some .long))
abbrev M_X11_can : zMth := (yX11_can, cX11_can, 4, (some .int))
abbrev M_X11_cell : zMth := (yX11_cell, cX11_cell, 4, (some .long))
abbrev M_X11_cells : zMth := (yX11_cells, cX11_cells, 2, (some .long))
abbrev M_X11_changed : zMth := (yX11_changed, cX11_changed, 1, none)
abbrev M_X11_check : zMth := (yX11_check, cX11_check, 2, (some .int))
abbrev M_X11_copy : zMth := (yX11_copy, cX11_copy, 8, (some .int))
abbrev M_X11_could : zMth := (yX11_could, cX11_could, 2, (some .int))
abbrev M_X11_distance : zMth := (yX11_distance, cX11_distance, 4, (some .int))
abbrev M_X11_fault : zMth := (yX11_fault, cX11_fault, 1, (some .int))
abbrev M_X11_faulty : zMth := (yX11_faulty, cX11_faulty, 2, (some .int))
abbrev M_X11_field : zMth := (yX11_field, cX11_field, 3, (some .int))
abbrev M_X11_flip : zMth := (yX11_flip, cX11_flip, 5, (some .int))
abbrev M_X11_flipped : zMth := (yX11_flipped, cX11_flipped, 4, (some .int))
abbrev M_X11_flips : zMth := (yX11_flips, cX11_flips, 3, (some .int))
abbrev M_X11_greet : zMth := (yX11_greet, cX11_greet, 4, (some .int))
abbrev M_X11_group : zMth := (yX11_group, cX11_group, 2, (some .int))
abbrev M_X11_has : zMth := (yX11_has, cX11_has, 3, (some .boolean))
abbrev M_X11_hold : zMth := (yX11_hold, cX11_hold, 4, (some .int))
abbrev M_X11_holdsInUse : zMth := (yX11_holdsInUse, cX11_holdsInUse, 3, (some .int))
abbrev M_X11_hops : zMth := (yX11_hops, cX11_hops, 4, (some .int))
abbrev M_X11_init : zMth := (yX11_init, cX11_init, 2, none)
abbrev M_X11_isHoldEmpty : zMth := (yX11_isHoldEmpty, cX11_isHoldEmpty, 2, (some .boolean))
abbrev M_X11_isSpan : zMth := (yX11_isSpan, cX11_isSpan, 2, (some .boolean))
abbrev M_X11_isSpent : zMth := (yX11_isSpent, cX11_isSpent, 2, (some .boolean))
abbrev M_X11_isTold : zMth := (yX11_isTold, cX11_isTold, 3, (some .boolean))
abbrev M_X11_keep : zMth := (yX11_keep, cX11_keep, 2, (some .int))
abbrev M_X11_keeps : zMth := (yX11_keeps, cX11_keeps, 4, (some .int))
abbrev M_X11_lay : zMth := (yX11_lay, cX11_lay, 5, (some .int))
abbrev M_X11_liars : zMth := (yX11_liars, cX11_liars, 2, (some .int))
abbrev M_X11_lies : zMth := (yX11_lies, cX11_lies, 3, (some .int))
abbrev M_X11_loose : zMth := (yX11_loose, cX11_loose, 2, (some .int))
abbrev M_X11_lose : zMth := (yX11_lose, cX11_lose, 2, (some .int))
abbrev M_X11_lowest : zMth := (yX11_lowest, cX11_lowest, 2, (some .int))
abbrev M_X11_makeReady : zMth := (yX11_makeReady, cX11_makeReady, 1, none)
abbrev M_X11_many : zMth := (yX11_many, cX11_many, 2, (some .int))
abbrev M_X11_measure : zMth := (yX11_measure, cX11_measure, 7, (some .int))
abbrev M_X11_measures : zMth := (yX11_measures, cX11_measures, 6, (some .int))
abbrev M_X11_measuresFrom : zMth := (yX11_measuresFrom, cX11_measuresFrom, 7, (some .int))
abbrev M_X11_mover : zMth := (yX11_mover, cX11_mover, 4, (some .int))
abbrev M_X11_narrowed : zMth := (yX11_narrowed, cX11_narrowed, 1, (some (.object "HeardPlaces$Narrowing")))
abbrev M_X11_nth : zMth := (yX11_nth, cX11_nth, 3, (some .int))
abbrev M_X11_placings : zMth := (yX11_placings, cX11_placings, 3, (some .int))
abbrev M_X11_plan : zMth := (yX11_plan, cX11_plan, 8, (some .int))
abbrev M_X11_planned : zMth := (yX11_planned, cX11_planned, 7, (some .long))
abbrev M_X11_put : zMth := (yX11_put, cX11_put, 4, (some .int))
abbrev M_X11_quarrel : zMth := (yX11_quarrel, cX11_quarrel, 1, (some .int))
abbrev M_X11_refusalOfBodies : zMth := (yX11_refusalOfBodies, cX11_refusalOfBodies, 4, (some .int))
abbrev M_X11_refusalOfFlip : zMth := (yX11_refusalOfFlip, cX11_refusalOfFlip, 4, (some .int))
abbrev M_X11_refusalOfFlips : zMth := (yX11_refusalOfFlips, cX11_refusalOfFlips, 2, (some .int))
abbrev M_X11_refusalOfRow : zMth := (yX11_refusalOfRow, cX11_refusalOfRow, 3, (some .int))
abbrev M_X11_sheet : zMth := (yX11_sheet, cX11_sheet, 4, (some .int))
abbrev M_X11_sure : zMth := (yX11_sure, cX11_sure, 2, (some .int))
abbrev M_X11_take : zMth := (yX11_take, cX11_take, 4, (some .int))
abbrev M_X11_tell : zMth := (yX11_tell, cX11_tell, 4, (some .int))
abbrev M_X11_thing : zMth := (yX11_thing, cX11_thing, 4, (some .int))
abbrev M_X11_tick : zMth := (yX11_tick, cX11_tick, 3, (some .int))
abbrev M_X11_together : zMth := (yX11_together, cX11_together, 6, (some .int))
abbrev M_X11_told : zMth := (yX11_told, cX11_told, 4, (some .int))
abbrev M_X11_trace : zMth := (yX11_trace, cX11_trace, 1, (some .int))
abbrev M_X11_trials : zMth := (yX11_trials, cX11_trials, 1, (some .int))
abbrev M_X11_trust : zMth := (yX11_trust, cX11_trust, 3, (some .int))
abbrev M_X11_turn : zMth := (yX11_turn, cX11_turn, 3, (some .int))
abbrev M_X11_wall : zMth := (yX11_wall, cX11_wall, 3, (some .int))
abbrev M_X11_wallsChanged : zMth := (yX11_wallsChanged, cX11_wallsChanged, 1, none)
abbrev M_X11_way : zMth := (yX11_way, cX11_way, 5, (some .int))
abbrev M_X11_ways : zMth := (yX11_ways, cX11_ways, 2, (some .long))
abbrev M_X11_within : zMth := (yX11_within, cX11_within, 3, (some .boolean))
abbrev M_X12_about : zMth := (yX12_about, cX12_about, 3, (some .int))
abbrev M_X12_addMeasure : zMth := (yX12_addMeasure, cX12_addMeasure, 6, (some .int))
abbrev M_X12_addThing : zMth := (yX12_addThing, cX12_addThing, 5, (some .int))
abbrev M_X12_alone : zMth := (yX12_alone, cX12_alone, 3, (some .int))
abbrev M_X12_as : zMth := (yX12_as, cX12_as, 3, (some .int))
abbrev M_X12_asNumber : zMth := (yX12_asNumber, cX12_asNumber, 1, (some .int))
abbrev M_X12_ask : zMth := (yX12_ask, cX12_ask, 8, (some .int))
abbrev M_X12_back : zMth := (yX12_back, cX12_back, 6, (some .int))
abbrev M_X12_between : zMth := (yX12_between, cX12_between, 9, (some .int))
abbrev M_X12_box : zMth := (yX12_box, cX12_box, 6, (some .int))
abbrev M_X12_can : zMth := (yX12_can, cX12_can, 4, (some .int))
abbrev M_X12_cell : zMth := (yX12_cell, cX12_cell, 4, (some .long))
abbrev M_X12_cellThen : zMth := (yX12_cellThen, cX12_cellThen, 2, (some .int))
abbrev M_X12_cells : zMth := (yX12_cells, cX12_cells, 2, (some .long))
abbrev M_X12_cellsHad : zMth := (yX12_cellsHad, cX12_cellsHad, 4, (some .int))
abbrev M_X12_check : zMth := (yX12_check, cX12_check, 3, (some .int))
abbrev M_X12_copy : zMth := (yX12_copy, cX12_copy, 7, (some .int))
abbrev M_X12_could : zMth := (yX12_could, cX12_could, 2, (some .int))
abbrev M_X12_count : zMth := (yX12_count, cX12_count, 4, (some .int))
abbrev M_X12_countSet : zMth := (yX12_countSet, cX12_countSet, 3, none)
abbrev M_X12_counted : zMth := (yX12_counted, cX12_counted, 5, (some .int))
abbrev M_X12_differs : zMth := (yX12_differs, cX12_differs, 4, (some .boolean))
abbrev M_X12_distance : zMth := (yX12_distance, cX12_distance, 4, (some .int))
abbrev M_X12_failed : zMth := (yX12_failed, cX12_failed, 2, (some .int))
abbrev M_X12_failedLong : zMth := (yX12_failedLong, cX12_failedLong, 2, (some .long))
abbrev M_X12_fault : zMth := (yX12_fault, cX12_fault, 1, (some .int))
abbrev M_X12_faultOf : zMth := (yX12_faultOf, cX12_faultOf, 3, (some .int))
abbrev M_X12_field : zMth := (yX12_field, cX12_field, 4, (some .int))
abbrev M_X12_findNarrowed : zMth := (yX12_findNarrowed, cX12_findNarrowed, 2, none)
abbrev M_X12_firstOf : zMth := (yX12_firstOf, cX12_firstOf, 3, (some .int))
abbrev M_X12_flip : zMth := (yX12_flip, cX12_flip, 5, (some .int))
abbrev M_X12_flipped : zMth := (yX12_flipped, cX12_flipped, 5, (some .int))
abbrev M_X12_flips : zMth := (yX12_flips, cX12_flips, 2, (some .int))
abbrev M_X12_freeCells : zMth := (yX12_freeCells, cX12_freeCells, 3, (some .int))
abbrev M_X12_goThroughFlips : zMth := (yX12_goThroughFlips, cX12_goThroughFlips, 3, none)
abbrev M_X12_greater : zMth := (yX12_greater, cX12_greater, 2, (some .int))
abbrev M_X12_greet : zMth := (yX12_greet, cX12_greet, 3, (some .int))
abbrev M_X12_greetThing : zMth := (yX12_greetThing, cX12_greetThing, 2, (some .int))
abbrev M_X12_group : zMth := (yX12_group, cX12_group, 2, (some .int))
abbrev M_X12_groupOf : zMth := (yX12_groupOf, cX12_groupOf, 6, (some .int))
abbrev M_X12_hasBit : zMth := (yX12_hasBit, cX12_hasBit, 3, (some .boolean))
abbrev M_X12_hasLesserThere : zMth := (yX12_hasLesserThere, cX12_hasLesserThere, 4, (some .boolean))
abbrev M_X12_hold : zMth := (yX12_hold, cX12_hold, 4, (some .int))
abbrev M_X12_hopFrom : zMth := (yX12_hopFrom, cX12_hopFrom, 6, none)
abbrev M_X12_hops : zMth := (yX12_hops, cX12_hops, 4, (some .int))
abbrev M_X12_in : zMth := (yX12_in, cX12_in, 6, (some .boolean))
abbrev M_X12_init : zMth := (yX12_init, cX12_init, 2, none)
abbrev M_X12_isAnchorAt : zMth := (yX12_isAnchorAt, cX12_isAnchorAt, 4, (some .boolean))
abbrev M_X12_isBeyond : zMth := (yX12_isBeyond, cX12_isBeyond, 4, (some .boolean))
abbrev M_X12_isCell : zMth := (yX12_isCell, cX12_isCell, 2, (some .boolean))
abbrev M_X12_isFree : zMth := (yX12_isFree, cX12_isFree, 2, (some .boolean))
abbrev M_X12_isHinged : zMth := (yX12_isHinged, cX12_isHinged, 8, (some .boolean))
abbrev M_X12_isJoint : zMth := (yX12_isJoint, cX12_isJoint, 2, (some .boolean))
abbrev M_X12_isKept : zMth := (yX12_isKept, cX12_isKept, 5, (some .boolean))
abbrev M_X12_isMeasure : zMth := (yX12_isMeasure, cX12_isMeasure, 3, (some .boolean))
abbrev M_X12_isOnSide : zMth := (yX12_isOnSide, cX12_isOnSide, 7, (some .boolean))
abbrev M_X12_isOtherAnchorAt : zMth := (yX12_isOtherAnchorAt, cX12_isOtherAnchorAt, 4, (some .boolean))
abbrev M_X12_isPlaced : zMth := (yX12_isPlaced, cX12_isPlaced, 5, (some .boolean))
abbrev M_X12_isQuietWithout : zMth := (yX12_isQuietWithout, cX12_isQuietWithout, 4, (some .boolean))
abbrev M_X12_isTaken : zMth := (yX12_isTaken, cX12_isTaken, 4, (some .boolean))
abbrev M_X12_judge : zMth := (yX12_judge, cX12_judge, 3, none)
abbrev M_X12_keep : zMth := (yX12_keep, cX12_keep, 6, (some .int))
abbrev M_X12_keepFlip : zMth := (yX12_keepFlip, cX12_keepFlip, 3, none)
abbrev M_X12_keeps : zMth := (yX12_keeps, cX12_keeps, 4, (some .int))
abbrev M_X12_lay : zMth := (yX12_lay, cX12_lay, 6, (some .int))
abbrev M_X12_layAll : zMth := (yX12_layAll, cX12_layAll, 2, none)
abbrev M_X12_layMeasure : zMth := (yX12_layMeasure, cX12_layMeasure, 6, none)
abbrev M_X12_layPairs : zMth := (yX12_layPairs, cX12_layPairs, 7, none)
abbrev M_X12_layWays : zMth := (yX12_layWays, cX12_layWays, 8, none)
abbrev M_X12_liars : zMth := (yX12_liars, cX12_liars, 2, (some .int))
abbrev M_X12_lies : zMth := (yX12_lies, cX12_lies, 2, (some .int))
abbrev M_X12_loose : zMth := (yX12_loose, cX12_loose, 3, (some .int))
abbrev M_X12_lose : zMth := (yX12_lose, cX12_lose, 3, (some .int))
abbrev M_X12_lost : zMth := (yX12_lost, cX12_lost, 0, (some .long))
abbrev M_X12_many : zMth := (yX12_many, cX12_many, 2, (some .int))
abbrev M_X12_mayBeJoint : zMth := (yX12_mayBeJoint, cX12_mayBeJoint, 2, (some .boolean))
abbrev M_X12_mayLie : zMth := (yX12_mayLie, cX12_mayLie, 2, (some .boolean))
abbrev M_X12_measure : zMth := (yX12_measure, cX12_measure, 6, (some .int))
abbrev M_X12_measures : zMth := (yX12_measures, cX12_measures, 7, (some .int))
abbrev M_X12_mover : zMth := (yX12_mover, cX12_mover, 4, (some .int))
abbrev M_X12_movesBy : zMth := (yX12_movesBy, cX12_movesBy, 4, (some .int))
abbrev M_X12_narrow : zMth := (yX12_narrow, cX12_narrow, 4, (some .boolean))
abbrev M_X12_narrowOne : zMth := (yX12_narrowOne, cX12_narrowOne, 11, (some .boolean))
abbrev M_X12_noCell : zMth := (yX12_noCell, cX12_noCell, 3, (some .int))
abbrev M_X12_noHold : zMth := (yX12_noHold, cX12_noHold, 1, (some .boolean))
abbrev M_X12_noMeasure : zMth := (yX12_noMeasure, cX12_noMeasure, 2, (some .boolean))
abbrev M_X12_noSheet : zMth := (yX12_noSheet, cX12_noSheet, 1, (some .boolean))
abbrev M_X12_noThing : zMth := (yX12_noThing, cX12_noThing, 2, (some .boolean))
abbrev M_X12_noTick : zMth := (yX12_noTick, cX12_noTick, 3, (some .boolean))
abbrev M_X12_nth : zMth := (yX12_nth, cX12_nth, 3, (some .int))
abbrev M_X12_onOf : zMth := (yX12_onOf, cX12_onOf, 4, (some .int))
abbrev M_X12_other : zMth := (yX12_other, cX12_other, 1, none)
abbrev M_X12_otherField : zMth := (yX12_otherField, cX12_otherField, 2, none)
abbrev M_X12_partOf : zMth := (yX12_partOf, cX12_partOf, 6, (some .int))
abbrev M_X12_placeOf : zMth := (yX12_placeOf, cX12_placeOf, 3, (some .int))
abbrev M_X12_placings : zMth := (yX12_placings, cX12_placings, 3, (some .int))
abbrev M_X12_plan : zMth := (yX12_plan, cX12_plan, 6, (some .int))
abbrev M_X12_put : zMth := (yX12_put, cX12_put, 4, (some .int))
abbrev M_X12_quarrel : zMth := (yX12_quarrel, cX12_quarrel, 1, (some .int))
abbrev M_X12_refused : zMth := (yX12_refused, cX12_refused, 2, (some .int))
abbrev M_X12_search : zMth := (yX12_search, cX12_search, 5, (some .boolean))
abbrev M_X12_searchFor : zMth := (yX12_searchFor, cX12_searchFor, 3, (some .boolean))
abbrev M_X12_seek : zMth := (yX12_seek, cX12_seek, 3, (some .int))
abbrev M_X12_seekLiars : zMth := (yX12_seekLiars, cX12_seekLiars, 3, none)
abbrev M_X12_sheet : zMth := (yX12_sheet, cX12_sheet, 5, (some .int))
abbrev M_X12_sizeOf : zMth := (yX12_sizeOf, cX12_sizeOf, 1, (some .int))
abbrev M_X12_stays : zMth := (yX12_stays, cX12_stays, 5, (some .boolean))
abbrev M_X12_sure : zMth := (yX12_sure, cX12_sure, 4, (some .int))
abbrev M_X12_take : zMth := (yX12_take, cX12_take, 4, (some .int))
abbrev M_X12_tally : zMth := (yX12_tally, cX12_tally, 3, none)
abbrev M_X12_tell : zMth := (yX12_tell, cX12_tell, 3, (some .int))
abbrev M_X12_tellMeasure : zMth := (yX12_tellMeasure, cX12_tellMeasure, 5, (some .int))
abbrev M_X12_tellThing : zMth := (yX12_tellThing, cX12_tellThing, 3, (some .int))
abbrev M_X12_thing : zMth := (yX12_thing, cX12_thing, 3, (some .int))
abbrev M_X12_tick : zMth := (yX12_tick, cX12_tick, 3, (some .int))
abbrev M_X12_together : zMth := (yX12_together, cX12_together, 6, (some .int))
abbrev M_X12_told : zMth := (yX12_told, cX12_told, 3, (some .int))
abbrev M_X12_toldOf : zMth := (yX12_toldOf, cX12_toldOf, 6, (some .long))
abbrev M_X12_trace : zMth := (yX12_trace, cX12_trace, 1, (some .int))
abbrev M_X12_traced : zMth := (yX12_traced, cX12_traced, 2, none)
abbrev M_X12_trials : zMth := (yX12_trials, cX12_trials, 1, (some .int))
abbrev M_X12_trust : zMth := (yX12_trust, cX12_trust, 4, (some .int))
abbrev M_X12_tryJoints : zMth := (yX12_tryJoints, cX12_tryJoints, 4, none)
abbrev M_X12_turn : zMth := (yX12_turn, cX12_turn, 4, (some .int))
abbrev M_X12_turnedCell : zMth := (yX12_turnedCell, cX12_turnedCell, 9, (some .int))
abbrev M_X12_useAll : zMth := (yX12_useAll, cX12_useAll, 2, none)
abbrev M_X12_wall : zMth := (yX12_wall, cX12_wall, 4, (some .int))
abbrev M_X12_way : zMth := (yX12_way, cX12_way, 13, (some .int))
abbrev M_X12_ways : zMth := (yX12_ways, cX12_ways, 2, (some .long))
abbrev M_X12_waysOf : zMth := (yX12_waysOf, cX12_waysOf, 5, (some .long))
abbrev M_X12_weighMeasure : zMth := (yX12_weighMeasure, cX12_weighMeasure, 3, (some .int))
abbrev M_X1_addMeasure : zMth := (yX1_addMeasure, cX1_addMeasure, 7, (some .int))
abbrev M_X1_addMover : zMth := (yX1_addMover, cX1_addMover, 6, (some .int))
abbrev M_X1_addThing : zMth := (yX1_addThing, cX1_addThing, 6, (some .int))
abbrev M_X1_anchorCells : zMth := (yX1_anchorCells, cX1_anchorCells, 4, (some .long))
abbrev M_X1_anchors : zMth := (yX1_anchors, cX1_anchors, 3, (some .int))
abbrev M_X1_around : zMth := (yX1_around, cX1_around, 4, (some .int))
abbrev M_X1_becomeLike : zMth := (yX1_becomeLike, cX1_becomeLike, 3, none)
abbrev M_X1_clear : zMth := (yX1_clear, cX1_clear, 3, none)
abbrev M_X1_firstCrowded : zMth := (yX1_firstCrowded, cX1_firstCrowded, 4, (some .int))
abbrev M_X1_firstUntold : zMth := (yX1_firstUntold, cX1_firstUntold, 2, (some .int))
abbrev M_X1_groupOf : zMth := (yX1_groupOf, cX1_groupOf, 2, (some .int))
abbrev M_X1_init : zMth := (yX1_init, cX1_init, 1, none)
abbrev M_X1_isCell : zMth := (yX1_isCell, cX1_isCell, 2, (some .boolean))
abbrev M_X1_isMeasure : zMth := (yX1_isMeasure, cX1_isMeasure, 2, (some .boolean))
abbrev M_X1_isMover : zMth := (yX1_isMover, cX1_isMover, 2, (some .boolean))
abbrev M_X1_isThing : zMth := (yX1_isThing, cX1_isThing, 2, (some .boolean))
abbrev M_X1_isTick : zMth := (yX1_isTick, cX1_isTick, 3, (some .boolean))
abbrev M_X1_link : zMth := (yX1_link, cX1_link, 2, none)
abbrev M_X1_measuresOf : zMth := (yX1_measuresOf, cX1_measuresOf, 5, (some .long))
abbrev M_X1_spread : zMth := (yX1_spread, cX1_spread, 8, (some .int))
abbrev M_X1_thingsOnMap : zMth := (yX1_thingsOnMap, cX1_thingsOnMap, 3, (some .int))
abbrev M_X1_toldCells : zMth := (yX1_toldCells, cX1_toldCells, 2, (some .long))
abbrev M_X2_canTurn : zMth := (yX2_canTurn, cX2_canTurn, 8, (some .boolean))
abbrev M_X2_cellAfter : zMth := (yX2_cellAfter, cX2_cellAfter, 3, (some .int))
abbrev M_X2_comeTo : zMth := (yX2_comeTo, cX2_comeTo, 5, none)
abbrev M_X2_init : zMth := (yX2_init, cX2_init, 3, none)
abbrev M_X2_isAlone : zMth := (yX2_isAlone, cX2_isAlone, 6, (some .boolean))
abbrev M_X2_isKeeping : zMth := (yX2_isKeeping, cX2_isKeeping, 4, (some .boolean))
abbrev M_X2_leaves : zMth := (yX2_leaves, cX2_leaves, 4, (some .boolean))
abbrev M_X2_seek : zMth := (yX2_seek, cX2_seek, 6, (some .boolean))
abbrev M_X2_seekAbout : zMth := (yX2_seekAbout, cX2_seekAbout, 10, none)
abbrev M_X2_settleOnMap : zMth := (yX2_settleOnMap, cX2_settleOnMap, 3, (some .int))
abbrev M_X2_turnedCell : zMth := (yX2_turnedCell, cX2_turnedCell, 8, (some .int))
abbrev M_X3_around : zMth := (yX3_around, cX3_around, 8, (some .long))
abbrev M_X3_init : zMth := (yX3_init, cX3_init, 3, none)
abbrev M_X3_mark : zMth := (yX3_mark, cX3_mark, 5, none)
abbrev M_X4_atHops : zMth := (yX4_atHops, cX4_atHops, 9, (some .long))
abbrev M_X4_findSteps : zMth := (yX4_findSteps, cX4_findSteps, 4, none)
abbrev M_X4_firstBroken : zMth := (yX4_firstBroken, cX4_firstBroken, 5, (some .int))
abbrev M_X4_forget : zMth := (yX4_forget, cX4_forget, 1, none)
abbrev M_X4_hopsBetween : zMth := (yX4_hopsBetween, cX4_hopsBetween, 9, (some .int))
abbrev M_X4_init : zMth := (yX4_init, cX4_init, 3, none)
abbrev M_X4_isKept : zMth := (yX4_isKept, cX4_isKept, 4, (some .boolean))
abbrev M_X4_keeping : zMth := (yX4_keeping, cX4_keeping, 4, (some .long))
abbrev M_X5_init : zMth := (yX5_init, cX5_init, 7, none)
abbrev M_X5_isTakenAs : zMth := (yX5_isTakenAs, cX5_isTakenAs, 2, (some .boolean))
abbrev M_X6_cellsOf : zMth := (yX6_cellsOf, cX6_cellsOf, 2, (some .long))
abbrev M_X6_findCells : zMth := (yX6_findCells, cX6_findCells, 1, none)
abbrev M_X6_findLiars : zMth := (yX6_findLiars, cX6_findLiars, 2, none)
abbrev M_X6_findSets : zMth := (yX6_findSets, cX6_findSets, 13, none)
abbrev M_X6_forget : zMth := (yX6_forget, cX6_forget, 1, none)
abbrev M_X6_forgetLiars : zMth := (yX6_forgetLiars, cX6_forgetLiars, 1, none)
abbrev M_X6_init : zMth := (yX6_init, cX6_init, 3, none)
abbrev M_X6_isQuarrel : zMth := (yX6_isQuarrel, cX6_isQuarrel, 1, (some .boolean))
abbrev M_X6_leastQuarrel : zMth := (yX6_leastQuarrel, cX6_leastQuarrel, 2, (some .long))
abbrev M_X6_narrowBy : zMth := (yX6_narrowBy, cX6_narrowBy, 8, (some .int))
abbrev M_X6_settle : zMth := (yX6_settle, cX6_settle, 11, (some .boolean))
abbrev M_X6_sumOfCells : zMth := (yX6_sumOfCells, cX6_sumOfCells, 3, (some .int))
abbrev M_X6_supported : zMth := (yX6_supported, cX6_supported, 12, (some .long))
abbrev M_X6_suspects : zMth := (yX6_suspects, cX6_suspects, 3, (some .int))
abbrev M_X6_thingsOnOneCell : zMth := (yX6_thingsOnOneCell, cX6_thingsOnOneCell, 3, (some .int))
abbrev M_X7_bestAsked : zMth := (yX7_bestAsked, cX7_bestAsked, 5, (some .int))
abbrev M_X7_bestBetween : zMth := (yX7_bestBetween, cX7_bestBetween, 2, (some .int))
abbrev M_X7_cellIn : zMth := (yX7_cellIn, cX7_cellIn, 3, (some .int))
abbrev M_X7_cellsOfStrangers : zMth := (yX7_cellsOfStrangers, cX7_cellsOfStrangers, 4, (some .long))
abbrev M_X7_compare : zMth := (yX7_compare, cX7_compare, 4, none)
abbrev M_X7_count : zMth := (yX7_count, cX7_count, 3, none)
abbrev M_X7_forget : zMth := (yX7_forget, cX7_forget, 1, none)
abbrev M_X7_goTogether : zMth := (yX7_goTogether, cX7_goTogether, 6, (some .boolean))
abbrev M_X7_init : zMth := (yX7_init, cX7_init, 4, none)
abbrev M_X7_isPossible : zMth := (yX7_isPossible, cX7_isPossible, 3, (some .boolean))
abbrev M_X7_look : zMth := (yX7_look, cX7_look, 2, none)
abbrev M_X7_mostAtOneDistance : zMth := (yX7_mostAtOneDistance, cX7_mostAtOneDistance, 6, (some .int))
abbrev M_X7_openPair : zMth := (yX7_openPair, cX7_openPair, 5, none)
abbrev M_X7_place : zMth := (yX7_place, cX7_place, 5, none)
abbrev M_X7_placeOf : zMth := (yX7_placeOf, cX7_placeOf, 3, (some .int))
abbrev M_X7_possible : zMth := (yX7_possible, cX7_possible, 4, (some .int))
abbrev M_X7_prepare : zMth := (yX7_prepare, cX7_prepare, 4, none)
abbrev M_X7_record : zMth := (yX7_record, cX7_record, 4, none)
abbrev M_X7_restrict : zMth := (yX7_restrict, cX7_restrict, 10, none)
abbrev M_X7_sureCell : zMth := (yX7_sureCell, cX7_sureCell, 3, (some .int))
abbrev M_X7_worst : zMth := (yX7_worst, cX7_worst, 4, (some .int))
abbrev M_X8_begin : zMth := (yX8_begin, cX8_begin, 3, none)
abbrev M_X8_end : zMth := (yX8_end, cX8_end, 1, none)
abbrev M_X8_init : zMth := (yX8_init, cX8_init, 1, none)
abbrev M_X8_isEmpty : zMth := (yX8_isEmpty, cX8_isEmpty, 1, (some .boolean))
abbrev M_X8_reaches : zMth := (yX8_reaches, cX8_reaches, 3, (some .boolean))
abbrev M_X8_write : zMth := (yX8_write, cX8_write, 4, none)
abbrev M_X9_init : zMth := (yX9_init, cX9_init, 6, none)
abbrev M_X9_isAnchor : zMth := (yX9_isAnchor, cX9_isAnchor, 1, (some .boolean))
theorem ok_J13_bitCount_95d88 : zMok M_J13_bitCount_95d88 1 := ⟨zT_in (zmt3 (List.mem_of_getElem? (i := 51) rfl)) rfl, zT_in (zmt1 (List.mem_of_getElem? (i := 13) rfl)) rfl, by decide +kernel, by decide⟩
theorem ok_J6_bitCount_0f7a4 : zMok M_J6_bitCount_0f7a4 1 := ⟨zT_in (zmt4 (List.mem_of_getElem? (i := 99) rfl)) rfl, zT_in (zmt1 (List.mem_of_getElem? (i := 17) rfl)) rfl, by decide +kernel, by decide⟩
theorem ok_J7_fill_53178 : zMok M_J7_fill_53178 2 := ⟨zT_in (zmt4 (List.mem_of_getElem? (i := 68) rfl)) rfl, zT_in (zmt1 (List.mem_of_getElem? (i := 16) rfl)) rfl, by decide +kernel, by decide⟩
theorem ok_J7_fill_d0a16 : zMok M_J7_fill_d0a16 2 := ⟨zT_in (zmt6 (List.mem_of_getElem? (i := 76) rfl)) rfl, zT_in (zmt1 (List.mem_of_getElem? (i := 16) rfl)) rfl, by decide +kernel, by decide⟩
theorem ok_X0_anchorTells : zMok M_X0_anchorTells 1 := ⟨zT_in (zmt6 (List.mem_of_getElem? (i := 5) rfl)) rfl, zT_in (zmt1 (List.mem_of_getElem? (i := 10) rfl)) rfl, by decide +kernel, by decide⟩
theorem ok_X0_beaconGreets : zMok M_X0_beaconGreets 1 := ⟨zT_in (zmt6 (List.mem_of_getElem? (i := 45) rfl)) rfl, zT_in (zmt1 (List.mem_of_getElem? (i := 10) rfl)) rfl, by decide +kernel, by decide⟩
theorem ok_X0_beaconTells : zMok M_X0_beaconTells 1 := ⟨zT_in (zmt5 (List.mem_of_getElem? (i := 237) rfl)) rfl, zT_in (zmt1 (List.mem_of_getElem? (i := 10) rfl)) rfl, by decide +kernel, by decide⟩
theorem ok_X0_deafTells : zMok M_X0_deafTells 1 := ⟨zT_in (zmt6 (List.mem_of_getElem? (i := 29) rfl)) rfl, zT_in (zmt1 (List.mem_of_getElem? (i := 10) rfl)) rfl, by decide +kernel, by decide⟩
theorem ok_X0_farTells : zMok M_X0_farTells 1 := ⟨zT_in (zmt6 (List.mem_of_getElem? (i := 17) rfl)) rfl, zT_in (zmt1 (List.mem_of_getElem? (i := 10) rfl)) rfl, by decide +kernel, by decide⟩
theorem ok_X0_greetingOf : zMok M_X0_greetingOf 1 := ⟨zT_in (zmt6 (List.mem_of_getElem? (i := 41) rfl)) rfl, zT_in (zmt1 (List.mem_of_getElem? (i := 10) rfl)) rfl, by decide +kernel, by decide⟩
theorem ok_X0_hearsTells : zMok M_X0_hearsTells 1 := ⟨zT_in (zmt6 (List.mem_of_getElem? (i := 25) rfl)) rfl, zT_in (zmt1 (List.mem_of_getElem? (i := 10) rfl)) rfl, by decide +kernel, by decide⟩
theorem ok_X0_hearsWeighs : zMok M_X0_hearsWeighs 0 := ⟨zT_in (zmt6 (List.mem_of_getElem? (i := 57) rfl)) rfl, zT_in (zmt1 (List.mem_of_getElem? (i := 10) rfl)) rfl, by decide +kernel, by decide⟩
theorem ok_X0_init : zMok M_X0_init 0 := ⟨zT_in (zmt2 (List.mem_of_getElem? (i := 132) rfl)) rfl, zT_in (zmt1 (List.mem_of_getElem? (i := 10) rfl)) rfl, by decide +kernel, by decide⟩
theorem ok_X0_leave : zMok M_X0_leave 1 := ⟨zT_in (zmt6 (List.mem_of_getElem? (i := 1) rfl)) rfl, zT_in (zmt1 (List.mem_of_getElem? (i := 10) rfl)) rfl, by decide +kernel, by decide⟩
theorem ok_X0_measureTells : zMok M_X0_measureTells 1 := ⟨zT_in (zmt6 (List.mem_of_getElem? (i := 21) rfl)) rfl, zT_in (zmt1 (List.mem_of_getElem? (i := 10) rfl)) rfl, by decide +kernel, by decide⟩
theorem ok_X0_measureWeighs : zMok M_X0_measureWeighs 1 := ⟨zT_in (zmt6 (List.mem_of_getElem? (i := 65) rfl)) rfl, zT_in (zmt1 (List.mem_of_getElem? (i := 10) rfl)) rfl, by decide +kernel, by decide⟩
theorem ok_X0_stepsTells : zMok M_X0_stepsTells 1 := ⟨zT_in (zmt6 (List.mem_of_getElem? (i := 33) rfl)) rfl, zT_in (zmt1 (List.mem_of_getElem? (i := 10) rfl)) rfl, by decide +kernel, by decide⟩
theorem ok_X0_stepsWeighs : zMok M_X0_stepsWeighs 1 := ⟨zT_in (zmt6 (List.mem_of_getElem? (i := 61) rfl)) rfl, zT_in (zmt1 (List.mem_of_getElem? (i := 10) rfl)) rfl, by decide +kernel, by decide⟩
theorem ok_X0_tellingOf : zMok M_X0_tellingOf 1 := ⟨zT_in (zmt5 (List.mem_of_getElem? (i := 233) rfl)) rfl, zT_in (zmt1 (List.mem_of_getElem? (i := 10) rfl)) rfl, by decide +kernel, by decide⟩
theorem ok_X0_tellingOf_ : zMok M_X0_tellingOf_ 1 := ⟨zT_in (zmt6 (List.mem_of_getElem? (i := 13) rfl)) rfl, zT_in (zmt1 (List.mem_of_getElem? (i := 10) rfl)) rfl, by decide +kernel, by decide⟩
theorem ok_X0_thingGreets : zMok M_X0_thingGreets 1 := ⟨zT_in (zmt6 (List.mem_of_getElem? (i := 49) rfl)) rfl, zT_in (zmt1 (List.mem_of_getElem? (i := 10) rfl)) rfl, by decide +kernel, by decide⟩
theorem ok_X0_thingTells : zMok M_X0_thingTells 1 := ⟨zT_in (zmt6 (List.mem_of_getElem? (i := 9) rfl)) rfl, zT_in (zmt1 (List.mem_of_getElem? (i := 10) rfl)) rfl, by decide +kernel, by decide⟩
theorem ok_X0_weightOf : zMok M_X0_weightOf 1 := ⟨zT_in (zmt6 (List.mem_of_getElem? (i := 53) rfl)) rfl, zT_in (zmt1 (List.mem_of_getElem? (i := 10) rfl)) rfl, by decide +kernel, by decide⟩
theorem ok_X10_cellAt : zMok M_X10_cellAt 3 := ⟨zT_in (zmt5 (List.mem_of_getElem? (i := 153) rfl)) rfl, zT_in (zmt1 (List.mem_of_getElem? (i := 9) rfl)) rfl, by decide +kernel, by decide⟩
theorem ok_X10_cellsAt : zMok M_X10_cellsAt 2 := ⟨zT_in (zmt5 (List.mem_of_getElem? (i := 135) rfl)) rfl, zT_in (zmt1 (List.mem_of_getElem? (i := 9) rfl)) rfl, by decide +kernel, by decide⟩
theorem ok_X10_chosen : zMok M_X10_chosen 3 := ⟨zT_in (zmt5 (List.mem_of_getElem? (i := 157) rfl)) rfl, zT_in (zmt1 (List.mem_of_getElem? (i := 9) rfl)) rfl, by decide +kernel, by decide⟩
theorem ok_X10_count : zMok M_X10_count 1 := ⟨zT_in (zmt5 (List.mem_of_getElem? (i := 127) rfl)) rfl, zT_in (zmt1 (List.mem_of_getElem? (i := 9) rfl)) rfl, by decide +kernel, by decide⟩
theorem ok_X10_countFrom : zMok M_X10_countFrom 2 := ⟨zT_in (zmt5 (List.mem_of_getElem? (i := 131) rfl)) rfl, zT_in (zmt1 (List.mem_of_getElem? (i := 9) rfl)) rfl, by decide +kernel, by decide⟩
theorem ok_X10_forget : zMok M_X10_forget 0 := ⟨zT_in (zmt3 (List.mem_of_getElem? (i := 2) rfl)) rfl, zT_in (zmt1 (List.mem_of_getElem? (i := 9) rfl)) rfl, by decide +kernel, by decide⟩
theorem ok_X10_init : zMok M_X10_init 3 := ⟨zT_in (zmt2 (List.mem_of_getElem? (i := 109) rfl)) rfl, zT_in (zmt1 (List.mem_of_getElem? (i := 9) rfl)) rfl, by decide +kernel, by decide⟩
theorem ok_X10_next : zMok M_X10_next 3 := ⟨zT_in (zmt5 (List.mem_of_getElem? (i := 141) rfl)) rfl, zT_in (zmt1 (List.mem_of_getElem? (i := 9) rfl)) rfl, by decide +kernel, by decide⟩
theorem ok_X10_sum : zMok M_X10_sum 2 := ⟨zT_in (zmt5 (List.mem_of_getElem? (i := 145) rfl)) rfl, zT_in (zmt1 (List.mem_of_getElem? (i := 9) rfl)) rfl, by decide +kernel, by decide⟩
theorem ok_X11_about : zMok M_X11_about 2 := ⟨zT_in (zmt3 (List.mem_of_getElem? (i := 115) rfl)) rfl, zT_in (zmt1 (List.mem_of_getElem? (i := 1) rfl)) rfl, by decide +kernel, by decide⟩
theorem ok_X11_alone : zMok M_X11_alone 1 := ⟨zT_in (zmt4 (List.mem_of_getElem? (i := 82) rfl)) rfl, zT_in (zmt1 (List.mem_of_getElem? (i := 1) rfl)) rfl, by decide +kernel, by decide⟩
theorem ok_X11_as : zMok M_X11_as 2 := ⟨zT_in (zmt5 (List.mem_of_getElem? (i := 217) rfl)) rfl, zT_in (zmt1 (List.mem_of_getElem? (i := 1) rfl)) rfl, by decide +kernel, by decide⟩
theorem ok_X11_ask : zMok M_X11_ask 2 := ⟨zT_in (zmt4 (List.mem_of_getElem? (i := 194) rfl)) rfl, zT_in (zmt1 (List.mem_of_getElem? (i := 1) rfl)) rfl, by decide +kernel, by decide⟩
theorem ok_X11_back : zMok M_X11_back 1 := ⟨zT_in (zmt5 (List.mem_of_getElem? (i := 201) rfl)) rfl, zT_in (zmt1 (List.mem_of_getElem? (i := 1) rfl)) rfl, by decide +kernel, by decide⟩
theorem ok_X11_between : zMok M_X11_between 2 := ⟨zT_in (zmt4 (List.mem_of_getElem? (i := 207) rfl)) rfl, zT_in (zmt1 (List.mem_of_getElem? (i := 1) rfl)) rfl, by decide +kernel, by decide⟩
theorem ok_X11_bit : zMok M_X11_bit 1 := ⟨zT_in (zmt1 (List.mem_of_getElem? (i := 46) rfl)) rfl, zT_in (zmt1 (List.mem_of_getElem? (i := 1) rfl)) rfl, by decide +kernel, by decide⟩
theorem ok_X11_box : zMok M_X11_box 5 := ⟨zT_in (zmt3 (List.mem_of_getElem? (i := 98) rfl)) rfl, zT_in (zmt1 (List.mem_of_getElem? (i := 1) rfl)) rfl, by decide +kernel, by decide⟩
theorem ok_X11_boxed : zMok M_X11_boxed 4 := ⟨zT_in (zmt1 (List.mem_of_getElem? (i := 43) rfl)) rfl, zT_in (zmt1 (List.mem_of_getElem? (i := 1) rfl)) rfl, by decide +kernel, by decide⟩
theorem ok_X11_can : zMok M_X11_can 3 := ⟨zT_in (zmt3 (List.mem_of_getElem? (i := 177) rfl)) rfl, zT_in (zmt1 (List.mem_of_getElem? (i := 1) rfl)) rfl, by decide +kernel, by decide⟩
theorem ok_X11_cell : zMok M_X11_cell 3 := ⟨zT_in (zmt6 (List.mem_of_getElem? (i := 96) rfl)) rfl, zT_in (zmt1 (List.mem_of_getElem? (i := 1) rfl)) rfl, by decide +kernel, by decide⟩
theorem ok_X11_cells : zMok M_X11_cells 1 := ⟨zT_in (zmt3 (List.mem_of_getElem? (i := 181) rfl)) rfl, zT_in (zmt1 (List.mem_of_getElem? (i := 1) rfl)) rfl, by decide +kernel, by decide⟩
theorem ok_X11_changed : zMok M_X11_changed 0 := ⟨zT_in (zmt2 (List.mem_of_getElem? (i := 230) rfl)) rfl, zT_in (zmt1 (List.mem_of_getElem? (i := 1) rfl)) rfl, by decide +kernel, by decide⟩
theorem ok_X11_check : zMok M_X11_check 0 := ⟨zT_in (zmt4 (List.mem_of_getElem? (i := 235) rfl)) rfl, zT_in (zmt1 (List.mem_of_getElem? (i := 1) rfl)) rfl, by decide +kernel, by decide⟩
theorem ok_X11_copy : zMok M_X11_copy 5 := ⟨zT_in (zmt6 (List.mem_of_getElem? (i := 100) rfl)) rfl, zT_in (zmt1 (List.mem_of_getElem? (i := 1) rfl)) rfl, by decide +kernel, by decide⟩
theorem ok_X11_could : zMok M_X11_could 1 := ⟨zT_in (zmt4 (List.mem_of_getElem? (i := 174) rfl)) rfl, zT_in (zmt1 (List.mem_of_getElem? (i := 1) rfl)) rfl, by decide +kernel, by decide⟩
theorem ok_X11_distance : zMok M_X11_distance 2 := ⟨zT_in (zmt4 (List.mem_of_getElem? (i := 223) rfl)) rfl, zT_in (zmt1 (List.mem_of_getElem? (i := 1) rfl)) rfl, by decide +kernel, by decide⟩
theorem ok_X11_fault : zMok M_X11_fault 0 := ⟨zT_in (zmt6 (List.mem_of_getElem? (i := 111) rfl)) rfl, zT_in (zmt1 (List.mem_of_getElem? (i := 1) rfl)) rfl, by decide +kernel, by decide⟩
theorem ok_X11_faulty : zMok M_X11_faulty 1 := ⟨zT_in (zmt3 (List.mem_of_getElem? (i := 39) rfl)) rfl, zT_in (zmt1 (List.mem_of_getElem? (i := 1) rfl)) rfl, by decide +kernel, by decide⟩
theorem ok_X11_field : zMok M_X11_field 2 := ⟨zT_in (zmt2 (List.mem_of_getElem? (i := 214) rfl)) rfl, zT_in (zmt1 (List.mem_of_getElem? (i := 1) rfl)) rfl, by decide +kernel, by decide⟩
theorem ok_X11_flip : zMok M_X11_flip 3 := ⟨zT_in (zmt5 (List.mem_of_getElem? (i := 83) rfl)) rfl, zT_in (zmt1 (List.mem_of_getElem? (i := 1) rfl)) rfl, by decide +kernel, by decide⟩
theorem ok_X11_flipped : zMok M_X11_flipped 2 := ⟨zT_in (zmt5 (List.mem_of_getElem? (i := 91) rfl)) rfl, zT_in (zmt1 (List.mem_of_getElem? (i := 1) rfl)) rfl, by decide +kernel, by decide⟩
theorem ok_X11_flips : zMok M_X11_flips 1 := ⟨zT_in (zmt5 (List.mem_of_getElem? (i := 13) rfl)) rfl, zT_in (zmt1 (List.mem_of_getElem? (i := 1) rfl)) rfl, by decide +kernel, by decide⟩
theorem ok_X11_greet : zMok M_X11_greet 2 := ⟨zT_in (zmt6 (List.mem_of_getElem? (i := 37) rfl)) rfl, zT_in (zmt1 (List.mem_of_getElem? (i := 1) rfl)) rfl, by decide +kernel, by decide⟩
theorem ok_X11_group : zMok M_X11_group 1 := ⟨zT_in (zmt4 (List.mem_of_getElem? (i := 57) rfl)) rfl, zT_in (zmt1 (List.mem_of_getElem? (i := 1) rfl)) rfl, by decide +kernel, by decide⟩
theorem ok_X11_has : zMok M_X11_has 2 := ⟨zT_in (zmt3 (List.mem_of_getElem? (i := 23) rfl)) rfl, zT_in (zmt1 (List.mem_of_getElem? (i := 1) rfl)) rfl, by decide +kernel, by decide⟩
theorem ok_X11_hold : zMok M_X11_hold 3 := ⟨zT_in (zmt5 (List.mem_of_getElem? (i := 205) rfl)) rfl, zT_in (zmt1 (List.mem_of_getElem? (i := 1) rfl)) rfl, by decide +kernel, by decide⟩
theorem ok_X11_holdsInUse : zMok M_X11_holdsInUse 0 := ⟨zT_in (zmt6 (List.mem_of_getElem? (i := 128) rfl)) rfl, zT_in (zmt1 (List.mem_of_getElem? (i := 1) rfl)) rfl, by decide +kernel, by decide⟩
theorem ok_X11_hops : zMok M_X11_hops 3 := ⟨zT_in (zmt3 (List.mem_of_getElem? (i := 185) rfl)) rfl, zT_in (zmt1 (List.mem_of_getElem? (i := 1) rfl)) rfl, by decide +kernel, by decide⟩
theorem ok_X11_init : zMok M_X11_init 0 := ⟨zT_in (zmt1 (List.mem_of_getElem? (i := 23) rfl)) rfl, zT_in (zmt1 (List.mem_of_getElem? (i := 1) rfl)) rfl, by decide +kernel, by decide⟩
theorem ok_X11_isHoldEmpty : zMok M_X11_isHoldEmpty 1 := ⟨zT_in (zmt5 (List.mem_of_getElem? (i := 213) rfl)) rfl, zT_in (zmt1 (List.mem_of_getElem? (i := 1) rfl)) rfl, by decide +kernel, by decide⟩
theorem ok_X11_isSpan : zMok M_X11_isSpan 2 := ⟨zT_in (zmt3 (List.mem_of_getElem? (i := 106) rfl)) rfl, zT_in (zmt1 (List.mem_of_getElem? (i := 1) rfl)) rfl, by decide +kernel, by decide⟩
theorem ok_X11_isSpent : zMok M_X11_isSpent 1 := ⟨zT_in (zmt4 (List.mem_of_getElem? (i := 90) rfl)) rfl, zT_in (zmt1 (List.mem_of_getElem? (i := 1) rfl)) rfl, by decide +kernel, by decide⟩
theorem ok_X11_isTold : zMok M_X11_isTold 3 := ⟨zT_in (zmt3 (List.mem_of_getElem? (i := 196) rfl)) rfl, zT_in (zmt1 (List.mem_of_getElem? (i := 1) rfl)) rfl, by decide +kernel, by decide⟩
theorem ok_X11_keep : zMok M_X11_keep 1 := ⟨zT_in (zmt5 (List.mem_of_getElem? (i := 193) rfl)) rfl, zT_in (zmt1 (List.mem_of_getElem? (i := 1) rfl)) rfl, by decide +kernel, by decide⟩
theorem ok_X11_keeps : zMok M_X11_keeps 3 := ⟨zT_in (zmt4 (List.mem_of_getElem? (i := 44) rfl)) rfl, zT_in (zmt1 (List.mem_of_getElem? (i := 1) rfl)) rfl, by decide +kernel, by decide⟩
theorem ok_X11_lay : zMok M_X11_lay 3 := ⟨zT_in (zmt6 (List.mem_of_getElem? (i := 88) rfl)) rfl, zT_in (zmt1 (List.mem_of_getElem? (i := 1) rfl)) rfl, by decide +kernel, by decide⟩
theorem ok_X11_liars : zMok M_X11_liars 1 := ⟨zT_in (zmt5 (List.mem_of_getElem? (i := 170) rfl)) rfl, zT_in (zmt1 (List.mem_of_getElem? (i := 1) rfl)) rfl, by decide +kernel, by decide⟩
theorem ok_X11_lies : zMok M_X11_lies 1 := ⟨zT_in (zmt5 (List.mem_of_getElem? (i := 189) rfl)) rfl, zT_in (zmt1 (List.mem_of_getElem? (i := 1) rfl)) rfl, by decide +kernel, by decide⟩
theorem ok_X11_loose : zMok M_X11_loose 1 := ⟨zT_in (zmt5 (List.mem_of_getElem? (i := 209) rfl)) rfl, zT_in (zmt1 (List.mem_of_getElem? (i := 1) rfl)) rfl, by decide +kernel, by decide⟩
theorem ok_X11_lose : zMok M_X11_lose 1 := ⟨zT_in (zmt6 (List.mem_of_getElem? (i := 80) rfl)) rfl, zT_in (zmt1 (List.mem_of_getElem? (i := 1) rfl)) rfl, by decide +kernel, by decide⟩
theorem ok_X11_lowest : zMok M_X11_lowest 1 := ⟨zT_in (zmt3 (List.mem_of_getElem? (i := 140) rfl)) rfl, zT_in (zmt1 (List.mem_of_getElem? (i := 1) rfl)) rfl, by decide +kernel, by decide⟩
theorem ok_X11_makeReady : zMok M_X11_makeReady 0 := ⟨zT_in (zmt3 (List.mem_of_getElem? (i := 123) rfl)) rfl, zT_in (zmt1 (List.mem_of_getElem? (i := 1) rfl)) rfl, by decide +kernel, by decide⟩
theorem ok_X11_many : zMok M_X11_many 1 := ⟨zT_in (zmt6 (List.mem_of_getElem? (i := 115) rfl)) rfl, zT_in (zmt1 (List.mem_of_getElem? (i := 1) rfl)) rfl, by decide +kernel, by decide⟩
theorem ok_X11_measure : zMok M_X11_measure 5 := ⟨zT_in (zmt3 (List.mem_of_getElem? (i := 193) rfl)) rfl, zT_in (zmt1 (List.mem_of_getElem? (i := 1) rfl)) rfl, by decide +kernel, by decide⟩
theorem ok_X11_measures : zMok M_X11_measures 4 := ⟨zT_in (zmt4 (List.mem_of_getElem? (i := 13) rfl)) rfl, zT_in (zmt1 (List.mem_of_getElem? (i := 1) rfl)) rfl, by decide +kernel, by decide⟩
theorem ok_X11_measuresFrom : zMok M_X11_measuresFrom 3 := ⟨zT_in (zmt4 (List.mem_of_getElem? (i := 17) rfl)) rfl, zT_in (zmt1 (List.mem_of_getElem? (i := 1) rfl)) rfl, by decide +kernel, by decide⟩
theorem ok_X11_mover : zMok M_X11_mover 2 := ⟨zT_in (zmt5 (List.mem_of_getElem? (i := 99) rfl)) rfl, zT_in (zmt1 (List.mem_of_getElem? (i := 1) rfl)) rfl, by decide +kernel, by decide⟩
theorem ok_X11_narrowed : zMok M_X11_narrowed 0 := ⟨zT_in (zmt3 (List.mem_of_getElem? (i := 119) rfl)) rfl, zT_in (zmt1 (List.mem_of_getElem? (i := 1) rfl)) rfl, by decide +kernel, by decide⟩
theorem ok_X11_nth : zMok M_X11_nth 2 := ⟨zT_in (zmt4 (List.mem_of_getElem? (i := 151) rfl)) rfl, zT_in (zmt1 (List.mem_of_getElem? (i := 1) rfl)) rfl, by decide +kernel, by decide⟩
theorem ok_X11_placings : zMok M_X11_placings 1 := ⟨zT_in (zmt4 (List.mem_of_getElem? (i := 86) rfl)) rfl, zT_in (zmt1 (List.mem_of_getElem? (i := 1) rfl)) rfl, by decide +kernel, by decide⟩
theorem ok_X11_plan : zMok M_X11_plan 3 := ⟨zT_in (zmt3 (List.mem_of_getElem? (i := 27) rfl)) rfl, zT_in (zmt1 (List.mem_of_getElem? (i := 1) rfl)) rfl, by decide +kernel, by decide⟩
theorem ok_X11_planned : zMok M_X11_planned 2 := ⟨zT_in (zmt3 (List.mem_of_getElem? (i := 47) rfl)) rfl, zT_in (zmt1 (List.mem_of_getElem? (i := 1) rfl)) rfl, by decide +kernel, by decide⟩
theorem ok_X11_put : zMok M_X11_put 2 := ⟨zT_in (zmt4 (List.mem_of_getElem? (i := 227) rfl)) rfl, zT_in (zmt1 (List.mem_of_getElem? (i := 1) rfl)) rfl, by decide +kernel, by decide⟩
theorem ok_X11_quarrel : zMok M_X11_quarrel 0 := ⟨zT_in (zmt4 (List.mem_of_getElem? (i := 53) rfl)) rfl, zT_in (zmt1 (List.mem_of_getElem? (i := 1) rfl)) rfl, by decide +kernel, by decide⟩
theorem ok_X11_refusalOfBodies : zMok M_X11_refusalOfBodies 2 := ⟨zT_in (zmt5 (List.mem_of_getElem? (i := 229) rfl)) rfl, zT_in (zmt1 (List.mem_of_getElem? (i := 1) rfl)) rfl, by decide +kernel, by decide⟩
theorem ok_X11_refusalOfFlip : zMok M_X11_refusalOfFlip 2 := ⟨zT_in (zmt5 (List.mem_of_getElem? (i := 87) rfl)) rfl, zT_in (zmt1 (List.mem_of_getElem? (i := 1) rfl)) rfl, by decide +kernel, by decide⟩
theorem ok_X11_refusalOfFlips : zMok M_X11_refusalOfFlips 1 := ⟨zT_in (zmt5 (List.mem_of_getElem? (i := 17) rfl)) rfl, zT_in (zmt1 (List.mem_of_getElem? (i := 1) rfl)) rfl, by decide +kernel, by decide⟩
theorem ok_X11_refusalOfRow : zMok M_X11_refusalOfRow 2 := ⟨zT_in (zmt3 (List.mem_of_getElem? (i := 31) rfl)) rfl, zT_in (zmt1 (List.mem_of_getElem? (i := 1) rfl)) rfl, by decide +kernel, by decide⟩
theorem ok_X11_sheet : zMok M_X11_sheet 3 := ⟨zT_in (zmt6 (List.mem_of_getElem? (i := 69) rfl)) rfl, zT_in (zmt1 (List.mem_of_getElem? (i := 1) rfl)) rfl, by decide +kernel, by decide⟩
theorem ok_X11_sure : zMok M_X11_sure 1 := ⟨zT_in (zmt4 (List.mem_of_getElem? (i := 160) rfl)) rfl, zT_in (zmt1 (List.mem_of_getElem? (i := 1) rfl)) rfl, by decide +kernel, by decide⟩
theorem ok_X11_take : zMok M_X11_take 2 := ⟨zT_in (zmt4 (List.mem_of_getElem? (i := 231) rfl)) rfl, zT_in (zmt1 (List.mem_of_getElem? (i := 1) rfl)) rfl, by decide +kernel, by decide⟩
theorem ok_X11_tell : zMok M_X11_tell 2 := ⟨zT_in (zmt5 (List.mem_of_getElem? (i := 225) rfl)) rfl, zT_in (zmt1 (List.mem_of_getElem? (i := 1) rfl)) rfl, by decide +kernel, by decide⟩
theorem ok_X11_thing : zMok M_X11_thing 2 := ⟨zT_in (zmt3 (List.mem_of_getElem? (i := 58) rfl)) rfl, zT_in (zmt1 (List.mem_of_getElem? (i := 1) rfl)) rfl, by decide +kernel, by decide⟩
theorem ok_X11_tick : zMok M_X11_tick 2 := ⟨zT_in (zmt5 (List.mem_of_getElem? (i := 109) rfl)) rfl, zT_in (zmt1 (List.mem_of_getElem? (i := 1) rfl)) rfl, by decide +kernel, by decide⟩
theorem ok_X11_together : zMok M_X11_together 4 := ⟨zT_in (zmt4 (List.mem_of_getElem? (i := 182) rfl)) rfl, zT_in (zmt1 (List.mem_of_getElem? (i := 1) rfl)) rfl, by decide +kernel, by decide⟩
theorem ok_X11_told : zMok M_X11_told 2 := ⟨zT_in (zmt4 (List.mem_of_getElem? (i := 30) rfl)) rfl, zT_in (zmt1 (List.mem_of_getElem? (i := 1) rfl)) rfl, by decide +kernel, by decide⟩
theorem ok_X11_trace : zMok M_X11_trace 0 := ⟨zT_in (zmt6 (List.mem_of_getElem? (i := 107) rfl)) rfl, zT_in (zmt1 (List.mem_of_getElem? (i := 1) rfl)) rfl, by decide +kernel, by decide⟩
theorem ok_X11_trials : zMok M_X11_trials 0 := ⟨zT_in (zmt4 (List.mem_of_getElem? (i := 147) rfl)) rfl, zT_in (zmt1 (List.mem_of_getElem? (i := 1) rfl)) rfl, by decide +kernel, by decide⟩
theorem ok_X11_trust : zMok M_X11_trust 2 := ⟨zT_in (zmt5 (List.mem_of_getElem? (i := 162) rfl)) rfl, zT_in (zmt1 (List.mem_of_getElem? (i := 1) rfl)) rfl, by decide +kernel, by decide⟩
theorem ok_X11_turn : zMok M_X11_turn 2 := ⟨zT_in (zmt4 (List.mem_of_getElem? (i := 22) rfl)) rfl, zT_in (zmt1 (List.mem_of_getElem? (i := 1) rfl)) rfl, by decide +kernel, by decide⟩
theorem ok_X11_wall : zMok M_X11_wall 2 := ⟨zT_in (zmt3 (List.mem_of_getElem? (i := 6) rfl)) rfl, zT_in (zmt1 (List.mem_of_getElem? (i := 1) rfl)) rfl, by decide +kernel, by decide⟩
theorem ok_X11_wallsChanged : zMok M_X11_wallsChanged 0 := ⟨zT_in (zmt2 (List.mem_of_getElem? (i := 222) rfl)) rfl, zT_in (zmt1 (List.mem_of_getElem? (i := 1) rfl)) rfl, by decide +kernel, by decide⟩
theorem ok_X11_way : zMok M_X11_way 3 := ⟨zT_in (zmt5 (List.mem_of_getElem? (i := 149) rfl)) rfl, zT_in (zmt1 (List.mem_of_getElem? (i := 1) rfl)) rfl, by decide +kernel, by decide⟩
theorem ok_X11_ways : zMok M_X11_ways 1 := ⟨zT_in (zmt5 (List.mem_of_getElem? (i := 121) rfl)) rfl, zT_in (zmt1 (List.mem_of_getElem? (i := 1) rfl)) rfl, by decide +kernel, by decide⟩
theorem ok_X11_within : zMok M_X11_within 3 := ⟨zT_in (zmt2 (List.mem_of_getElem? (i := 217) rfl)) rfl, zT_in (zmt1 (List.mem_of_getElem? (i := 1) rfl)) rfl, by decide +kernel, by decide⟩
theorem ok_X12_about : zMok M_X12_about 2 := ⟨zT_in (zmt7 (List.mem_of_getElem? (i := 229) rfl)) rfl, zT_in (zmt1 (List.mem_of_getElem? (i := 12) rfl)) rfl, by decide +kernel, by decide⟩
theorem ok_X12_addMeasure : zMok M_X12_addMeasure 5 := ⟨zT_in (zmt8 (List.mem_of_getElem? (i := 68) rfl)) rfl, zT_in (zmt1 (List.mem_of_getElem? (i := 12) rfl)) rfl, by decide +kernel, by decide⟩
theorem ok_X12_addThing : zMok M_X12_addThing 4 := ⟨zT_in (zmt7 (List.mem_of_getElem? (i := 209) rfl)) rfl, zT_in (zmt1 (List.mem_of_getElem? (i := 12) rfl)) rfl, by decide +kernel, by decide⟩
theorem ok_X12_alone : zMok M_X12_alone 1 := ⟨zT_in (zmt8 (List.mem_of_getElem? (i := 110) rfl)) rfl, zT_in (zmt1 (List.mem_of_getElem? (i := 12) rfl)) rfl, by decide +kernel, by decide⟩
theorem ok_X12_as : zMok M_X12_as 2 := ⟨zT_in (zmt9 (List.mem_of_getElem? (i := 101) rfl)) rfl, zT_in (zmt1 (List.mem_of_getElem? (i := 12) rfl)) rfl, by decide +kernel, by decide⟩
theorem ok_X12_asNumber : zMok M_X12_asNumber 1 := ⟨zT_in (zmt9 (List.mem_of_getElem? (i := 82) rfl)) rfl, zT_in (zmt1 (List.mem_of_getElem? (i := 12) rfl)) rfl, by decide +kernel, by decide⟩
theorem ok_X12_ask : zMok M_X12_ask 2 := ⟨zT_in (zmt8 (List.mem_of_getElem? (i := 172) rfl)) rfl, zT_in (zmt1 (List.mem_of_getElem? (i := 12) rfl)) rfl, by decide +kernel, by decide⟩
theorem ok_X12_back : zMok M_X12_back 1 := ⟨zT_in (zmt9 (List.mem_of_getElem? (i := 86) rfl)) rfl, zT_in (zmt1 (List.mem_of_getElem? (i := 12) rfl)) rfl, by decide +kernel, by decide⟩
theorem ok_X12_between : zMok M_X12_between 2 := ⟨zT_in (zmt8 (List.mem_of_getElem? (i := 179) rfl)) rfl, zT_in (zmt1 (List.mem_of_getElem? (i := 12) rfl)) rfl, by decide +kernel, by decide⟩
theorem ok_X12_box : zMok M_X12_box 5 := ⟨zT_in (zmt7 (List.mem_of_getElem? (i := 213) rfl)) rfl, zT_in (zmt1 (List.mem_of_getElem? (i := 12) rfl)) rfl, by decide +kernel, by decide⟩
theorem ok_X12_can : zMok M_X12_can 3 := ⟨zT_in (zmt8 (List.mem_of_getElem? (i := 47) rfl)) rfl, zT_in (zmt1 (List.mem_of_getElem? (i := 12) rfl)) rfl, by decide +kernel, by decide⟩
theorem ok_X12_cell : zMok M_X12_cell 3 := ⟨zT_in (zmt9 (List.mem_of_getElem? (i := 157) rfl)) rfl, zT_in (zmt1 (List.mem_of_getElem? (i := 12) rfl)) rfl, by decide +kernel, by decide⟩
theorem ok_X12_cellThen : zMok M_X12_cellThen 1 := ⟨zT_in (zmt8 (List.mem_of_getElem? (i := 239) rfl)) rfl, zT_in (zmt1 (List.mem_of_getElem? (i := 12) rfl)) rfl, by decide +kernel, by decide⟩
theorem ok_X12_cells : zMok M_X12_cells 1 := ⟨zT_in (zmt8 (List.mem_of_getElem? (i := 51) rfl)) rfl, zT_in (zmt1 (List.mem_of_getElem? (i := 12) rfl)) rfl, by decide +kernel, by decide⟩
theorem ok_X12_cellsHad : zMok M_X12_cellsHad 1 := ⟨zT_in (zmt8 (List.mem_of_getElem? (i := 164) rfl)) rfl, zT_in (zmt1 (List.mem_of_getElem? (i := 12) rfl)) rfl, by decide +kernel, by decide⟩
theorem ok_X12_check : zMok M_X12_check 0 := ⟨zT_in (zmt8 (List.mem_of_getElem? (i := 191) rfl)) rfl, zT_in (zmt1 (List.mem_of_getElem? (i := 12) rfl)) rfl, by decide +kernel, by decide⟩
theorem ok_X12_copy : zMok M_X12_copy 5 := ⟨zT_in (zmt9 (List.mem_of_getElem? (i := 165) rfl)) rfl, zT_in (zmt1 (List.mem_of_getElem? (i := 12) rfl)) rfl, by decide +kernel, by decide⟩
theorem ok_X12_could : zMok M_X12_could 1 := ⟨zT_in (zmt8 (List.mem_of_getElem? (i := 160) rfl)) rfl, zT_in (zmt1 (List.mem_of_getElem? (i := 12) rfl)) rfl, by decide +kernel, by decide⟩
theorem ok_X12_count : zMok M_X12_count 1 := ⟨zT_in (zmt7 (List.mem_of_getElem? (i := 225) rfl)) rfl, zT_in (zmt1 (List.mem_of_getElem? (i := 12) rfl)) rfl, by decide +kernel, by decide⟩
theorem ok_X12_countSet : zMok M_X12_countSet 2 := ⟨zT_in (zmt9 (List.mem_of_getElem? (i := 67) rfl)) rfl, zT_in (zmt1 (List.mem_of_getElem? (i := 12) rfl)) rfl, by decide +kernel, by decide⟩
theorem ok_X12_counted : zMok M_X12_counted 1 := ⟨zT_in (zmt9 (List.mem_of_getElem? (i := 181) rfl)) rfl, zT_in (zmt1 (List.mem_of_getElem? (i := 12) rfl)) rfl, by decide +kernel, by decide⟩
theorem ok_X12_differs : zMok M_X12_differs 2 := ⟨zT_in (zmt8 (List.mem_of_getElem? (i := 36) rfl)) rfl, zT_in (zmt1 (List.mem_of_getElem? (i := 12) rfl)) rfl, by decide +kernel, by decide⟩
theorem ok_X12_distance : zMok M_X12_distance 2 := ⟨zT_in (zmt8 (List.mem_of_getElem? (i := 16) rfl)) rfl, zT_in (zmt1 (List.mem_of_getElem? (i := 12) rfl)) rfl, by decide +kernel, by decide⟩
theorem ok_X12_failed : zMok M_X12_failed 1 := ⟨zT_in (zmt7 (List.mem_of_getElem? (i := 189) rfl)) rfl, zT_in (zmt1 (List.mem_of_getElem? (i := 12) rfl)) rfl, by decide +kernel, by decide⟩
theorem ok_X12_failedLong : zMok M_X12_failedLong 1 := ⟨zT_in (zmt9 (List.mem_of_getElem? (i := 161) rfl)) rfl, zT_in (zmt1 (List.mem_of_getElem? (i := 12) rfl)) rfl, by decide +kernel, by decide⟩
theorem ok_X12_fault : zMok M_X12_fault 0 := ⟨zT_in (zmt9 (List.mem_of_getElem? (i := 173) rfl)) rfl, zT_in (zmt1 (List.mem_of_getElem? (i := 12) rfl)) rfl, by decide +kernel, by decide⟩
theorem ok_X12_faultOf : zMok M_X12_faultOf 2 := ⟨zT_in (zmt9 (List.mem_of_getElem? (i := 113) rfl)) rfl, zT_in (zmt1 (List.mem_of_getElem? (i := 12) rfl)) rfl, by decide +kernel, by decide⟩
theorem ok_X12_field : zMok M_X12_field 2 := ⟨zT_in (zmt7 (List.mem_of_getElem? (i := 148) rfl)) rfl, zT_in (zmt1 (List.mem_of_getElem? (i := 12) rfl)) rfl, by decide +kernel, by decide⟩
theorem ok_X12_findNarrowed : zMok M_X12_findNarrowed 0 := ⟨zT_in (zmt7 (List.mem_of_getElem? (i := 233) rfl)) rfl, zT_in (zmt1 (List.mem_of_getElem? (i := 12) rfl)) rfl, by decide +kernel, by decide⟩
theorem ok_X12_firstOf : zMok M_X12_firstOf 1 := ⟨zT_in (zmt8 (List.mem_of_getElem? (i := 39) rfl)) rfl, zT_in (zmt1 (List.mem_of_getElem? (i := 12) rfl)) rfl, by decide +kernel, by decide⟩
theorem ok_X12_flip : zMok M_X12_flip 3 := ⟨zT_in (zmt9 (List.mem_of_getElem? (i := 7) rfl)) rfl, zT_in (zmt1 (List.mem_of_getElem? (i := 12) rfl)) rfl, by decide +kernel, by decide⟩
theorem ok_X12_flipped : zMok M_X12_flipped 2 := ⟨zT_in (zmt9 (List.mem_of_getElem? (i := 15) rfl)) rfl, zT_in (zmt1 (List.mem_of_getElem? (i := 12) rfl)) rfl, by decide +kernel, by decide⟩
theorem ok_X12_flips : zMok M_X12_flips 1 := ⟨zT_in (zmt8 (List.mem_of_getElem? (i := 199) rfl)) rfl, zT_in (zmt1 (List.mem_of_getElem? (i := 12) rfl)) rfl, by decide +kernel, by decide⟩
theorem ok_X12_freeCells : zMok M_X12_freeCells 0 := ⟨zT_in (zmt7 (List.mem_of_getElem? (i := 196) rfl)) rfl, zT_in (zmt1 (List.mem_of_getElem? (i := 12) rfl)) rfl, by decide +kernel, by decide⟩
theorem ok_X12_goThroughFlips : zMok M_X12_goThroughFlips 2 := ⟨zT_in (zmt8 (List.mem_of_getElem? (i := 207) rfl)) rfl, zT_in (zmt1 (List.mem_of_getElem? (i := 12) rfl)) rfl, by decide +kernel, by decide⟩
theorem ok_X12_greater : zMok M_X12_greater 2 := ⟨zT_in (zmt8 (List.mem_of_getElem? (i := 175) rfl)) rfl, zT_in (zmt1 (List.mem_of_getElem? (i := 12) rfl)) rfl, by decide +kernel, by decide⟩
theorem ok_X12_greet : zMok M_X12_greet 2 := ⟨zT_in (zmt9 (List.mem_of_getElem? (i := 129) rfl)) rfl, zT_in (zmt1 (List.mem_of_getElem? (i := 12) rfl)) rfl, by decide +kernel, by decide⟩
theorem ok_X12_greetThing : zMok M_X12_greetThing 1 := ⟨zT_in (zmt9 (List.mem_of_getElem? (i := 133) rfl)) rfl, zT_in (zmt1 (List.mem_of_getElem? (i := 12) rfl)) rfl, by decide +kernel, by decide⟩
theorem ok_X12_group : zMok M_X12_group 1 := ⟨zT_in (zmt8 (List.mem_of_getElem? (i := 102) rfl)) rfl, zT_in (zmt1 (List.mem_of_getElem? (i := 12) rfl)) rfl, by decide +kernel, by decide⟩
theorem ok_X12_groupOf : zMok M_X12_groupOf 1 := ⟨zT_in (zmt8 (List.mem_of_getElem? (i := 106) rfl)) rfl, zT_in (zmt1 (List.mem_of_getElem? (i := 12) rfl)) rfl, by decide +kernel, by decide⟩
theorem ok_X12_hasBit : zMok M_X12_hasBit 2 := ⟨zT_in (zmt8 (List.mem_of_getElem? (i := 33) rfl)) rfl, zT_in (zmt1 (List.mem_of_getElem? (i := 12) rfl)) rfl, by decide +kernel, by decide⟩
theorem ok_X12_hasLesserThere : zMok M_X12_hasLesserThere 1 := ⟨zT_in (zmt8 (List.mem_of_getElem? (i := 195) rfl)) rfl, zT_in (zmt1 (List.mem_of_getElem? (i := 12) rfl)) rfl, by decide +kernel, by decide⟩
theorem ok_X12_hold : zMok M_X12_hold 3 := ⟨zT_in (zmt9 (List.mem_of_getElem? (i := 90) rfl)) rfl, zT_in (zmt1 (List.mem_of_getElem? (i := 12) rfl)) rfl, by decide +kernel, by decide⟩
theorem ok_X12_hopFrom : zMok M_X12_hopFrom 2 := ⟨zT_in (zmt8 (List.mem_of_getElem? (i := 13) rfl)) rfl, zT_in (zmt1 (List.mem_of_getElem? (i := 12) rfl)) rfl, by decide +kernel, by decide⟩
theorem ok_X12_hops : zMok M_X12_hops 3 := ⟨zT_in (zmt8 (List.mem_of_getElem? (i := 55) rfl)) rfl, zT_in (zmt1 (List.mem_of_getElem? (i := 12) rfl)) rfl, by decide +kernel, by decide⟩
theorem ok_X12_in : zMok M_X12_in 3 := ⟨zT_in (zmt7 (List.mem_of_getElem? (i := 152) rfl)) rfl, zT_in (zmt1 (List.mem_of_getElem? (i := 12) rfl)) rfl, by decide +kernel, by decide⟩
theorem ok_X12_init : zMok M_X12_init 0 := ⟨zT_in (zmt6 (List.mem_of_getElem? (i := 133) rfl)) rfl, zT_in (zmt1 (List.mem_of_getElem? (i := 12) rfl)) rfl, by decide +kernel, by decide⟩
theorem ok_X12_isAnchorAt : zMok M_X12_isAnchorAt 1 := ⟨zT_in (zmt7 (List.mem_of_getElem? (i := 173) rfl)) rfl, zT_in (zmt1 (List.mem_of_getElem? (i := 12) rfl)) rfl, by decide +kernel, by decide⟩
theorem ok_X12_isBeyond : zMok M_X12_isBeyond 3 := ⟨zT_in (zmt7 (List.mem_of_getElem? (i := 192) rfl)) rfl, zT_in (zmt1 (List.mem_of_getElem? (i := 12) rfl)) rfl, by decide +kernel, by decide⟩
theorem ok_X12_isCell : zMok M_X12_isCell 1 := ⟨zT_in (zmt7 (List.mem_of_getElem? (i := 168) rfl)) rfl, zT_in (zmt1 (List.mem_of_getElem? (i := 12) rfl)) rfl, by decide +kernel, by decide⟩
theorem ok_X12_isFree : zMok M_X12_isFree 1 := ⟨zT_in (zmt7 (List.mem_of_getElem? (i := 200) rfl)) rfl, zT_in (zmt1 (List.mem_of_getElem? (i := 12) rfl)) rfl, by decide +kernel, by decide⟩
theorem ok_X12_isHinged : zMok M_X12_isHinged 0 := ⟨zT_in (zmt8 (List.mem_of_getElem? (i := 223) rfl)) rfl, zT_in (zmt1 (List.mem_of_getElem? (i := 12) rfl)) rfl, by decide +kernel, by decide⟩
theorem ok_X12_isJoint : zMok M_X12_isJoint 1 := ⟨zT_in (zmt8 (List.mem_of_getElem? (i := 227) rfl)) rfl, zT_in (zmt1 (List.mem_of_getElem? (i := 12) rfl)) rfl, by decide +kernel, by decide⟩
theorem ok_X12_isKept : zMok M_X12_isKept 3 := ⟨zT_in (zmt8 (List.mem_of_getElem? (i := 20) rfl)) rfl, zT_in (zmt1 (List.mem_of_getElem? (i := 12) rfl)) rfl, by decide +kernel, by decide⟩
theorem ok_X12_isMeasure : zMok M_X12_isMeasure 3 := ⟨zT_in (zmt8 (List.mem_of_getElem? (i := 63) rfl)) rfl, zT_in (zmt1 (List.mem_of_getElem? (i := 12) rfl)) rfl, by decide +kernel, by decide⟩
theorem ok_X12_isOnSide : zMok M_X12_isOnSide 3 := ⟨zT_in (zmt8 (List.mem_of_getElem? (i := 23) rfl)) rfl, zT_in (zmt1 (List.mem_of_getElem? (i := 12) rfl)) rfl, by decide +kernel, by decide⟩
theorem ok_X12_isOtherAnchorAt : zMok M_X12_isOtherAnchorAt 1 := ⟨zT_in (zmt8 (List.mem_of_getElem? (i := 136) rfl)) rfl, zT_in (zmt1 (List.mem_of_getElem? (i := 12) rfl)) rfl, by decide +kernel, by decide⟩
theorem ok_X12_isPlaced : zMok M_X12_isPlaced 1 := ⟨zT_in (zmt8 (List.mem_of_getElem? (i := 203) rfl)) rfl, zT_in (zmt1 (List.mem_of_getElem? (i := 12) rfl)) rfl, by decide +kernel, by decide⟩
theorem ok_X12_isQuietWithout : zMok M_X12_isQuietWithout 2 := ⟨zT_in (zmt9 (List.mem_of_getElem? (i := 63) rfl)) rfl, zT_in (zmt1 (List.mem_of_getElem? (i := 12) rfl)) rfl, by decide +kernel, by decide⟩
theorem ok_X12_isTaken : zMok M_X12_isTaken 2 := ⟨zT_in (zmt9 (List.mem_of_getElem? (i := 105) rfl)) rfl, zT_in (zmt1 (List.mem_of_getElem? (i := 12) rfl)) rfl, by decide +kernel, by decide⟩
theorem ok_X12_judge : zMok M_X12_judge 0 := ⟨zT_in (zmt8 (List.mem_of_getElem? (i := 94) rfl)) rfl, zT_in (zmt1 (List.mem_of_getElem? (i := 12) rfl)) rfl, by decide +kernel, by decide⟩
theorem ok_X12_keep : zMok M_X12_keep 1 := ⟨zT_in (zmt9 (List.mem_of_getElem? (i := 79) rfl)) rfl, zT_in (zmt1 (List.mem_of_getElem? (i := 12) rfl)) rfl, by decide +kernel, by decide⟩
theorem ok_X12_keepFlip : zMok M_X12_keepFlip 1 := ⟨zT_in (zmt9 (List.mem_of_getElem? (i := 3) rfl)) rfl, zT_in (zmt1 (List.mem_of_getElem? (i := 12) rfl)) rfl, by decide +kernel, by decide⟩
theorem ok_X12_keeps : zMok M_X12_keeps 3 := ⟨zT_in (zmt8 (List.mem_of_getElem? (i := 86) rfl)) rfl, zT_in (zmt1 (List.mem_of_getElem? (i := 12) rfl)) rfl, by decide +kernel, by decide⟩
theorem ok_X12_lay : zMok M_X12_lay 3 := ⟨zT_in (zmt9 (List.mem_of_getElem? (i := 149) rfl)) rfl, zT_in (zmt1 (List.mem_of_getElem? (i := 12) rfl)) rfl, by decide +kernel, by decide⟩
theorem ok_X12_layAll : zMok M_X12_layAll 0 := ⟨zT_in (zmt8 (List.mem_of_getElem? (i := 5) rfl)) rfl, zT_in (zmt1 (List.mem_of_getElem? (i := 12) rfl)) rfl, by decide +kernel, by decide⟩
theorem ok_X12_layMeasure : zMok M_X12_layMeasure 1 := ⟨zT_in (zmt8 (List.mem_of_getElem? (i := 9) rfl)) rfl, zT_in (zmt1 (List.mem_of_getElem? (i := 12) rfl)) rfl, by decide +kernel, by decide⟩
theorem ok_X12_layPairs : zMok M_X12_layPairs 0 := ⟨zT_in (zmt8 (List.mem_of_getElem? (i := 126) rfl)) rfl, zT_in (zmt1 (List.mem_of_getElem? (i := 12) rfl)) rfl, by decide +kernel, by decide⟩
theorem ok_X12_layWays : zMok M_X12_layWays 1 := ⟨zT_in (zmt9 (List.mem_of_getElem? (i := 39) rfl)) rfl, zT_in (zmt1 (List.mem_of_getElem? (i := 12) rfl)) rfl, by decide +kernel, by decide⟩
theorem ok_X12_liars : zMok M_X12_liars 1 := ⟨zT_in (zmt9 (List.mem_of_getElem? (i := 55) rfl)) rfl, zT_in (zmt1 (List.mem_of_getElem? (i := 12) rfl)) rfl, by decide +kernel, by decide⟩
theorem ok_X12_lies : zMok M_X12_lies 1 := ⟨zT_in (zmt9 (List.mem_of_getElem? (i := 75) rfl)) rfl, zT_in (zmt1 (List.mem_of_getElem? (i := 12) rfl)) rfl, by decide +kernel, by decide⟩
theorem ok_X12_loose : zMok M_X12_loose 1 := ⟨zT_in (zmt9 (List.mem_of_getElem? (i := 97) rfl)) rfl, zT_in (zmt1 (List.mem_of_getElem? (i := 12) rfl)) rfl, by decide +kernel, by decide⟩
theorem ok_X12_lose : zMok M_X12_lose 1 := ⟨zT_in (zmt9 (List.mem_of_getElem? (i := 145) rfl)) rfl, zT_in (zmt1 (List.mem_of_getElem? (i := 12) rfl)) rfl, by decide +kernel, by decide⟩
theorem ok_X12_lost : zMok M_X12_lost 0 := ⟨zT_in (zmt9 (List.mem_of_getElem? (i := 42) rfl)) rfl, zT_in (zmt1 (List.mem_of_getElem? (i := 12) rfl)) rfl, by decide +kernel, by decide⟩
theorem ok_X12_many : zMok M_X12_many 1 := ⟨zT_in (zmt9 (List.mem_of_getElem? (i := 177) rfl)) rfl, zT_in (zmt1 (List.mem_of_getElem? (i := 12) rfl)) rfl, by decide +kernel, by decide⟩
theorem ok_X12_mayBeJoint : zMok M_X12_mayBeJoint 1 := ⟨zT_in (zmt8 (List.mem_of_getElem? (i := 211) rfl)) rfl, zT_in (zmt1 (List.mem_of_getElem? (i := 12) rfl)) rfl, by decide +kernel, by decide⟩
theorem ok_X12_mayLie : zMok M_X12_mayLie 1 := ⟨zT_in (zmt9 (List.mem_of_getElem? (i := 71) rfl)) rfl, zT_in (zmt1 (List.mem_of_getElem? (i := 12) rfl)) rfl, by decide +kernel, by decide⟩
theorem ok_X12_measure : zMok M_X12_measure 5 := ⟨zT_in (zmt8 (List.mem_of_getElem? (i := 60) rfl)) rfl, zT_in (zmt1 (List.mem_of_getElem? (i := 12) rfl)) rfl, by decide +kernel, by decide⟩
theorem ok_X12_measures : zMok M_X12_measures 4 := ⟨zT_in (zmt8 (List.mem_of_getElem? (i := 72) rfl)) rfl, zT_in (zmt1 (List.mem_of_getElem? (i := 12) rfl)) rfl, by decide +kernel, by decide⟩
theorem ok_X12_mover : zMok M_X12_mover 2 := ⟨zT_in (zmt9 (List.mem_of_getElem? (i := 19) rfl)) rfl, zT_in (zmt1 (List.mem_of_getElem? (i := 12) rfl)) rfl, by decide +kernel, by decide⟩
theorem ok_X12_movesBy : zMok M_X12_movesBy 0 := ⟨zT_in (zmt8 (List.mem_of_getElem? (i := 231) rfl)) rfl, zT_in (zmt1 (List.mem_of_getElem? (i := 12) rfl)) rfl, by decide +kernel, by decide⟩
theorem ok_X12_narrow : zMok M_X12_narrow 0 := ⟨zT_in (zmt8 (List.mem_of_getElem? (i := 1) rfl)) rfl, zT_in (zmt1 (List.mem_of_getElem? (i := 12) rfl)) rfl, by decide +kernel, by decide⟩
theorem ok_X12_narrowOne : zMok M_X12_narrowOne 1 := ⟨zT_in (zmt8 (List.mem_of_getElem? (i := 30) rfl)) rfl, zT_in (zmt1 (List.mem_of_getElem? (i := 12) rfl)) rfl, by decide +kernel, by decide⟩
theorem ok_X12_noCell : zMok M_X12_noCell 2 := ⟨zT_in (zmt9 (List.mem_of_getElem? (i := 153) rfl)) rfl, zT_in (zmt1 (List.mem_of_getElem? (i := 12) rfl)) rfl, by decide +kernel, by decide⟩
theorem ok_X12_noHold : zMok M_X12_noHold 1 := ⟨zT_in (zmt9 (List.mem_of_getElem? (i := 93) rfl)) rfl, zT_in (zmt1 (List.mem_of_getElem? (i := 12) rfl)) rfl, by decide +kernel, by decide⟩
theorem ok_X12_noMeasure : zMok M_X12_noMeasure 1 := ⟨zT_in (zmt8 (List.mem_of_getElem? (i := 82) rfl)) rfl, zT_in (zmt1 (List.mem_of_getElem? (i := 12) rfl)) rfl, by decide +kernel, by decide⟩
theorem ok_X12_noSheet : zMok M_X12_noSheet 1 := ⟨zT_in (zmt7 (List.mem_of_getElem? (i := 180) rfl)) rfl, zT_in (zmt1 (List.mem_of_getElem? (i := 12) rfl)) rfl, by decide +kernel, by decide⟩
theorem ok_X12_noThing : zMok M_X12_noThing 1 := ⟨zT_in (zmt7 (List.mem_of_getElem? (i := 217) rfl)) rfl, zT_in (zmt1 (List.mem_of_getElem? (i := 12) rfl)) rfl, by decide +kernel, by decide⟩
theorem ok_X12_noTick : zMok M_X12_noTick 2 := ⟨zT_in (zmt9 (List.mem_of_getElem? (i := 27) rfl)) rfl, zT_in (zmt1 (List.mem_of_getElem? (i := 12) rfl)) rfl, by decide +kernel, by decide⟩
theorem ok_X12_nth : zMok M_X12_nth 2 := ⟨zT_in (zmt8 (List.mem_of_getElem? (i := 148) rfl)) rfl, zT_in (zmt1 (List.mem_of_getElem? (i := 12) rfl)) rfl, by decide +kernel, by decide⟩
theorem ok_X12_onOf : zMok M_X12_onOf 1 := ⟨zT_in (zmt8 (List.mem_of_getElem? (i := 43) rfl)) rfl, zT_in (zmt1 (List.mem_of_getElem? (i := 12) rfl)) rfl, by decide +kernel, by decide⟩
theorem ok_X12_other : zMok M_X12_other 0 := ⟨zT_in (zmt7 (List.mem_of_getElem? (i := 160) rfl)) rfl, zT_in (zmt1 (List.mem_of_getElem? (i := 12) rfl)) rfl, by decide +kernel, by decide⟩
theorem ok_X12_otherField : zMok M_X12_otherField 0 := ⟨zT_in (zmt7 (List.mem_of_getElem? (i := 156) rfl)) rfl, zT_in (zmt1 (List.mem_of_getElem? (i := 12) rfl)) rfl, by decide +kernel, by decide⟩
theorem ok_X12_partOf : zMok M_X12_partOf 1 := ⟨zT_in (zmt8 (List.mem_of_getElem? (i := 219) rfl)) rfl, zT_in (zmt1 (List.mem_of_getElem? (i := 12) rfl)) rfl, by decide +kernel, by decide⟩
theorem ok_X12_placeOf : zMok M_X12_placeOf 1 := ⟨zT_in (zmt8 (List.mem_of_getElem? (i := 152) rfl)) rfl, zT_in (zmt1 (List.mem_of_getElem? (i := 12) rfl)) rfl, by decide +kernel, by decide⟩
theorem ok_X12_placings : zMok M_X12_placings 1 := ⟨zT_in (zmt8 (List.mem_of_getElem? (i := 114) rfl)) rfl, zT_in (zmt1 (List.mem_of_getElem? (i := 12) rfl)) rfl, by decide +kernel, by decide⟩
theorem ok_X12_plan : zMok M_X12_plan 3 := ⟨zT_in (zmt7 (List.mem_of_getElem? (i := 177) rfl)) rfl, zT_in (zmt1 (List.mem_of_getElem? (i := 12) rfl)) rfl, by decide +kernel, by decide⟩
theorem ok_X12_put : zMok M_X12_put 2 := ⟨zT_in (zmt8 (List.mem_of_getElem? (i := 183) rfl)) rfl, zT_in (zmt1 (List.mem_of_getElem? (i := 12) rfl)) rfl, by decide +kernel, by decide⟩
theorem ok_X12_quarrel : zMok M_X12_quarrel 0 := ⟨zT_in (zmt8 (List.mem_of_getElem? (i := 90) rfl)) rfl, zT_in (zmt1 (List.mem_of_getElem? (i := 12) rfl)) rfl, by decide +kernel, by decide⟩
theorem ok_X12_refused : zMok M_X12_refused 1 := ⟨zT_in (zmt7 (List.mem_of_getElem? (i := 185) rfl)) rfl, zT_in (zmt1 (List.mem_of_getElem? (i := 12) rfl)) rfl, by decide +kernel, by decide⟩
theorem ok_X12_search : zMok M_X12_search 1 := ⟨zT_in (zmt8 (List.mem_of_getElem? (i := 122) rfl)) rfl, zT_in (zmt1 (List.mem_of_getElem? (i := 12) rfl)) rfl, by decide +kernel, by decide⟩
theorem ok_X12_searchFor : zMok M_X12_searchFor 2 := ⟨zT_in (zmt8 (List.mem_of_getElem? (i := 118) rfl)) rfl, zT_in (zmt1 (List.mem_of_getElem? (i := 12) rfl)) rfl, by decide +kernel, by decide⟩
theorem ok_X12_seek : zMok M_X12_seek 2 := ⟨zT_in (zmt9 (List.mem_of_getElem? (i := 11) rfl)) rfl, zT_in (zmt1 (List.mem_of_getElem? (i := 12) rfl)) rfl, by decide +kernel, by decide⟩
theorem ok_X12_seekLiars : zMok M_X12_seekLiars 0 := ⟨zT_in (zmt9 (List.mem_of_getElem? (i := 59) rfl)) rfl, zT_in (zmt1 (List.mem_of_getElem? (i := 12) rfl)) rfl, by decide +kernel, by decide⟩
theorem ok_X12_sheet : zMok M_X12_sheet 3 := ⟨zT_in (zmt9 (List.mem_of_getElem? (i := 141) rfl)) rfl, zT_in (zmt1 (List.mem_of_getElem? (i := 12) rfl)) rfl, by decide +kernel, by decide⟩
theorem ok_X12_sizeOf : zMok M_X12_sizeOf 1 := ⟨zT_in (zmt8 (List.mem_of_getElem? (i := 26) rfl)) rfl, zT_in (zmt1 (List.mem_of_getElem? (i := 12) rfl)) rfl, by decide +kernel, by decide⟩
theorem ok_X12_stays : zMok M_X12_stays 1 := ⟨zT_in (zmt8 (List.mem_of_getElem? (i := 132) rfl)) rfl, zT_in (zmt1 (List.mem_of_getElem? (i := 12) rfl)) rfl, by decide +kernel, by decide⟩
theorem ok_X12_sure : zMok M_X12_sure 1 := ⟨zT_in (zmt8 (List.mem_of_getElem? (i := 156) rfl)) rfl, zT_in (zmt1 (List.mem_of_getElem? (i := 12) rfl)) rfl, by decide +kernel, by decide⟩
theorem ok_X12_take : zMok M_X12_take 2 := ⟨zT_in (zmt8 (List.mem_of_getElem? (i := 187) rfl)) rfl, zT_in (zmt1 (List.mem_of_getElem? (i := 12) rfl)) rfl, by decide +kernel, by decide⟩
theorem ok_X12_tally : zMok M_X12_tally 0 := ⟨zT_in (zmt8 (List.mem_of_getElem? (i := 140) rfl)) rfl, zT_in (zmt1 (List.mem_of_getElem? (i := 12) rfl)) rfl, by decide +kernel, by decide⟩
theorem ok_X12_tell : zMok M_X12_tell 2 := ⟨zT_in (zmt9 (List.mem_of_getElem? (i := 109) rfl)) rfl, zT_in (zmt1 (List.mem_of_getElem? (i := 12) rfl)) rfl, by decide +kernel, by decide⟩
theorem ok_X12_tellMeasure : zMok M_X12_tellMeasure 1 := ⟨zT_in (zmt9 (List.mem_of_getElem? (i := 125) rfl)) rfl, zT_in (zmt1 (List.mem_of_getElem? (i := 12) rfl)) rfl, by decide +kernel, by decide⟩
theorem ok_X12_tellThing : zMok M_X12_tellThing 1 := ⟨zT_in (zmt9 (List.mem_of_getElem? (i := 117) rfl)) rfl, zT_in (zmt1 (List.mem_of_getElem? (i := 12) rfl)) rfl, by decide +kernel, by decide⟩
theorem ok_X12_thing : zMok M_X12_thing 2 := ⟨zT_in (zmt7 (List.mem_of_getElem? (i := 204) rfl)) rfl, zT_in (zmt1 (List.mem_of_getElem? (i := 12) rfl)) rfl, by decide +kernel, by decide⟩
theorem ok_X12_tick : zMok M_X12_tick 2 := ⟨zT_in (zmt9 (List.mem_of_getElem? (i := 23) rfl)) rfl, zT_in (zmt1 (List.mem_of_getElem? (i := 12) rfl)) rfl, by decide +kernel, by decide⟩
theorem ok_X12_together : zMok M_X12_together 4 := ⟨zT_in (zmt8 (List.mem_of_getElem? (i := 168) rfl)) rfl, zT_in (zmt1 (List.mem_of_getElem? (i := 12) rfl)) rfl, by decide +kernel, by decide⟩
theorem ok_X12_told : zMok M_X12_told 2 := ⟨zT_in (zmt8 (List.mem_of_getElem? (i := 98) rfl)) rfl, zT_in (zmt1 (List.mem_of_getElem? (i := 12) rfl)) rfl, by decide +kernel, by decide⟩
theorem ok_X12_toldOf : zMok M_X12_toldOf 1 := ⟨zT_in (zmt7 (List.mem_of_getElem? (i := 222) rfl)) rfl, zT_in (zmt1 (List.mem_of_getElem? (i := 12) rfl)) rfl, by decide +kernel, by decide⟩
theorem ok_X12_trace : zMok M_X12_trace 0 := ⟨zT_in (zmt9 (List.mem_of_getElem? (i := 169) rfl)) rfl, zT_in (zmt1 (List.mem_of_getElem? (i := 12) rfl)) rfl, by decide +kernel, by decide⟩
theorem ok_X12_traced : zMok M_X12_traced 1 := ⟨zT_in (zmt9 (List.mem_of_getElem? (i := 121) rfl)) rfl, zT_in (zmt1 (List.mem_of_getElem? (i := 12) rfl)) rfl, by decide +kernel, by decide⟩
theorem ok_X12_trials : zMok M_X12_trials 0 := ⟨zT_in (zmt8 (List.mem_of_getElem? (i := 144) rfl)) rfl, zT_in (zmt1 (List.mem_of_getElem? (i := 12) rfl)) rfl, by decide +kernel, by decide⟩
theorem ok_X12_trust : zMok M_X12_trust 2 := ⟨zT_in (zmt9 (List.mem_of_getElem? (i := 51) rfl)) rfl, zT_in (zmt1 (List.mem_of_getElem? (i := 12) rfl)) rfl, by decide +kernel, by decide⟩
theorem ok_X12_tryJoints : zMok M_X12_tryJoints 0 := ⟨zT_in (zmt8 (List.mem_of_getElem? (i := 215) rfl)) rfl, zT_in (zmt1 (List.mem_of_getElem? (i := 12) rfl)) rfl, by decide +kernel, by decide⟩
theorem ok_X12_turn : zMok M_X12_turn 2 := ⟨zT_in (zmt8 (List.mem_of_getElem? (i := 78) rfl)) rfl, zT_in (zmt1 (List.mem_of_getElem? (i := 12) rfl)) rfl, by decide +kernel, by decide⟩
theorem ok_X12_turnedCell : zMok M_X12_turnedCell 1 := ⟨zT_in (zmt8 (List.mem_of_getElem? (i := 235) rfl)) rfl, zT_in (zmt1 (List.mem_of_getElem? (i := 12) rfl)) rfl, by decide +kernel, by decide⟩
theorem ok_X12_useAll : zMok M_X12_useAll 0 := ⟨zT_in (zmt7 (List.mem_of_getElem? (i := 237) rfl)) rfl, zT_in (zmt1 (List.mem_of_getElem? (i := 12) rfl)) rfl, by decide +kernel, by decide⟩
theorem ok_X12_wall : zMok M_X12_wall 2 := ⟨zT_in (zmt7 (List.mem_of_getElem? (i := 164) rfl)) rfl, zT_in (zmt1 (List.mem_of_getElem? (i := 12) rfl)) rfl, by decide +kernel, by decide⟩
theorem ok_X12_way : zMok M_X12_way 3 := ⟨zT_in (zmt9 (List.mem_of_getElem? (i := 47) rfl)) rfl, zT_in (zmt1 (List.mem_of_getElem? (i := 12) rfl)) rfl, by decide +kernel, by decide⟩
theorem ok_X12_ways : zMok M_X12_ways 1 := ⟨zT_in (zmt9 (List.mem_of_getElem? (i := 31) rfl)) rfl, zT_in (zmt1 (List.mem_of_getElem? (i := 12) rfl)) rfl, by decide +kernel, by decide⟩
theorem ok_X12_waysOf : zMok M_X12_waysOf 1 := ⟨zT_in (zmt9 (List.mem_of_getElem? (i := 35) rfl)) rfl, zT_in (zmt1 (List.mem_of_getElem? (i := 12) rfl)) rfl, by decide +kernel, by decide⟩
theorem ok_X12_weighMeasure : zMok M_X12_weighMeasure 1 := ⟨zT_in (zmt9 (List.mem_of_getElem? (i := 137) rfl)) rfl, zT_in (zmt1 (List.mem_of_getElem? (i := 12) rfl)) rfl, by decide +kernel, by decide⟩
theorem ok_X1_addMeasure : zMok M_X1_addMeasure 5 := ⟨zT_in (zmt3 (List.mem_of_getElem? (i := 200) rfl)) rfl, zT_in (zmt1 (List.mem_of_getElem? (i := 2) rfl)) rfl, by decide +kernel, by decide⟩
theorem ok_X1_addMover : zMok M_X1_addMover 2 := ⟨zT_in (zmt5 (List.mem_of_getElem? (i := 103) rfl)) rfl, zT_in (zmt1 (List.mem_of_getElem? (i := 2) rfl)) rfl, by decide +kernel, by decide⟩
theorem ok_X1_addThing : zMok M_X1_addThing 4 := ⟨zT_in (zmt3 (List.mem_of_getElem? (i := 62) rfl)) rfl, zT_in (zmt1 (List.mem_of_getElem? (i := 2) rfl)) rfl, by decide +kernel, by decide⟩
theorem ok_X1_anchorCells : zMok M_X1_anchorCells 0 := ⟨zT_in (zmt3 (List.mem_of_getElem? (i := 15) rfl)) rfl, zT_in (zmt1 (List.mem_of_getElem? (i := 2) rfl)) rfl, by decide +kernel, by decide⟩
theorem ok_X1_anchors : zMok M_X1_anchors 0 := ⟨zT_in (zmt4 (List.mem_of_getElem? (i := 73) rfl)) rfl, zT_in (zmt1 (List.mem_of_getElem? (i := 2) rfl)) rfl, by decide +kernel, by decide⟩
theorem ok_X1_around : zMok M_X1_around 1 := ⟨zT_in (zmt5 (List.mem_of_getElem? (i := 39) rfl)) rfl, zT_in (zmt1 (List.mem_of_getElem? (i := 2) rfl)) rfl, by decide +kernel, by decide⟩
theorem ok_X1_becomeLike : zMok M_X1_becomeLike 1 := ⟨zT_in (zmt5 (List.mem_of_getElem? (i := 197) rfl)) rfl, zT_in (zmt1 (List.mem_of_getElem? (i := 2) rfl)) rfl, by decide +kernel, by decide⟩
theorem ok_X1_clear : zMok M_X1_clear 2 := ⟨zT_in (zmt1 (List.mem_of_getElem? (i := 40) rfl)) rfl, zT_in (zmt1 (List.mem_of_getElem? (i := 2) rfl)) rfl, by decide +kernel, by decide⟩
theorem ok_X1_firstCrowded : zMok M_X1_firstCrowded 0 := ⟨zT_in (zmt5 (List.mem_of_getElem? (i := 4) rfl)) rfl, zT_in (zmt1 (List.mem_of_getElem? (i := 2) rfl)) rfl, by decide +kernel, by decide⟩
theorem ok_X1_firstUntold : zMok M_X1_firstUntold 0 := ⟨zT_in (zmt4 (List.mem_of_getElem? (i := 239) rfl)) rfl, zT_in (zmt1 (List.mem_of_getElem? (i := 2) rfl)) rfl, by decide +kernel, by decide⟩
theorem ok_X1_groupOf : zMok M_X1_groupOf 1 := ⟨zT_in (zmt4 (List.mem_of_getElem? (i := 61) rfl)) rfl, zT_in (zmt1 (List.mem_of_getElem? (i := 2) rfl)) rfl, by decide +kernel, by decide⟩
theorem ok_X1_init : zMok M_X1_init 0 := ⟨zT_in (zmt1 (List.mem_of_getElem? (i := 31) rfl)) rfl, zT_in (zmt1 (List.mem_of_getElem? (i := 2) rfl)) rfl, by decide +kernel, by decide⟩
theorem ok_X1_isCell : zMok M_X1_isCell 1 := ⟨zT_in (zmt3 (List.mem_of_getElem? (i := 10) rfl)) rfl, zT_in (zmt1 (List.mem_of_getElem? (i := 2) rfl)) rfl, by decide +kernel, by decide⟩
theorem ok_X1_isMeasure : zMok M_X1_isMeasure 1 := ⟨zT_in (zmt4 (List.mem_of_getElem? (i := 26) rfl)) rfl, zT_in (zmt1 (List.mem_of_getElem? (i := 2) rfl)) rfl, by decide +kernel, by decide⟩
theorem ok_X1_isMover : zMok M_X1_isMover 1 := ⟨zT_in (zmt5 (List.mem_of_getElem? (i := 117) rfl)) rfl, zT_in (zmt1 (List.mem_of_getElem? (i := 2) rfl)) rfl, by decide +kernel, by decide⟩
theorem ok_X1_isThing : zMok M_X1_isThing 1 := ⟨zT_in (zmt3 (List.mem_of_getElem? (i := 102) rfl)) rfl, zT_in (zmt1 (List.mem_of_getElem? (i := 2) rfl)) rfl, by decide +kernel, by decide⟩
theorem ok_X1_isTick : zMok M_X1_isTick 2 := ⟨zT_in (zmt5 (List.mem_of_getElem? (i := 113) rfl)) rfl, zT_in (zmt1 (List.mem_of_getElem? (i := 2) rfl)) rfl, by decide +kernel, by decide⟩
theorem ok_X1_link : zMok M_X1_link 0 := ⟨zT_in (zmt4 (List.mem_of_getElem? (i := 65) rfl)) rfl, zT_in (zmt1 (List.mem_of_getElem? (i := 2) rfl)) rfl, by decide +kernel, by decide⟩
theorem ok_X1_measuresOf : zMok M_X1_measuresOf 1 := ⟨zT_in (zmt3 (List.mem_of_getElem? (i := 173) rfl)) rfl, zT_in (zmt1 (List.mem_of_getElem? (i := 2) rfl)) rfl, by decide +kernel, by decide⟩
theorem ok_X1_spread : zMok M_X1_spread 2 := ⟨zT_in (zmt4 (List.mem_of_getElem? (i := 77) rfl)) rfl, zT_in (zmt1 (List.mem_of_getElem? (i := 2) rfl)) rfl, by decide +kernel, by decide⟩
theorem ok_X1_thingsOnMap : zMok M_X1_thingsOnMap 0 := ⟨zT_in (zmt5 (List.mem_of_getElem? (i := 21) rfl)) rfl, zT_in (zmt1 (List.mem_of_getElem? (i := 2) rfl)) rfl, by decide +kernel, by decide⟩
theorem ok_X1_toldCells : zMok M_X1_toldCells 1 := ⟨zT_in (zmt3 (List.mem_of_getElem? (i := 111) rfl)) rfl, zT_in (zmt1 (List.mem_of_getElem? (i := 2) rfl)) rfl, by decide +kernel, by decide⟩
theorem ok_X2_canTurn : zMok M_X2_canTurn 3 := ⟨zT_in (zmt5 (List.mem_of_getElem? (i := 60) rfl)) rfl, zT_in (zmt1 (List.mem_of_getElem? (i := 8) rfl)) rfl, by decide +kernel, by decide⟩
theorem ok_X2_cellAfter : zMok M_X2_cellAfter 2 := ⟨zT_in (zmt5 (List.mem_of_getElem? (i := 74) rfl)) rfl, zT_in (zmt1 (List.mem_of_getElem? (i := 8) rfl)) rfl, by decide +kernel, by decide⟩
theorem ok_X2_comeTo : zMok M_X2_comeTo 4 := ⟨zT_in (zmt5 (List.mem_of_getElem? (i := 79) rfl)) rfl, zT_in (zmt1 (List.mem_of_getElem? (i := 8) rfl)) rfl, by decide +kernel, by decide⟩
theorem ok_X2_init : zMok M_X2_init 2 := ⟨zT_in (zmt2 (List.mem_of_getElem? (i := 67) rfl)) rfl, zT_in (zmt1 (List.mem_of_getElem? (i := 8) rfl)) rfl, by decide +kernel, by decide⟩
theorem ok_X2_isAlone : zMok M_X2_isAlone 1 := ⟨zT_in (zmt5 (List.mem_of_getElem? (i := 65) rfl)) rfl, zT_in (zmt1 (List.mem_of_getElem? (i := 8) rfl)) rfl, by decide +kernel, by decide⟩
theorem ok_X2_isKeeping : zMok M_X2_isKeeping 1 := ⟨zT_in (zmt5 (List.mem_of_getElem? (i := 70) rfl)) rfl, zT_in (zmt1 (List.mem_of_getElem? (i := 8) rfl)) rfl, by decide +kernel, by decide⟩
theorem ok_X2_leaves : zMok M_X2_leaves 3 := ⟨zT_in (zmt5 (List.mem_of_getElem? (i := 43) rfl)) rfl, zT_in (zmt1 (List.mem_of_getElem? (i := 8) rfl)) rfl, by decide +kernel, by decide⟩
theorem ok_X2_seek : zMok M_X2_seek 2 := ⟨zT_in (zmt5 (List.mem_of_getElem? (i := 25) rfl)) rfl, zT_in (zmt1 (List.mem_of_getElem? (i := 8) rfl)) rfl, by decide +kernel, by decide⟩
theorem ok_X2_seekAbout : zMok M_X2_seekAbout 3 := ⟨zT_in (zmt5 (List.mem_of_getElem? (i := 33) rfl)) rfl, zT_in (zmt1 (List.mem_of_getElem? (i := 8) rfl)) rfl, by decide +kernel, by decide⟩
theorem ok_X2_settleOnMap : zMok M_X2_settleOnMap 0 := ⟨zT_in (zmt5 (List.mem_of_getElem? (i := 95) rfl)) rfl, zT_in (zmt1 (List.mem_of_getElem? (i := 8) rfl)) rfl, by decide +kernel, by decide⟩
theorem ok_X2_turnedCell : zMok M_X2_turnedCell 3 := ⟨zT_in (zmt5 (List.mem_of_getElem? (i := 47) rfl)) rfl, zT_in (zmt1 (List.mem_of_getElem? (i := 8) rfl)) rfl, by decide +kernel, by decide⟩
theorem ok_X3_around : zMok M_X3_around 2 := ⟨zT_in (zmt3 (List.mem_of_getElem? (i := 137) rfl)) rfl, zT_in (zmt1 (List.mem_of_getElem? (i := 3) rfl)) rfl, by decide +kernel, by decide⟩
theorem ok_X3_init : zMok M_X3_init 0 := ⟨zT_in (zmt1 (List.mem_of_getElem? (i := 145) rfl)) rfl, zT_in (zmt1 (List.mem_of_getElem? (i := 3) rfl)) rfl, by decide +kernel, by decide⟩
theorem ok_X3_mark : zMok M_X3_mark 2 := ⟨zT_in (zmt1 (List.mem_of_getElem? (i := 152) rfl)) rfl, zT_in (zmt1 (List.mem_of_getElem? (i := 3) rfl)) rfl, by decide +kernel, by decide⟩
theorem ok_X4_atHops : zMok M_X4_atHops 3 := ⟨zT_in (zmt3 (List.mem_of_getElem? (i := 132) rfl)) rfl, zT_in (zmt1 (List.mem_of_getElem? (i := 5) rfl)) rfl, by decide +kernel, by decide⟩
theorem ok_X4_findSteps : zMok M_X4_findSteps 0 := ⟨zT_in (zmt3 (List.mem_of_getElem? (i := 127) rfl)) rfl, zT_in (zmt1 (List.mem_of_getElem? (i := 5) rfl)) rfl, by decide +kernel, by decide⟩
theorem ok_X4_firstBroken : zMok M_X4_firstBroken 0 := ⟨zT_in (zmt5 (List.mem_of_getElem? (i := 8) rfl)) rfl, zT_in (zmt1 (List.mem_of_getElem? (i := 5) rfl)) rfl, by decide +kernel, by decide⟩
theorem ok_X4_forget : zMok M_X4_forget 0 := ⟨zT_in (zmt2 (List.mem_of_getElem? (i := 226) rfl)) rfl, zT_in (zmt1 (List.mem_of_getElem? (i := 5) rfl)) rfl, by decide +kernel, by decide⟩
theorem ok_X4_hopsBetween : zMok M_X4_hopsBetween 3 := ⟨zT_in (zmt3 (List.mem_of_getElem? (i := 189) rfl)) rfl, zT_in (zmt1 (List.mem_of_getElem? (i := 5) rfl)) rfl, by decide +kernel, by decide⟩
theorem ok_X4_init : zMok M_X4_init 2 := ⟨zT_in (zmt1 (List.mem_of_getElem? (i := 171) rfl)) rfl, zT_in (zmt1 (List.mem_of_getElem? (i := 5) rfl)) rfl, by decide +kernel, by decide⟩
theorem ok_X4_isKept : zMok M_X4_isKept 3 := ⟨zT_in (zmt4 (List.mem_of_getElem? (i := 48) rfl)) rfl, zT_in (zmt1 (List.mem_of_getElem? (i := 5) rfl)) rfl, by decide +kernel, by decide⟩
theorem ok_X4_keeping : zMok M_X4_keeping 3 := ⟨zT_in (zmt3 (List.mem_of_getElem? (i := 164) rfl)) rfl, zT_in (zmt1 (List.mem_of_getElem? (i := 5) rfl)) rfl, by decide +kernel, by decide⟩
theorem ok_X5_init : zMok M_X5_init 6 := ⟨zT_in (zmt3 (List.mem_of_getElem? (i := 204) rfl)) rfl, zT_in (zmt1 (List.mem_of_getElem? (i := 15) rfl)) rfl, by decide +kernel, by decide⟩
theorem ok_X5_isTakenAs : zMok M_X5_isTakenAs 1 := ⟨zT_in (zmt5 (List.mem_of_getElem? (i := 221) rfl)) rfl, zT_in (zmt1 (List.mem_of_getElem? (i := 15) rfl)) rfl, by decide +kernel, by decide⟩
theorem ok_X6_cellsOf : zMok M_X6_cellsOf 1 := ⟨zT_in (zmt3 (List.mem_of_getElem? (i := 168) rfl)) rfl, zT_in (zmt1 (List.mem_of_getElem? (i := 6) rfl)) rfl, by decide +kernel, by decide⟩
theorem ok_X6_findCells : zMok M_X6_findCells 0 := ⟨zT_in (zmt3 (List.mem_of_getElem? (i := 145) rfl)) rfl, zT_in (zmt1 (List.mem_of_getElem? (i := 6) rfl)) rfl, by decide +kernel, by decide⟩
theorem ok_X6_findLiars : zMok M_X6_findLiars 0 := ⟨zT_in (zmt5 (List.mem_of_getElem? (i := 174) rfl)) rfl, zT_in (zmt1 (List.mem_of_getElem? (i := 6) rfl)) rfl, by decide +kernel, by decide⟩
theorem ok_X6_findSets : zMok M_X6_findSets 2 := ⟨zT_in (zmt5 (List.mem_of_getElem? (i := 180) rfl)) rfl, zT_in (zmt1 (List.mem_of_getElem? (i := 6) rfl)) rfl, by decide +kernel, by decide⟩
theorem ok_X6_forget : zMok M_X6_forget 0 := ⟨zT_in (zmt2 (List.mem_of_getElem? (i := 234) rfl)) rfl, zT_in (zmt1 (List.mem_of_getElem? (i := 6) rfl)) rfl, by decide +kernel, by decide⟩
theorem ok_X6_forgetLiars : zMok M_X6_forgetLiars 0 := ⟨zT_in (zmt5 (List.mem_of_getElem? (i := 166) rfl)) rfl, zT_in (zmt1 (List.mem_of_getElem? (i := 6) rfl)) rfl, by decide +kernel, by decide⟩
theorem ok_X6_init : zMok M_X6_init 2 := ⟨zT_in (zmt1 (List.mem_of_getElem? (i := 191) rfl)) rfl, zT_in (zmt1 (List.mem_of_getElem? (i := 6) rfl)) rfl, by decide +kernel, by decide⟩
theorem ok_X6_isQuarrel : zMok M_X6_isQuarrel 0 := ⟨zT_in (zmt4 (List.mem_of_getElem? (i := 34) rfl)) rfl, zT_in (zmt1 (List.mem_of_getElem? (i := 6) rfl)) rfl, by decide +kernel, by decide⟩
theorem ok_X6_leastQuarrel : zMok M_X6_leastQuarrel 0 := ⟨zT_in (zmt4 (List.mem_of_getElem? (i := 38) rfl)) rfl, zT_in (zmt1 (List.mem_of_getElem? (i := 6) rfl)) rfl, by decide +kernel, by decide⟩
theorem ok_X6_narrowBy : zMok M_X6_narrowBy 2 := ⟨zT_in (zmt3 (List.mem_of_getElem? (i := 155) rfl)) rfl, zT_in (zmt1 (List.mem_of_getElem? (i := 6) rfl)) rfl, by decide +kernel, by decide⟩
theorem ok_X6_settle : zMok M_X6_settle 3 := ⟨zT_in (zmt3 (List.mem_of_getElem? (i := 149) rfl)) rfl, zT_in (zmt1 (List.mem_of_getElem? (i := 6) rfl)) rfl, by decide +kernel, by decide⟩
theorem ok_X6_sumOfCells : zMok M_X6_sumOfCells 0 := ⟨zT_in (zmt6 (List.mem_of_getElem? (i := 123) rfl)) rfl, zT_in (zmt1 (List.mem_of_getElem? (i := 6) rfl)) rfl, by decide +kernel, by decide⟩
theorem ok_X6_supported : zMok M_X6_supported 4 := ⟨zT_in (zmt3 (List.mem_of_getElem? (i := 159) rfl)) rfl, zT_in (zmt1 (List.mem_of_getElem? (i := 6) rfl)) rfl, by decide +kernel, by decide⟩
theorem ok_X6_suspects : zMok M_X6_suspects 0 := ⟨zT_in (zmt5 (List.mem_of_getElem? (i := 184) rfl)) rfl, zT_in (zmt1 (List.mem_of_getElem? (i := 6) rfl)) rfl, by decide +kernel, by decide⟩
theorem ok_X6_thingsOnOneCell : zMok M_X6_thingsOnOneCell 0 := ⟨zT_in (zmt6 (List.mem_of_getElem? (i := 119) rfl)) rfl, zT_in (zmt1 (List.mem_of_getElem? (i := 6) rfl)) rfl, by decide +kernel, by decide⟩
theorem ok_X7_bestAsked : zMok M_X7_bestAsked 0 := ⟨zT_in (zmt4 (List.mem_of_getElem? (i := 198) rfl)) rfl, zT_in (zmt1 (List.mem_of_getElem? (i := 7) rfl)) rfl, by decide +kernel, by decide⟩
theorem ok_X7_bestBetween : zMok M_X7_bestBetween 1 := ⟨zT_in (zmt4 (List.mem_of_getElem? (i := 211) rfl)) rfl, zT_in (zmt1 (List.mem_of_getElem? (i := 7) rfl)) rfl, by decide +kernel, by decide⟩
theorem ok_X7_cellIn : zMok M_X7_cellIn 2 := ⟨zT_in (zmt4 (List.mem_of_getElem? (i := 156) rfl)) rfl, zT_in (zmt1 (List.mem_of_getElem? (i := 7) rfl)) rfl, by decide +kernel, by decide⟩
theorem ok_X7_cellsOfStrangers : zMok M_X7_cellsOfStrangers 0 := ⟨zT_in (zmt4 (List.mem_of_getElem? (i := 110) rfl)) rfl, zT_in (zmt1 (List.mem_of_getElem? (i := 7) rfl)) rfl, by decide +kernel, by decide⟩
theorem ok_X7_compare : zMok M_X7_compare 0 := ⟨zT_in (zmt4 (List.mem_of_getElem? (i := 215) rfl)) rfl, zT_in (zmt1 (List.mem_of_getElem? (i := 7) rfl)) rfl, by decide +kernel, by decide⟩
theorem ok_X7_count : zMok M_X7_count 0 := ⟨zT_in (zmt4 (List.mem_of_getElem? (i := 168) rfl)) rfl, zT_in (zmt1 (List.mem_of_getElem? (i := 7) rfl)) rfl, by decide +kernel, by decide⟩
theorem ok_X7_forget : zMok M_X7_forget 0 := ⟨zT_in (zmt2 (List.mem_of_getElem? (i := 238) rfl)) rfl, zT_in (zmt1 (List.mem_of_getElem? (i := 7) rfl)) rfl, by decide +kernel, by decide⟩
theorem ok_X7_goTogether : zMok M_X7_goTogether 4 := ⟨zT_in (zmt4 (List.mem_of_getElem? (i := 186) rfl)) rfl, zT_in (zmt1 (List.mem_of_getElem? (i := 7) rfl)) rfl, by decide +kernel, by decide⟩
theorem ok_X7_init : zMok M_X7_init 3 := ⟨zT_in (zmt1 (List.mem_of_getElem? (i := 234) rfl)) rfl, zT_in (zmt1 (List.mem_of_getElem? (i := 7) rfl)) rfl, by decide +kernel, by decide⟩
theorem ok_X7_isPossible : zMok M_X7_isPossible 2 := ⟨zT_in (zmt4 (List.mem_of_getElem? (i := 190) rfl)) rfl, zT_in (zmt1 (List.mem_of_getElem? (i := 7) rfl)) rfl, by decide +kernel, by decide⟩
theorem ok_X7_look : zMok M_X7_look 1 := ⟨zT_in (zmt4 (List.mem_of_getElem? (i := 94) rfl)) rfl, zT_in (zmt1 (List.mem_of_getElem? (i := 7) rfl)) rfl, by decide +kernel, by decide⟩
theorem ok_X7_mostAtOneDistance : zMok M_X7_mostAtOneDistance 2 := ⟨zT_in (zmt4 (List.mem_of_getElem? (i := 220) rfl)) rfl, zT_in (zmt1 (List.mem_of_getElem? (i := 7) rfl)) rfl, by decide +kernel, by decide⟩
theorem ok_X7_openPair : zMok M_X7_openPair 2 := ⟨zT_in (zmt4 (List.mem_of_getElem? (i := 117) rfl)) rfl, zT_in (zmt1 (List.mem_of_getElem? (i := 7) rfl)) rfl, by decide +kernel, by decide⟩
theorem ok_X7_place : zMok M_X7_place 1 := ⟨zT_in (zmt4 (List.mem_of_getElem? (i := 138) rfl)) rfl, zT_in (zmt1 (List.mem_of_getElem? (i := 7) rfl)) rfl, by decide +kernel, by decide⟩
theorem ok_X7_placeOf : zMok M_X7_placeOf 1 := ⟨zT_in (zmt4 (List.mem_of_getElem? (i := 126) rfl)) rfl, zT_in (zmt1 (List.mem_of_getElem? (i := 7) rfl)) rfl, by decide +kernel, by decide⟩
theorem ok_X7_possible : zMok M_X7_possible 1 := ⟨zT_in (zmt4 (List.mem_of_getElem? (i := 178) rfl)) rfl, zT_in (zmt1 (List.mem_of_getElem? (i := 7) rfl)) rfl, by decide +kernel, by decide⟩
theorem ok_X7_prepare : zMok M_X7_prepare 0 := ⟨zT_in (zmt4 (List.mem_of_getElem? (i := 106) rfl)) rfl, zT_in (zmt1 (List.mem_of_getElem? (i := 7) rfl)) rfl, by decide +kernel, by decide⟩
theorem ok_X7_record : zMok M_X7_record 0 := ⟨zT_in (zmt4 (List.mem_of_getElem? (i := 143) rfl)) rfl, zT_in (zmt1 (List.mem_of_getElem? (i := 7) rfl)) rfl, by decide +kernel, by decide⟩
theorem ok_X7_restrict : zMok M_X7_restrict 1 := ⟨zT_in (zmt4 (List.mem_of_getElem? (i := 122) rfl)) rfl, zT_in (zmt1 (List.mem_of_getElem? (i := 7) rfl)) rfl, by decide +kernel, by decide⟩
theorem ok_X7_sureCell : zMok M_X7_sureCell 1 := ⟨zT_in (zmt4 (List.mem_of_getElem? (i := 164) rfl)) rfl, zT_in (zmt1 (List.mem_of_getElem? (i := 7) rfl)) rfl, by decide +kernel, by decide⟩
theorem ok_X7_worst : zMok M_X7_worst 1 := ⟨zT_in (zmt4 (List.mem_of_getElem? (i := 202) rfl)) rfl, zT_in (zmt1 (List.mem_of_getElem? (i := 7) rfl)) rfl, by decide +kernel, by decide⟩
theorem ok_X8_begin : zMok M_X8_begin 2 := ⟨zT_in (zmt6 (List.mem_of_getElem? (i := 73) rfl)) rfl, zT_in (zmt1 (List.mem_of_getElem? (i := 11) rfl)) rfl, by decide +kernel, by decide⟩
theorem ok_X8_end : zMok M_X8_end 0 := ⟨zT_in (zmt6 (List.mem_of_getElem? (i := 84) rfl)) rfl, zT_in (zmt1 (List.mem_of_getElem? (i := 11) rfl)) rfl, by decide +kernel, by decide⟩
theorem ok_X8_init : zMok M_X8_init 0 := ⟨zT_in (zmt2 (List.mem_of_getElem? (i := 147) rfl)) rfl, zT_in (zmt1 (List.mem_of_getElem? (i := 11) rfl)) rfl, by decide +kernel, by decide⟩
theorem ok_X8_isEmpty : zMok M_X8_isEmpty 0 := ⟨zT_in (zmt3 (List.mem_of_getElem? (i := 35) rfl)) rfl, zT_in (zmt1 (List.mem_of_getElem? (i := 11) rfl)) rfl, by decide +kernel, by decide⟩
theorem ok_X8_reaches : zMok M_X8_reaches 2 := ⟨zT_in (zmt3 (List.mem_of_getElem? (i := 43) rfl)) rfl, zT_in (zmt1 (List.mem_of_getElem? (i := 11) rfl)) rfl, by decide +kernel, by decide⟩
theorem ok_X8_write : zMok M_X8_write 2 := ⟨zT_in (zmt6 (List.mem_of_getElem? (i := 92) rfl)) rfl, zT_in (zmt1 (List.mem_of_getElem? (i := 11) rfl)) rfl, by decide +kernel, by decide⟩
theorem ok_X9_init : zMok M_X9_init 5 := ⟨zT_in (zmt3 (List.mem_of_getElem? (i := 66) rfl)) rfl, zT_in (zmt1 (List.mem_of_getElem? (i := 14) rfl)) rfl, by decide +kernel, by decide⟩
theorem ok_X9_isAnchor : zMok M_X9_isAnchor 0 := ⟨zT_in (zmt3 (List.mem_of_getElem? (i := 19) rfl)) rfl, zT_in (zmt1 (List.mem_of_getElem? (i := 14) rfl)) rfl, by decide +kernel, by decide⟩
theorem fr_RX11_12 : zFR RX11 12 11 0 := ⟨(RX11, TX11, 16), rfl, by decide, zT_in (zmt2 (List.mem_of_getElem? (i := 162) rfl)) rfl⟩
theorem fr_RX11_21 : zFR RX11 21 11 1 := ⟨(RX11, TX11, 16), rfl, by decide, zT_in (zmt2 (List.mem_of_getElem? (i := 163) rfl)) rfl⟩
theorem fr_RX11_30 : zFR RX11 30 11 2 := ⟨(RX11, TX11, 16), rfl, by decide, zT_in (zmt2 (List.mem_of_getElem? (i := 164) rfl)) rfl⟩
theorem fr_RX11_39 : zFR RX11 39 11 3 := ⟨(RX11, TX11, 16), rfl, by decide, zT_in (zmt2 (List.mem_of_getElem? (i := 165) rfl)) rfl⟩
theorem fr_RX11_48 : zFR RX11 48 11 4 := ⟨(RX11, TX11, 16), rfl, by decide, zT_in (zmt2 (List.mem_of_getElem? (i := 166) rfl)) rfl⟩
theorem fr_RX11_55 : zFR RX11 55 11 5 := ⟨(RX11, TX11, 16), rfl, by decide, zT_in (zmt2 (List.mem_of_getElem? (i := 167) rfl)) rfl⟩
theorem fr_RX11_64 : zFR RX11 64 11 6 := ⟨(RX11, TX11, 16), rfl, by decide, zT_in (zmt2 (List.mem_of_getElem? (i := 168) rfl)) rfl⟩
theorem fr_RX11_71 : zFR RX11 71 11 7 := ⟨(RX11, TX11, 16), rfl, by decide, zT_in (zmt2 (List.mem_of_getElem? (i := 169) rfl)) rfl⟩
theorem fr_RX11_75 : zFR RX11 75 11 8 := ⟨(RX11, TX11, 16), rfl, by decide, zT_in (zmt2 (List.mem_of_getElem? (i := 170) rfl)) rfl⟩
theorem fr_RX11_79 : zFR RX11 79 11 9 := ⟨(RX11, TX11, 16), rfl, by decide, zT_in (zmt2 (List.mem_of_getElem? (i := 171) rfl)) rfl⟩
theorem fr_RX11_85 : zFR RX11 85 11 10 := ⟨(RX11, TX11, 16), rfl, by decide, zT_in (zmt2 (List.mem_of_getElem? (i := 172) rfl)) rfl⟩
theorem fr_RX11_91 : zFR RX11 91 11 11 := ⟨(RX11, TX11, 16), rfl, by decide, zT_in (zmt2 (List.mem_of_getElem? (i := 173) rfl)) rfl⟩
theorem fr_RX11_97 : zFR RX11 97 11 12 := ⟨(RX11, TX11, 16), rfl, by decide, zT_in (zmt2 (List.mem_of_getElem? (i := 174) rfl)) rfl⟩
theorem fr_RX11_101 : zFR RX11 101 11 13 := ⟨(RX11, TX11, 16), rfl, by decide, zT_in (zmt2 (List.mem_of_getElem? (i := 175) rfl)) rfl⟩
theorem fr_RX11_105 : zFR RX11 105 11 14 := ⟨(RX11, TX11, 16), rfl, by decide, zT_in (zmt2 (List.mem_of_getElem? (i := 176) rfl)) rfl⟩
theorem fr_RX11_109 : zFR RX11 109 11 15 := ⟨(RX11, TX11, 16), rfl, by decide, zT_in (zmt2 (List.mem_of_getElem? (i := 177) rfl)) rfl⟩
theorem fr_RX11_136 : zFR RX11 136 1 2 := ⟨(RX1, TX1, 17), rfl, by decide, zT_in (zmt1 (List.mem_of_getElem? (i := 52) rfl)) rfl⟩
theorem fr_RX11_148 : zFR RX11 148 1 0 := ⟨(RX1, TX1, 17), rfl, by decide, zT_in (zmt1 (List.mem_of_getElem? (i := 48) rfl)) rfl⟩
theorem fr_RX11_151 : zFR RX11 151 1 1 := ⟨(RX1, TX1, 17), rfl, by decide, zT_in (zmt1 (List.mem_of_getElem? (i := 50) rfl)) rfl⟩
theorem fr_RX11_172 : zFR RX11 172 1 3 := ⟨(RX1, TX1, 17), rfl, by decide, zT_in (zmt1 (List.mem_of_getElem? (i := 56) rfl)) rfl⟩
theorem fr_RX11_185 : zFR RX11 185 1 4 := ⟨(RX1, TX1, 17), rfl, by decide, zT_in (zmt1 (List.mem_of_getElem? (i := 60) rfl)) rfl⟩
theorem fr_RX11_195 : zFR RX11 195 1 5 := ⟨(RX1, TX1, 17), rfl, by decide, zT_in (zmt1 (List.mem_of_getElem? (i := 64) rfl)) rfl⟩
theorem fr_RX11_213 : zFR RX11 213 9 1 := ⟨(RX9, TX9, 5), rfl, by decide, zT_in (zmt3 (List.mem_of_getElem? (i := 73) rfl)) rfl⟩
theorem fr_RX11_222 : zFR RX11 222 1 10 := ⟨(RX1, TX1, 17), rfl, by decide, zT_in (zmt1 (List.mem_of_getElem? (i := 87) rfl)) rfl⟩
theorem fr_RX11_225 : zFR RX11 225 1 6 := ⟨(RX1, TX1, 17), rfl, by decide, zT_in (zmt1 (List.mem_of_getElem? (i := 68) rfl)) rfl⟩
theorem fr_RX11_229 : zFR RX11 229 1 7 := ⟨(RX1, TX1, 17), rfl, by decide, zT_in (zmt1 (List.mem_of_getElem? (i := 70) rfl)) rfl⟩
theorem fr_RX11_232 : zFR RX11 232 9 3 := ⟨(RX9, TX9, 5), rfl, by decide, zT_in (zmt3 (List.mem_of_getElem? (i := 80) rfl)) rfl⟩
theorem fr_RX11_235 : zFR RX11 235 9 4 := ⟨(RX9, TX9, 5), rfl, by decide, zT_in (zmt3 (List.mem_of_getElem? (i := 82) rfl)) rfl⟩
theorem fr_RX11_245 : zFR RX11 245 1 8 := ⟨(RX1, TX1, 17), rfl, by decide, zT_in (zmt1 (List.mem_of_getElem? (i := 76) rfl)) rfl⟩
theorem fr_RX11_259 : zFR RX11 259 1 9 := ⟨(RX1, TX1, 17), rfl, by decide, zT_in (zmt1 (List.mem_of_getElem? (i := 83) rfl)) rfl⟩
theorem fr_RX11_262 : zFR RX11 262 5 1 := ⟨(RX5, TX5, 6), rfl, by decide, zT_in (zmt3 (List.mem_of_getElem? (i := 212) rfl)) rfl⟩
theorem fr_RX11_263 : zFR RX11 263 5 2 := ⟨(RX5, TX5, 6), rfl, by decide, zT_in (zmt3 (List.mem_of_getElem? (i := 220) rfl)) rfl⟩
theorem fr_RX11_266 : zFR RX11 266 5 3 := ⟨(RX5, TX5, 6), rfl, by decide, zT_in (zmt3 (List.mem_of_getElem? (i := 228) rfl)) rfl⟩
theorem fr_RX11_269 : zFR RX11 269 5 4 := ⟨(RX5, TX5, 6), rfl, by decide, zT_in (zmt3 (List.mem_of_getElem? (i := 232) rfl)) rfl⟩
theorem fr_RX11_272 : zFR RX11 272 5 5 := ⟨(RX5, TX5, 6), rfl, by decide, zT_in (zmt3 (List.mem_of_getElem? (i := 236) rfl)) rfl⟩
theorem fr_RX11_291 : zFR RX11 291 1 15 := ⟨(RX1, TX1, 17), rfl, by decide, zT_in (zmt1 (List.mem_of_getElem? (i := 102) rfl)) rfl⟩
theorem fr_RX11_300 : zFR RX11 300 7 7 := ⟨(RX7, TX7, 19), rfl, by decide, zT_in (zmt2 (List.mem_of_getElem? (i := 11) rfl)) rfl⟩
theorem fr_RX11_303 : zFR RX11 303 7 8 := ⟨(RX7, TX7, 19), rfl, by decide, zT_in (zmt2 (List.mem_of_getElem? (i := 13) rfl)) rfl⟩
theorem fr_RX11_329 : zFR RX11 329 7 5 := ⟨(RX7, TX7, 19), rfl, by decide, zT_in (zmt2 (List.mem_of_getElem? (i := 7) rfl)) rfl⟩
theorem fr_RX11_335 : zFR RX11 335 7 4 := ⟨(RX7, TX7, 19), rfl, by decide, zT_in (zmt2 (List.mem_of_getElem? (i := 5) rfl)) rfl⟩
theorem fr_RX11_356 : zFR RX11 356 2 5 := ⟨(RX2, TX2, 10), rfl, by decide, zT_in (zmt2 (List.mem_of_getElem? (i := 75) rfl)) rfl⟩
theorem fr_RX11_360 : zFR RX11 360 2 6 := ⟨(RX2, TX2, 10), rfl, by decide, zT_in (zmt2 (List.mem_of_getElem? (i := 77) rfl)) rfl⟩
theorem fr_RX11_363 : zFR RX11 363 2 7 := ⟨(RX2, TX2, 10), rfl, by decide, zT_in (zmt2 (List.mem_of_getElem? (i := 79) rfl)) rfl⟩
theorem fr_RX11_366 : zFR RX11 366 2 8 := ⟨(RX2, TX2, 10), rfl, by decide, zT_in (zmt2 (List.mem_of_getElem? (i := 81) rfl)) rfl⟩
theorem fr_RX11_369 : zFR RX11 369 2 9 := ⟨(RX2, TX2, 10), rfl, by decide, zT_in (zmt2 (List.mem_of_getElem? (i := 83) rfl)) rfl⟩
theorem fr_RX11_375 : zFR RX11 375 1 11 := ⟨(RX1, TX1, 17), rfl, by decide, zT_in (zmt1 (List.mem_of_getElem? (i := 91) rfl)) rfl⟩
theorem fr_RX11_384 : zFR RX11 384 1 12 := ⟨(RX1, TX1, 17), rfl, by decide, zT_in (zmt1 (List.mem_of_getElem? (i := 94) rfl)) rfl⟩
theorem fr_RX11_405 : zFR RX11 405 6 8 := ⟨(RX6, TX6, 11), rfl, by decide, zT_in (zmt1 (List.mem_of_getElem? (i := 202) rfl)) rfl⟩
theorem fr_RX11_408 : zFR RX11 408 6 9 := ⟨(RX6, TX6, 11), rfl, by decide, zT_in (zmt1 (List.mem_of_getElem? (i := 204) rfl)) rfl⟩
theorem fr_RX11_411 : zFR RX11 411 6 10 := ⟨(RX6, TX6, 11), rfl, by decide, zT_in (zmt1 (List.mem_of_getElem? (i := 206) rfl)) rfl⟩
theorem fr_RX11_421 : zFR RX11 421 9 0 := ⟨(RX9, TX9, 5), rfl, by decide, zT_in (zmt3 (List.mem_of_getElem? (i := 70) rfl)) rfl⟩
theorem fr_RX11_427 : zFR RX11 427 5 0 := ⟨(RX5, TX5, 6), rfl, by decide, zT_in (zmt3 (List.mem_of_getElem? (i := 208) rfl)) rfl⟩
theorem fr_RX11_457 : zFR RX11 457 8 2 := ⟨(RX8, TX8, 3), rfl, by decide, zT_in (zmt2 (List.mem_of_getElem? (i := 153) rfl)) rfl⟩
theorem fr_RX11_460 : zFR RX11 460 8 0 := ⟨(RX8, TX8, 3), rfl, by decide, zT_in (zmt2 (List.mem_of_getElem? (i := 150) rfl)) rfl⟩
theorem fr_RX11_469 : zFR RX11 469 0 0 := ⟨(RX0, TX0, 1), rfl, by decide, zT_in (zmt2 (List.mem_of_getElem? (i := 135) rfl)) rfl⟩
theorem fr_RX11_501 : zFR RX11 501 7 6 := ⟨(RX7, TX7, 19), rfl, by decide, zT_in (zmt2 (List.mem_of_getElem? (i := 9) rfl)) rfl⟩
theorem fr_RX0_9 : zFR RX0 9 0 0 := ⟨(RX0, TX0, 1), rfl, by decide, zT_in (zmt2 (List.mem_of_getElem? (i := 134) rfl)) rfl⟩
theorem fr_RX0_15 : zFR RX0 15 9 1 := ⟨(RX9, TX9, 5), rfl, by decide, zT_in (zmt3 (List.mem_of_getElem? (i := 72) rfl)) rfl⟩
theorem fr_RX0_30 : zFR RX0 30 5 1 := ⟨(RX5, TX5, 6), rfl, by decide, zT_in (zmt3 (List.mem_of_getElem? (i := 210) rfl)) rfl⟩
theorem fr_RX0_69 : zFR RX0 69 9 0 := ⟨(RX9, TX9, 5), rfl, by decide, zT_in (zmt3 (List.mem_of_getElem? (i := 69) rfl)) rfl⟩
theorem fr_RX0_72 : zFR RX0 72 9 2 := ⟨(RX9, TX9, 5), rfl, by decide, zT_in (zmt3 (List.mem_of_getElem? (i := 76) rfl)) rfl⟩
theorem fr_RX0_75 : zFR RX0 75 5 2 := ⟨(RX5, TX5, 6), rfl, by decide, zT_in (zmt3 (List.mem_of_getElem? (i := 215) rfl)) rfl⟩
theorem fr_RX0_78 : zFR RX0 78 5 3 := ⟨(RX5, TX5, 6), rfl, by decide, zT_in (zmt3 (List.mem_of_getElem? (i := 223) rfl)) rfl⟩
theorem fr_RX0_81 : zFR RX0 81 5 4 := ⟨(RX5, TX5, 6), rfl, by decide, zT_in (zmt3 (List.mem_of_getElem? (i := 231) rfl)) rfl⟩
theorem fr_RX0_84 : zFR RX0 84 5 5 := ⟨(RX5, TX5, 6), rfl, by decide, zT_in (zmt3 (List.mem_of_getElem? (i := 235) rfl)) rfl⟩
theorem fr_RX1_11 : zFR RX1 11 1 4 := ⟨(RX1, TX1, 17), rfl, by decide, zT_in (zmt1 (List.mem_of_getElem? (i := 59) rfl)) rfl⟩
theorem fr_RX1_17 : zFR RX1 17 1 5 := ⟨(RX1, TX1, 17), rfl, by decide, zT_in (zmt1 (List.mem_of_getElem? (i := 63) rfl)) rfl⟩
theorem fr_RX1_21 : zFR RX1 21 1 6 := ⟨(RX1, TX1, 17), rfl, by decide, zT_in (zmt1 (List.mem_of_getElem? (i := 65) rfl)) rfl⟩
theorem fr_RX1_27 : zFR RX1 27 1 9 := ⟨(RX1, TX1, 17), rfl, by decide, zT_in (zmt1 (List.mem_of_getElem? (i := 78) rfl)) rfl⟩
theorem fr_RX1_31 : zFR RX1 31 1 12 := ⟨(RX1, TX1, 17), rfl, by decide, zT_in (zmt1 (List.mem_of_getElem? (i := 92) rfl)) rfl⟩
theorem fr_RX1_34 : zFR RX1 34 1 13 := ⟨(RX1, TX1, 17), rfl, by decide, zT_in (zmt1 (List.mem_of_getElem? (i := 95) rfl)) rfl⟩
theorem fr_RX1_37 : zFR RX1 37 1 14 := ⟨(RX1, TX1, 17), rfl, by decide, zT_in (zmt1 (List.mem_of_getElem? (i := 97) rfl)) rfl⟩
theorem fr_RX1_40 : zFR RX1 40 1 16 := ⟨(RX1, TX1, 17), rfl, by decide, zT_in (zmt1 (List.mem_of_getElem? (i := 103) rfl)) rfl⟩
theorem fr_RX1_47 : zFR RX1 47 1 0 := ⟨(RX1, TX1, 17), rfl, by decide, zT_in (zmt1 (List.mem_of_getElem? (i := 47) rfl)) rfl⟩
theorem fr_RX1_51 : zFR RX1 51 1 1 := ⟨(RX1, TX1, 17), rfl, by decide, zT_in (zmt1 (List.mem_of_getElem? (i := 49) rfl)) rfl⟩
theorem fr_RX1_58 : zFR RX1 58 1 2 := ⟨(RX1, TX1, 17), rfl, by decide, zT_in (zmt1 (List.mem_of_getElem? (i := 51) rfl)) rfl⟩
theorem fr_RX1_62 : zFR RX1 62 1 3 := ⟨(RX1, TX1, 17), rfl, by decide, zT_in (zmt1 (List.mem_of_getElem? (i := 54) rfl)) rfl⟩
theorem fr_RX1_65 : zFR RX1 65 1 7 := ⟨(RX1, TX1, 17), rfl, by decide, zT_in (zmt1 (List.mem_of_getElem? (i := 69) rfl)) rfl⟩
theorem fr_RX1_68 : zFR RX1 68 1 8 := ⟨(RX1, TX1, 17), rfl, by decide, zT_in (zmt1 (List.mem_of_getElem? (i := 72) rfl)) rfl⟩
theorem fr_RX1_71 : zFR RX1 71 1 10 := ⟨(RX1, TX1, 17), rfl, by decide, zT_in (zmt1 (List.mem_of_getElem? (i := 84) rfl)) rfl⟩
theorem fr_RX1_74 : zFR RX1 74 1 11 := ⟨(RX1, TX1, 17), rfl, by decide, zT_in (zmt1 (List.mem_of_getElem? (i := 90) rfl)) rfl⟩
theorem fr_RX1_77 : zFR RX1 77 1 15 := ⟨(RX1, TX1, 17), rfl, by decide, zT_in (zmt1 (List.mem_of_getElem? (i := 99) rfl)) rfl⟩
theorem fr_RX1_113 : zFR RX1 113 9 2 := ⟨(RX9, TX9, 5), rfl, by decide, zT_in (zmt3 (List.mem_of_getElem? (i := 77) rfl)) rfl⟩
theorem fr_RX1_116 : zFR RX1 116 5 2 := ⟨(RX5, TX5, 6), rfl, by decide, zT_in (zmt3 (List.mem_of_getElem? (i := 217) rfl)) rfl⟩
theorem fr_RX1_119 : zFR RX1 119 5 3 := ⟨(RX5, TX5, 6), rfl, by decide, zT_in (zmt3 (List.mem_of_getElem? (i := 225) rfl)) rfl⟩
theorem fr_RX2_9 : zFR RX2 9 2 2 := ⟨(RX2, TX2, 10), rfl, by decide, zT_in (zmt2 (List.mem_of_getElem? (i := 71) rfl)) rfl⟩
theorem fr_RX2_15 : zFR RX2 15 2 0 := ⟨(RX2, TX2, 10), rfl, by decide, zT_in (zmt2 (List.mem_of_getElem? (i := 69) rfl)) rfl⟩
theorem fr_RX2_19 : zFR RX2 19 2 1 := ⟨(RX2, TX2, 10), rfl, by decide, zT_in (zmt2 (List.mem_of_getElem? (i := 70) rfl)) rfl⟩
theorem fr_RX2_23 : zFR RX2 23 2 3 := ⟨(RX2, TX2, 10), rfl, by decide, zT_in (zmt2 (List.mem_of_getElem? (i := 72) rfl)) rfl⟩
theorem fr_RX2_27 : zFR RX2 27 2 5 := ⟨(RX2, TX2, 10), rfl, by decide, zT_in (zmt2 (List.mem_of_getElem? (i := 74) rfl)) rfl⟩
theorem fr_RX2_35 : zFR RX2 35 2 4 := ⟨(RX2, TX2, 10), rfl, by decide, zT_in (zmt2 (List.mem_of_getElem? (i := 73) rfl)) rfl⟩
theorem fr_RX2_46 : zFR RX2 46 1 3 := ⟨(RX1, TX1, 17), rfl, by decide, zT_in (zmt1 (List.mem_of_getElem? (i := 55) rfl)) rfl⟩
theorem fr_RX2_57 : zFR RX2 57 2 9 := ⟨(RX2, TX2, 10), rfl, by decide, zT_in (zmt2 (List.mem_of_getElem? (i := 82) rfl)) rfl⟩
theorem fr_RX2_60 : zFR RX2 60 1 6 := ⟨(RX1, TX1, 17), rfl, by decide, zT_in (zmt1 (List.mem_of_getElem? (i := 66) rfl)) rfl⟩
theorem fr_RX2_86 : zFR RX2 86 2 6 := ⟨(RX2, TX2, 10), rfl, by decide, zT_in (zmt2 (List.mem_of_getElem? (i := 76) rfl)) rfl⟩
theorem fr_RX2_89 : zFR RX2 89 2 7 := ⟨(RX2, TX2, 10), rfl, by decide, zT_in (zmt2 (List.mem_of_getElem? (i := 78) rfl)) rfl⟩
theorem fr_RX2_92 : zFR RX2 92 2 8 := ⟨(RX2, TX2, 10), rfl, by decide, zT_in (zmt2 (List.mem_of_getElem? (i := 80) rfl)) rfl⟩
theorem fr_RX2_103 : zFR RX2 103 1 15 := ⟨(RX1, TX1, 17), rfl, by decide, zT_in (zmt1 (List.mem_of_getElem? (i := 100) rfl)) rfl⟩
theorem fr_RX2_131 : zFR RX2 131 1 8 := ⟨(RX1, TX1, 17), rfl, by decide, zT_in (zmt1 (List.mem_of_getElem? (i := 75) rfl)) rfl⟩
theorem fr_RX2_134 : zFR RX2 134 1 9 := ⟨(RX1, TX1, 17), rfl, by decide, zT_in (zmt1 (List.mem_of_getElem? (i := 80) rfl)) rfl⟩
theorem fr_RX2_138 : zFR RX2 138 1 10 := ⟨(RX1, TX1, 17), rfl, by decide, zT_in (zmt1 (List.mem_of_getElem? (i := 88) rfl)) rfl⟩
theorem fr_RX2_142 : zFR RX2 142 5 2 := ⟨(RX5, TX5, 6), rfl, by decide, zT_in (zmt3 (List.mem_of_getElem? (i := 216) rfl)) rfl⟩
theorem fr_RX2_147 : zFR RX2 147 5 3 := ⟨(RX5, TX5, 6), rfl, by decide, zT_in (zmt3 (List.mem_of_getElem? (i := 224) rfl)) rfl⟩
theorem fr_RX3_11 : zFR RX3 11 3 0 := ⟨(RX3, TX3, 2), rfl, by decide, zT_in (zmt1 (List.mem_of_getElem? (i := 157) rfl)) rfl⟩
theorem fr_RX3_16 : zFR RX3 16 3 1 := ⟨(RX3, TX3, 2), rfl, by decide, zT_in (zmt1 (List.mem_of_getElem? (i := 160) rfl)) rfl⟩
theorem fr_RX4_11 : zFR RX4 11 4 2 := ⟨(RX4, TX4, 4), rfl, by decide, zT_in (zmt1 (List.mem_of_getElem? (i := 176) rfl)) rfl⟩
theorem fr_RX4_16 : zFR RX4 16 4 3 := ⟨(RX4, TX4, 4), rfl, by decide, zT_in (zmt1 (List.mem_of_getElem? (i := 177) rfl)) rfl⟩
theorem fr_RX4_20 : zFR RX4 20 4 0 := ⟨(RX4, TX4, 4), rfl, by decide, zT_in (zmt1 (List.mem_of_getElem? (i := 174) rfl)) rfl⟩
theorem fr_RX4_24 : zFR RX4 24 4 1 := ⟨(RX4, TX4, 4), rfl, by decide, zT_in (zmt1 (List.mem_of_getElem? (i := 175) rfl)) rfl⟩
theorem fr_RX4_28 : zFR RX4 28 1 8 := ⟨(RX1, TX1, 17), rfl, by decide, zT_in (zmt1 (List.mem_of_getElem? (i := 73) rfl)) rfl⟩
theorem fr_RX4_34 : zFR RX4 34 1 9 := ⟨(RX1, TX1, 17), rfl, by decide, zT_in (zmt1 (List.mem_of_getElem? (i := 79) rfl)) rfl⟩
theorem fr_RX4_38 : zFR RX4 38 5 1 := ⟨(RX5, TX5, 6), rfl, by decide, zT_in (zmt3 (List.mem_of_getElem? (i := 211) rfl)) rfl⟩
theorem fr_RX4_47 : zFR RX4 47 5 4 := ⟨(RX5, TX5, 6), rfl, by decide, zT_in (zmt3 (List.mem_of_getElem? (i := 230) rfl)) rfl⟩
theorem fr_RX4_50 : zFR RX4 50 5 5 := ⟨(RX5, TX5, 6), rfl, by decide, zT_in (zmt3 (List.mem_of_getElem? (i := 234) rfl)) rfl⟩
theorem fr_RX4_61 : zFR RX4 61 3 0 := ⟨(RX3, TX3, 2), rfl, by decide, zT_in (zmt1 (List.mem_of_getElem? (i := 158) rfl)) rfl⟩
theorem fr_RX4_68 : zFR RX4 68 3 1 := ⟨(RX3, TX3, 2), rfl, by decide, zT_in (zmt1 (List.mem_of_getElem? (i := 161) rfl)) rfl⟩
theorem fr_RX4_71 : zFR RX4 71 5 0 := ⟨(RX5, TX5, 6), rfl, by decide, zT_in (zmt3 (List.mem_of_getElem? (i := 207) rfl)) rfl⟩
theorem fr_RX4_78 : zFR RX4 78 1 6 := ⟨(RX1, TX1, 17), rfl, by decide, zT_in (zmt1 (List.mem_of_getElem? (i := 67) rfl)) rfl⟩
theorem fr_RX4_82 : zFR RX4 82 5 2 := ⟨(RX5, TX5, 6), rfl, by decide, zT_in (zmt3 (List.mem_of_getElem? (i := 214) rfl)) rfl⟩
theorem fr_RX4_85 : zFR RX4 85 5 3 := ⟨(RX5, TX5, 6), rfl, by decide, zT_in (zmt3 (List.mem_of_getElem? (i := 222) rfl)) rfl⟩
theorem fr_RX4_88 : zFR RX4 88 1 10 := ⟨(RX1, TX1, 17), rfl, by decide, zT_in (zmt1 (List.mem_of_getElem? (i := 86) rfl)) rfl⟩
theorem fr_RX4_99 : zFR RX4 99 1 2 := ⟨(RX1, TX1, 17), rfl, by decide, zT_in (zmt1 (List.mem_of_getElem? (i := 53) rfl)) rfl⟩
theorem fr_RX5_9 : zFR RX5 9 5 0 := ⟨(RX5, TX5, 6), rfl, by decide, zT_in (zmt3 (List.mem_of_getElem? (i := 206) rfl)) rfl⟩
theorem fr_RX5_15 : zFR RX5 15 5 1 := ⟨(RX5, TX5, 6), rfl, by decide, zT_in (zmt3 (List.mem_of_getElem? (i := 209) rfl)) rfl⟩
theorem fr_RX5_18 : zFR RX5 18 5 2 := ⟨(RX5, TX5, 6), rfl, by decide, zT_in (zmt3 (List.mem_of_getElem? (i := 213) rfl)) rfl⟩
theorem fr_RX5_21 : zFR RX5 21 5 3 := ⟨(RX5, TX5, 6), rfl, by decide, zT_in (zmt3 (List.mem_of_getElem? (i := 221) rfl)) rfl⟩
theorem fr_RX5_24 : zFR RX5 24 5 4 := ⟨(RX5, TX5, 6), rfl, by decide, zT_in (zmt3 (List.mem_of_getElem? (i := 229) rfl)) rfl⟩
theorem fr_RX5_27 : zFR RX5 27 5 5 := ⟨(RX5, TX5, 6), rfl, by decide, zT_in (zmt3 (List.mem_of_getElem? (i := 233) rfl)) rfl⟩
theorem fr_RX6_9 : zFR RX6 9 6 2 := ⟨(RX6, TX6, 11), rfl, by decide, zT_in (zmt1 (List.mem_of_getElem? (i := 195) rfl)) rfl⟩
theorem fr_RX6_15 : zFR RX6 15 6 3 := ⟨(RX6, TX6, 11), rfl, by decide, zT_in (zmt1 (List.mem_of_getElem? (i := 196) rfl)) rfl⟩
theorem fr_RX6_18 : zFR RX6 18 6 5 := ⟨(RX6, TX6, 11), rfl, by decide, zT_in (zmt1 (List.mem_of_getElem? (i := 198) rfl)) rfl⟩
theorem fr_RX6_22 : zFR RX6 22 6 7 := ⟨(RX6, TX6, 11), rfl, by decide, zT_in (zmt1 (List.mem_of_getElem? (i := 200) rfl)) rfl⟩
theorem fr_RX6_25 : zFR RX6 25 6 10 := ⟨(RX6, TX6, 11), rfl, by decide, zT_in (zmt1 (List.mem_of_getElem? (i := 205) rfl)) rfl⟩
theorem fr_RX6_29 : zFR RX6 29 6 0 := ⟨(RX6, TX6, 11), rfl, by decide, zT_in (zmt1 (List.mem_of_getElem? (i := 193) rfl)) rfl⟩
theorem fr_RX6_33 : zFR RX6 33 6 1 := ⟨(RX6, TX6, 11), rfl, by decide, zT_in (zmt1 (List.mem_of_getElem? (i := 194) rfl)) rfl⟩
theorem fr_RX6_37 : zFR RX6 37 1 10 := ⟨(RX1, TX1, 17), rfl, by decide, zT_in (zmt1 (List.mem_of_getElem? (i := 85) rfl)) rfl⟩
theorem fr_RX6_47 : zFR RX6 47 6 4 := ⟨(RX6, TX6, 11), rfl, by decide, zT_in (zmt1 (List.mem_of_getElem? (i := 197) rfl)) rfl⟩
theorem fr_RX6_50 : zFR RX6 50 1 3 := ⟨(RX1, TX1, 17), rfl, by decide, zT_in (zmt1 (List.mem_of_getElem? (i := 57) rfl)) rfl⟩
theorem fr_RX6_60 : zFR RX6 60 6 6 := ⟨(RX6, TX6, 11), rfl, by decide, zT_in (zmt1 (List.mem_of_getElem? (i := 199) rfl)) rfl⟩
theorem fr_RX6_63 : zFR RX6 63 1 8 := ⟨(RX1, TX1, 17), rfl, by decide, zT_in (zmt1 (List.mem_of_getElem? (i := 74) rfl)) rfl⟩
theorem fr_RX6_76 : zFR RX6 76 6 8 := ⟨(RX6, TX6, 11), rfl, by decide, zT_in (zmt1 (List.mem_of_getElem? (i := 201) rfl)) rfl⟩
theorem fr_RX6_79 : zFR RX6 79 6 9 := ⟨(RX6, TX6, 11), rfl, by decide, zT_in (zmt1 (List.mem_of_getElem? (i := 203) rfl)) rfl⟩
theorem fr_RX6_103 : zFR RX6 103 1 4 := ⟨(RX1, TX1, 17), rfl, by decide, zT_in (zmt1 (List.mem_of_getElem? (i := 61) rfl)) rfl⟩
theorem fr_RX6_107 : zFR RX6 107 9 1 := ⟨(RX9, TX9, 5), rfl, by decide, zT_in (zmt3 (List.mem_of_getElem? (i := 74) rfl)) rfl⟩
theorem fr_RX6_112 : zFR RX6 112 1 7 := ⟨(RX1, TX1, 17), rfl, by decide, zT_in (zmt1 (List.mem_of_getElem? (i := 71) rfl)) rfl⟩
theorem fr_RX6_118 : zFR RX6 118 1 9 := ⟨(RX1, TX1, 17), rfl, by decide, zT_in (zmt1 (List.mem_of_getElem? (i := 81) rfl)) rfl⟩
theorem fr_RX6_122 : zFR RX6 122 5 2 := ⟨(RX5, TX5, 6), rfl, by decide, zT_in (zmt3 (List.mem_of_getElem? (i := 218) rfl)) rfl⟩
theorem fr_RX6_127 : zFR RX6 127 5 3 := ⟨(RX5, TX5, 6), rfl, by decide, zT_in (zmt3 (List.mem_of_getElem? (i := 226) rfl)) rfl⟩
theorem fr_RX7_9 : zFR RX7 9 7 3 := ⟨(RX7, TX7, 19), rfl, by decide, zT_in (zmt2 (List.mem_of_getElem? (i := 3) rfl)) rfl⟩
theorem fr_RX7_15 : zFR RX7 15 7 5 := ⟨(RX7, TX7, 19), rfl, by decide, zT_in (zmt2 (List.mem_of_getElem? (i := 6) rfl)) rfl⟩
theorem fr_RX7_20 : zFR RX7 20 7 9 := ⟨(RX7, TX7, 19), rfl, by decide, zT_in (zmt2 (List.mem_of_getElem? (i := 14) rfl)) rfl⟩
theorem fr_RX7_24 : zFR RX7 24 7 10 := ⟨(RX7, TX7, 19), rfl, by decide, zT_in (zmt2 (List.mem_of_getElem? (i := 15) rfl)) rfl⟩
theorem fr_RX7_29 : zFR RX7 29 7 11 := ⟨(RX7, TX7, 19), rfl, by decide, zT_in (zmt2 (List.mem_of_getElem? (i := 16) rfl)) rfl⟩
theorem fr_RX7_32 : zFR RX7 32 7 13 := ⟨(RX7, TX7, 19), rfl, by decide, zT_in (zmt2 (List.mem_of_getElem? (i := 18) rfl)) rfl⟩
theorem fr_RX7_37 : zFR RX7 37 7 15 := ⟨(RX7, TX7, 19), rfl, by decide, zT_in (zmt2 (List.mem_of_getElem? (i := 20) rfl)) rfl⟩
theorem fr_RX7_40 : zFR RX7 40 7 17 := ⟨(RX7, TX7, 19), rfl, by decide, zT_in (zmt2 (List.mem_of_getElem? (i := 22) rfl)) rfl⟩
theorem fr_RX7_43 : zFR RX7 43 7 18 := ⟨(RX7, TX7, 19), rfl, by decide, zT_in (zmt2 (List.mem_of_getElem? (i := 23) rfl)) rfl⟩
theorem fr_RX7_46 : zFR RX7 46 7 0 := ⟨(RX7, TX7, 19), rfl, by decide, zT_in (zmt2 (List.mem_of_getElem? (i := 0) rfl)) rfl⟩
theorem fr_RX7_50 : zFR RX7 50 7 1 := ⟨(RX7, TX7, 19), rfl, by decide, zT_in (zmt2 (List.mem_of_getElem? (i := 1) rfl)) rfl⟩
theorem fr_RX7_54 : zFR RX7 54 7 2 := ⟨(RX7, TX7, 19), rfl, by decide, zT_in (zmt2 (List.mem_of_getElem? (i := 2) rfl)) rfl⟩
theorem fr_RX7_73 : zFR RX7 73 7 4 := ⟨(RX7, TX7, 19), rfl, by decide, zT_in (zmt2 (List.mem_of_getElem? (i := 4) rfl)) rfl⟩
theorem fr_RX7_76 : zFR RX7 76 7 6 := ⟨(RX7, TX7, 19), rfl, by decide, zT_in (zmt2 (List.mem_of_getElem? (i := 8) rfl)) rfl⟩
theorem fr_RX7_80 : zFR RX7 80 7 7 := ⟨(RX7, TX7, 19), rfl, by decide, zT_in (zmt2 (List.mem_of_getElem? (i := 10) rfl)) rfl⟩
theorem fr_RX7_83 : zFR RX7 83 7 8 := ⟨(RX7, TX7, 19), rfl, by decide, zT_in (zmt2 (List.mem_of_getElem? (i := 12) rfl)) rfl⟩
theorem fr_RX7_86 : zFR RX7 86 7 14 := ⟨(RX7, TX7, 19), rfl, by decide, zT_in (zmt2 (List.mem_of_getElem? (i := 19) rfl)) rfl⟩
theorem fr_RX7_89 : zFR RX7 89 7 16 := ⟨(RX7, TX7, 19), rfl, by decide, zT_in (zmt2 (List.mem_of_getElem? (i := 21) rfl)) rfl⟩
theorem fr_RX7_117 : zFR RX7 117 1 15 := ⟨(RX1, TX1, 17), rfl, by decide, zT_in (zmt1 (List.mem_of_getElem? (i := 101) rfl)) rfl⟩
theorem fr_RX7_124 : zFR RX7 124 7 12 := ⟨(RX7, TX7, 19), rfl, by decide, zT_in (zmt2 (List.mem_of_getElem? (i := 17) rfl)) rfl⟩
theorem fr_RX7_128 : zFR RX7 128 1 3 := ⟨(RX1, TX1, 17), rfl, by decide, zT_in (zmt1 (List.mem_of_getElem? (i := 58) rfl)) rfl⟩
theorem fr_RX7_141 : zFR RX7 141 1 8 := ⟨(RX1, TX1, 17), rfl, by decide, zT_in (zmt1 (List.mem_of_getElem? (i := 77) rfl)) rfl⟩
theorem fr_RX7_144 : zFR RX7 144 1 9 := ⟨(RX1, TX1, 17), rfl, by decide, zT_in (zmt1 (List.mem_of_getElem? (i := 82) rfl)) rfl⟩
theorem fr_RX7_148 : zFR RX7 148 1 10 := ⟨(RX1, TX1, 17), rfl, by decide, zT_in (zmt1 (List.mem_of_getElem? (i := 89) rfl)) rfl⟩
theorem fr_RX7_151 : zFR RX7 151 5 2 := ⟨(RX5, TX5, 6), rfl, by decide, zT_in (zmt3 (List.mem_of_getElem? (i := 219) rfl)) rfl⟩
theorem fr_RX7_156 : zFR RX7 156 5 3 := ⟨(RX5, TX5, 6), rfl, by decide, zT_in (zmt3 (List.mem_of_getElem? (i := 227) rfl)) rfl⟩
theorem fr_RX7_163 : zFR RX7 163 1 4 := ⟨(RX1, TX1, 17), rfl, by decide, zT_in (zmt1 (List.mem_of_getElem? (i := 62) rfl)) rfl⟩
theorem fr_RX7_173 : zFR RX7 173 9 2 := ⟨(RX9, TX9, 5), rfl, by decide, zT_in (zmt3 (List.mem_of_getElem? (i := 78) rfl)) rfl⟩
theorem fr_RX8_9 : zFR RX8 9 8 0 := ⟨(RX8, TX8, 3), rfl, by decide, zT_in (zmt2 (List.mem_of_getElem? (i := 149) rfl)) rfl⟩
theorem fr_RX8_15 : zFR RX8 15 8 1 := ⟨(RX8, TX8, 3), rfl, by decide, zT_in (zmt2 (List.mem_of_getElem? (i := 151) rfl)) rfl⟩
theorem fr_RX8_18 : zFR RX8 18 8 2 := ⟨(RX8, TX8, 3), rfl, by decide, zT_in (zmt2 (List.mem_of_getElem? (i := 152) rfl)) rfl⟩
theorem fr_RX9_9 : zFR RX9 9 9 0 := ⟨(RX9, TX9, 5), rfl, by decide, zT_in (zmt3 (List.mem_of_getElem? (i := 68) rfl)) rfl⟩
theorem fr_RX9_15 : zFR RX9 15 9 1 := ⟨(RX9, TX9, 5), rfl, by decide, zT_in (zmt3 (List.mem_of_getElem? (i := 71) rfl)) rfl⟩
theorem fr_RX9_18 : zFR RX9 18 9 2 := ⟨(RX9, TX9, 5), rfl, by decide, zT_in (zmt3 (List.mem_of_getElem? (i := 75) rfl)) rfl⟩
theorem fr_RX9_21 : zFR RX9 21 9 3 := ⟨(RX9, TX9, 5), rfl, by decide, zT_in (zmt3 (List.mem_of_getElem? (i := 79) rfl)) rfl⟩
theorem fr_RX9_24 : zFR RX9 24 9 4 := ⟨(RX9, TX9, 5), rfl, by decide, zT_in (zmt3 (List.mem_of_getElem? (i := 81) rfl)) rfl⟩
theorem fr_RX10_11 : zFR RX10 11 10 3 := ⟨(RX10, TX10, 5), rfl, by decide, zT_in (zmt2 (List.mem_of_getElem? (i := 115) rfl)) rfl⟩
theorem fr_RX10_16 : zFR RX10 16 10 4 := ⟨(RX10, TX10, 5), rfl, by decide, zT_in (zmt2 (List.mem_of_getElem? (i := 116) rfl)) rfl⟩
theorem fr_RX10_20 : zFR RX10 20 10 0 := ⟨(RX10, TX10, 5), rfl, by decide, zT_in (zmt2 (List.mem_of_getElem? (i := 112) rfl)) rfl⟩
theorem fr_RX10_24 : zFR RX10 24 10 1 := ⟨(RX10, TX10, 5), rfl, by decide, zT_in (zmt2 (List.mem_of_getElem? (i := 113) rfl)) rfl⟩
theorem fr_RX10_28 : zFR RX10 28 10 2 := ⟨(RX10, TX10, 5), rfl, by decide, zT_in (zmt2 (List.mem_of_getElem? (i := 114) rfl)) rfl⟩
theorem fr_RX10_32 : zFR RX10 32 1 13 := ⟨(RX1, TX1, 17), rfl, by decide, zT_in (zmt1 (List.mem_of_getElem? (i := 96) rfl)) rfl⟩
theorem fr_RX10_66 : zFR RX10 66 1 12 := ⟨(RX1, TX1, 17), rfl, by decide, zT_in (zmt1 (List.mem_of_getElem? (i := 93) rfl)) rfl⟩
theorem fr_RX10_74 : zFR RX10 74 3 0 := ⟨(RX3, TX3, 2), rfl, by decide, zT_in (zmt1 (List.mem_of_getElem? (i := 159) rfl)) rfl⟩
theorem fr_RX10_79 : zFR RX10 79 1 14 := ⟨(RX1, TX1, 17), rfl, by decide, zT_in (zmt1 (List.mem_of_getElem? (i := 98) rfl)) rfl⟩
theorem fr_RX12_7 : zFR RX12 7 12 3 := ⟨(RX12, TX12, 83), rfl, by decide, zT_in (zmt6 (List.mem_of_getElem? (i := 138) rfl)) rfl⟩
theorem fr_RX12_13 : zFR RX12 13 12 5 := ⟨(RX12, TX12, 83), rfl, by decide, zT_in (zmt6 (List.mem_of_getElem? (i := 140) rfl)) rfl⟩
theorem fr_RX12_17 : zFR RX12 17 12 6 := ⟨(RX12, TX12, 83), rfl, by decide, zT_in (zmt6 (List.mem_of_getElem? (i := 141) rfl)) rfl⟩
theorem fr_RX12_20 : zFR RX12 20 12 7 := ⟨(RX12, TX12, 83), rfl, by decide, zT_in (zmt6 (List.mem_of_getElem? (i := 142) rfl)) rfl⟩
theorem fr_RX12_23 : zFR RX12 23 12 8 := ⟨(RX12, TX12, 83), rfl, by decide, zT_in (zmt6 (List.mem_of_getElem? (i := 143) rfl)) rfl⟩
theorem fr_RX12_26 : zFR RX12 26 12 9 := ⟨(RX12, TX12, 83), rfl, by decide, zT_in (zmt6 (List.mem_of_getElem? (i := 144) rfl)) rfl⟩
theorem fr_RX12_29 : zFR RX12 29 12 10 := ⟨(RX12, TX12, 83), rfl, by decide, zT_in (zmt6 (List.mem_of_getElem? (i := 145) rfl)) rfl⟩
theorem fr_RX12_32 : zFR RX12 32 12 11 := ⟨(RX12, TX12, 83), rfl, by decide, zT_in (zmt6 (List.mem_of_getElem? (i := 146) rfl)) rfl⟩
theorem fr_RX12_35 : zFR RX12 35 12 13 := ⟨(RX12, TX12, 83), rfl, by decide, zT_in (zmt6 (List.mem_of_getElem? (i := 148) rfl)) rfl⟩
theorem fr_RX12_38 : zFR RX12 38 12 14 := ⟨(RX12, TX12, 83), rfl, by decide, zT_in (zmt6 (List.mem_of_getElem? (i := 149) rfl)) rfl⟩
theorem fr_RX12_41 : zFR RX12 41 12 15 := ⟨(RX12, TX12, 83), rfl, by decide, zT_in (zmt6 (List.mem_of_getElem? (i := 150) rfl)) rfl⟩
theorem fr_RX12_44 : zFR RX12 44 12 16 := ⟨(RX12, TX12, 83), rfl, by decide, zT_in (zmt6 (List.mem_of_getElem? (i := 151) rfl)) rfl⟩
theorem fr_RX12_47 : zFR RX12 47 12 17 := ⟨(RX12, TX12, 83), rfl, by decide, zT_in (zmt6 (List.mem_of_getElem? (i := 152) rfl)) rfl⟩
theorem fr_RX12_50 : zFR RX12 50 12 18 := ⟨(RX12, TX12, 83), rfl, by decide, zT_in (zmt6 (List.mem_of_getElem? (i := 153) rfl)) rfl⟩
theorem fr_RX12_53 : zFR RX12 53 12 20 := ⟨(RX12, TX12, 83), rfl, by decide, zT_in (zmt6 (List.mem_of_getElem? (i := 155) rfl)) rfl⟩
theorem fr_RX12_56 : zFR RX12 56 12 21 := ⟨(RX12, TX12, 83), rfl, by decide, zT_in (zmt6 (List.mem_of_getElem? (i := 156) rfl)) rfl⟩
theorem fr_RX12_59 : zFR RX12 59 12 22 := ⟨(RX12, TX12, 83), rfl, by decide, zT_in (zmt6 (List.mem_of_getElem? (i := 157) rfl)) rfl⟩
theorem fr_RX12_62 : zFR RX12 62 12 24 := ⟨(RX12, TX12, 83), rfl, by decide, zT_in (zmt6 (List.mem_of_getElem? (i := 159) rfl)) rfl⟩
theorem fr_RX12_65 : zFR RX12 65 12 28 := ⟨(RX12, TX12, 83), rfl, by decide, zT_in (zmt6 (List.mem_of_getElem? (i := 163) rfl)) rfl⟩
theorem fr_RX12_68 : zFR RX12 68 12 29 := ⟨(RX12, TX12, 83), rfl, by decide, zT_in (zmt6 (List.mem_of_getElem? (i := 164) rfl)) rfl⟩
theorem fr_RX12_71 : zFR RX12 71 12 30 := ⟨(RX12, TX12, 83), rfl, by decide, zT_in (zmt6 (List.mem_of_getElem? (i := 165) rfl)) rfl⟩
theorem fr_RX12_75 : zFR RX12 75 12 31 := ⟨(RX12, TX12, 83), rfl, by decide, zT_in (zmt6 (List.mem_of_getElem? (i := 166) rfl)) rfl⟩
theorem fr_RX12_78 : zFR RX12 78 12 32 := ⟨(RX12, TX12, 83), rfl, by decide, zT_in (zmt6 (List.mem_of_getElem? (i := 167) rfl)) rfl⟩
theorem fr_RX12_81 : zFR RX12 81 12 33 := ⟨(RX12, TX12, 83), rfl, by decide, zT_in (zmt6 (List.mem_of_getElem? (i := 168) rfl)) rfl⟩
theorem fr_RX12_84 : zFR RX12 84 12 34 := ⟨(RX12, TX12, 83), rfl, by decide, zT_in (zmt6 (List.mem_of_getElem? (i := 169) rfl)) rfl⟩
theorem fr_RX12_87 : zFR RX12 87 12 36 := ⟨(RX12, TX12, 83), rfl, by decide, zT_in (zmt6 (List.mem_of_getElem? (i := 171) rfl)) rfl⟩
theorem fr_RX12_90 : zFR RX12 90 12 38 := ⟨(RX12, TX12, 83), rfl, by decide, zT_in (zmt6 (List.mem_of_getElem? (i := 173) rfl)) rfl⟩
theorem fr_RX12_93 : zFR RX12 93 12 39 := ⟨(RX12, TX12, 83), rfl, by decide, zT_in (zmt6 (List.mem_of_getElem? (i := 174) rfl)) rfl⟩
theorem fr_RX12_96 : zFR RX12 96 12 40 := ⟨(RX12, TX12, 83), rfl, by decide, zT_in (zmt6 (List.mem_of_getElem? (i := 175) rfl)) rfl⟩
theorem fr_RX12_99 : zFR RX12 99 12 44 := ⟨(RX12, TX12, 83), rfl, by decide, zT_in (zmt6 (List.mem_of_getElem? (i := 179) rfl)) rfl⟩
theorem fr_RX12_102 : zFR RX12 102 12 45 := ⟨(RX12, TX12, 83), rfl, by decide, zT_in (zmt6 (List.mem_of_getElem? (i := 180) rfl)) rfl⟩
theorem fr_RX12_105 : zFR RX12 105 12 47 := ⟨(RX12, TX12, 83), rfl, by decide, zT_in (zmt6 (List.mem_of_getElem? (i := 182) rfl)) rfl⟩
theorem fr_RX12_108 : zFR RX12 108 12 65 := ⟨(RX12, TX12, 83), rfl, by decide, zT_in (zmt6 (List.mem_of_getElem? (i := 200) rfl)) rfl⟩
theorem fr_RX12_111 : zFR RX12 111 12 66 := ⟨(RX12, TX12, 83), rfl, by decide, zT_in (zmt6 (List.mem_of_getElem? (i := 201) rfl)) rfl⟩
theorem fr_RX12_114 : zFR RX12 114 12 67 := ⟨(RX12, TX12, 83), rfl, by decide, zT_in (zmt6 (List.mem_of_getElem? (i := 202) rfl)) rfl⟩
theorem fr_RX12_117 : zFR RX12 117 12 70 := ⟨(RX12, TX12, 83), rfl, by decide, zT_in (zmt6 (List.mem_of_getElem? (i := 205) rfl)) rfl⟩
theorem fr_RX12_120 : zFR RX12 120 12 71 := ⟨(RX12, TX12, 83), rfl, by decide, zT_in (zmt6 (List.mem_of_getElem? (i := 206) rfl)) rfl⟩
theorem fr_RX12_123 : zFR RX12 123 12 72 := ⟨(RX12, TX12, 83), rfl, by decide, zT_in (zmt6 (List.mem_of_getElem? (i := 207) rfl)) rfl⟩
theorem fr_RX12_126 : zFR RX12 126 12 73 := ⟨(RX12, TX12, 83), rfl, by decide, zT_in (zmt6 (List.mem_of_getElem? (i := 208) rfl)) rfl⟩
theorem fr_RX12_129 : zFR RX12 129 12 74 := ⟨(RX12, TX12, 83), rfl, by decide, zT_in (zmt6 (List.mem_of_getElem? (i := 209) rfl)) rfl⟩
theorem fr_RX12_132 : zFR RX12 132 12 75 := ⟨(RX12, TX12, 83), rfl, by decide, zT_in (zmt6 (List.mem_of_getElem? (i := 210) rfl)) rfl⟩
theorem fr_RX12_135 : zFR RX12 135 12 76 := ⟨(RX12, TX12, 83), rfl, by decide, zT_in (zmt6 (List.mem_of_getElem? (i := 211) rfl)) rfl⟩
theorem fr_RX12_138 : zFR RX12 138 12 77 := ⟨(RX12, TX12, 83), rfl, by decide, zT_in (zmt6 (List.mem_of_getElem? (i := 212) rfl)) rfl⟩
theorem fr_RX12_141 : zFR RX12 141 12 79 := ⟨(RX12, TX12, 83), rfl, by decide, zT_in (zmt6 (List.mem_of_getElem? (i := 214) rfl)) rfl⟩
theorem fr_RX12_144 : zFR RX12 144 12 80 := ⟨(RX12, TX12, 83), rfl, by decide, zT_in (zmt6 (List.mem_of_getElem? (i := 215) rfl)) rfl⟩
theorem fr_RX12_147 : zFR RX12 147 12 81 := ⟨(RX12, TX12, 83), rfl, by decide, zT_in (zmt6 (List.mem_of_getElem? (i := 216) rfl)) rfl⟩
theorem fr_RX12_150 : zFR RX12 150 12 82 := ⟨(RX12, TX12, 83), rfl, by decide, zT_in (zmt6 (List.mem_of_getElem? (i := 217) rfl)) rfl⟩
theorem fr_RX12_153 : zFR RX12 153 12 1 := ⟨(RX12, TX12, 83), rfl, by decide, zT_in (zmt6 (List.mem_of_getElem? (i := 136) rfl)) rfl⟩
theorem fr_RX12_157 : zFR RX12 157 12 2 := ⟨(RX12, TX12, 83), rfl, by decide, zT_in (zmt6 (List.mem_of_getElem? (i := 137) rfl)) rfl⟩
theorem fr_RX12_166 : zFR RX12 166 12 0 := ⟨(RX12, TX12, 83), rfl, by decide, zT_in (zmt6 (List.mem_of_getElem? (i := 135) rfl)) rfl⟩
theorem fr_RX12_183 : zFR RX12 183 12 4 := ⟨(RX12, TX12, 83), rfl, by decide, zT_in (zmt6 (List.mem_of_getElem? (i := 139) rfl)) rfl⟩
theorem fr_RX12_186 : zFR RX12 186 12 12 := ⟨(RX12, TX12, 83), rfl, by decide, zT_in (zmt6 (List.mem_of_getElem? (i := 147) rfl)) rfl⟩
theorem fr_RX12_189 : zFR RX12 189 12 25 := ⟨(RX12, TX12, 83), rfl, by decide, zT_in (zmt6 (List.mem_of_getElem? (i := 160) rfl)) rfl⟩
theorem fr_RX12_193 : zFR RX12 193 12 26 := ⟨(RX12, TX12, 83), rfl, by decide, zT_in (zmt6 (List.mem_of_getElem? (i := 161) rfl)) rfl⟩
theorem fr_RX12_196 : zFR RX12 196 12 27 := ⟨(RX12, TX12, 83), rfl, by decide, zT_in (zmt6 (List.mem_of_getElem? (i := 162) rfl)) rfl⟩
theorem fr_RX12_204 : zFR RX12 204 12 19 := ⟨(RX12, TX12, 83), rfl, by decide, zT_in (zmt6 (List.mem_of_getElem? (i := 154) rfl)) rfl⟩
theorem fr_RX12_207 : zFR RX12 207 12 23 := ⟨(RX12, TX12, 83), rfl, by decide, zT_in (zmt6 (List.mem_of_getElem? (i := 158) rfl)) rfl⟩
theorem fr_RX12_324 : zFR RX12 324 12 35 := ⟨(RX12, TX12, 83), rfl, by decide, zT_in (zmt6 (List.mem_of_getElem? (i := 170) rfl)) rfl⟩
theorem fr_RX12_335 : zFR RX12 335 12 37 := ⟨(RX12, TX12, 83), rfl, by decide, zT_in (zmt6 (List.mem_of_getElem? (i := 172) rfl)) rfl⟩
theorem fr_RX12_341 : zFR RX12 341 12 43 := ⟨(RX12, TX12, 83), rfl, by decide, zT_in (zmt6 (List.mem_of_getElem? (i := 178) rfl)) rfl⟩
theorem fr_RX12_344 : zFR RX12 344 12 46 := ⟨(RX12, TX12, 83), rfl, by decide, zT_in (zmt6 (List.mem_of_getElem? (i := 181) rfl)) rfl⟩
theorem fr_RX12_347 : zFR RX12 347 12 52 := ⟨(RX12, TX12, 83), rfl, by decide, zT_in (zmt6 (List.mem_of_getElem? (i := 187) rfl)) rfl⟩
theorem fr_RX12_350 : zFR RX12 350 12 48 := ⟨(RX12, TX12, 83), rfl, by decide, zT_in (zmt6 (List.mem_of_getElem? (i := 183) rfl)) rfl⟩
theorem fr_RX12_353 : zFR RX12 353 12 50 := ⟨(RX12, TX12, 83), rfl, by decide, zT_in (zmt6 (List.mem_of_getElem? (i := 185) rfl)) rfl⟩
theorem fr_RX12_356 : zFR RX12 356 12 49 := ⟨(RX12, TX12, 83), rfl, by decide, zT_in (zmt6 (List.mem_of_getElem? (i := 184) rfl)) rfl⟩
theorem fr_RX12_359 : zFR RX12 359 12 51 := ⟨(RX12, TX12, 83), rfl, by decide, zT_in (zmt6 (List.mem_of_getElem? (i := 186) rfl)) rfl⟩
theorem fr_RX12_362 : zFR RX12 362 12 41 := ⟨(RX12, TX12, 83), rfl, by decide, zT_in (zmt6 (List.mem_of_getElem? (i := 176) rfl)) rfl⟩
theorem fr_RX12_382 : zFR RX12 382 12 42 := ⟨(RX12, TX12, 83), rfl, by decide, zT_in (zmt6 (List.mem_of_getElem? (i := 177) rfl)) rfl⟩
theorem fr_RX12_397 : zFR RX12 397 12 54 := ⟨(RX12, TX12, 83), rfl, by decide, zT_in (zmt6 (List.mem_of_getElem? (i := 189) rfl)) rfl⟩
theorem fr_RX12_400 : zFR RX12 400 12 55 := ⟨(RX12, TX12, 83), rfl, by decide, zT_in (zmt6 (List.mem_of_getElem? (i := 190) rfl)) rfl⟩
theorem fr_RX12_403 : zFR RX12 403 12 53 := ⟨(RX12, TX12, 83), rfl, by decide, zT_in (zmt6 (List.mem_of_getElem? (i := 188) rfl)) rfl⟩
theorem fr_RX12_406 : zFR RX12 406 12 56 := ⟨(RX12, TX12, 83), rfl, by decide, zT_in (zmt6 (List.mem_of_getElem? (i := 191) rfl)) rfl⟩
theorem fr_RX12_412 : zFR RX12 412 12 57 := ⟨(RX12, TX12, 83), rfl, by decide, zT_in (zmt6 (List.mem_of_getElem? (i := 192) rfl)) rfl⟩
theorem fr_RX12_430 : zFR RX12 430 12 58 := ⟨(RX12, TX12, 83), rfl, by decide, zT_in (zmt6 (List.mem_of_getElem? (i := 193) rfl)) rfl⟩
theorem fr_RX12_433 : zFR RX12 433 12 59 := ⟨(RX12, TX12, 83), rfl, by decide, zT_in (zmt6 (List.mem_of_getElem? (i := 194) rfl)) rfl⟩
theorem fr_RX12_439 : zFR RX12 439 12 60 := ⟨(RX12, TX12, 83), rfl, by decide, zT_in (zmt6 (List.mem_of_getElem? (i := 195) rfl)) rfl⟩
theorem fr_RX12_442 : zFR RX12 442 12 61 := ⟨(RX12, TX12, 83), rfl, by decide, zT_in (zmt6 (List.mem_of_getElem? (i := 196) rfl)) rfl⟩
theorem fr_RX12_445 : zFR RX12 445 12 62 := ⟨(RX12, TX12, 83), rfl, by decide, zT_in (zmt6 (List.mem_of_getElem? (i := 197) rfl)) rfl⟩
theorem fr_RX12_448 : zFR RX12 448 12 63 := ⟨(RX12, TX12, 83), rfl, by decide, zT_in (zmt6 (List.mem_of_getElem? (i := 198) rfl)) rfl⟩
theorem fr_RX12_451 : zFR RX12 451 12 64 := ⟨(RX12, TX12, 83), rfl, by decide, zT_in (zmt6 (List.mem_of_getElem? (i := 199) rfl)) rfl⟩
theorem fr_RX12_478 : zFR RX12 478 12 69 := ⟨(RX12, TX12, 83), rfl, by decide, zT_in (zmt6 (List.mem_of_getElem? (i := 204) rfl)) rfl⟩
theorem fr_RX12_481 : zFR RX12 481 12 68 := ⟨(RX12, TX12, 83), rfl, by decide, zT_in (zmt6 (List.mem_of_getElem? (i := 203) rfl)) rfl⟩
theorem fr_RX12_506 : zFR RX12 506 12 78 := ⟨(RX12, TX12, 83), rfl, by decide, zT_in (zmt6 (List.mem_of_getElem? (i := 213) rfl)) rfl⟩
theorem mm_RX11_11 : zMI RX11 11 M_X1_init 0 := ⟨ok_X1_init, zT_in (zmt1 (List.mem_of_getElem? (i := 29) rfl)) rfl, zT_in (zmt1 (List.mem_of_getElem? (i := 30) rfl)) rfl, rfl, rfl⟩
theorem mm_RX11_20 : zMI RX11 20 M_X3_init 0 := ⟨ok_X3_init, zT_in (zmt1 (List.mem_of_getElem? (i := 143) rfl)) rfl, zT_in (zmt1 (List.mem_of_getElem? (i := 144) rfl)) rfl, rfl, rfl⟩
theorem mm_RX11_27 : zMI RX11 27 M_X4_init 2 := ⟨ok_X4_init, zT_in (zmt1 (List.mem_of_getElem? (i := 169) rfl)) rfl, zT_in (zmt1 (List.mem_of_getElem? (i := 170) rfl)) rfl, rfl, rfl⟩
theorem mm_RX11_36 : zMI RX11 36 M_X6_init 2 := ⟨ok_X6_init, zT_in (zmt1 (List.mem_of_getElem? (i := 189) rfl)) rfl, zT_in (zmt1 (List.mem_of_getElem? (i := 190) rfl)) rfl, rfl, rfl⟩
theorem mm_RX11_45 : zMI RX11 45 M_X7_init 3 := ⟨ok_X7_init, zT_in (zmt1 (List.mem_of_getElem? (i := 232) rfl)) rfl, zT_in (zmt1 (List.mem_of_getElem? (i := 233) rfl)) rfl, rfl, rfl⟩
theorem mm_RX11_54 : zMI RX11 54 M_X2_init 2 := ⟨ok_X2_init, zT_in (zmt2 (List.mem_of_getElem? (i := 65) rfl)) rfl, zT_in (zmt2 (List.mem_of_getElem? (i := 66) rfl)) rfl, rfl, rfl⟩
theorem mm_RX11_61 : zMI RX11 61 M_X10_init 3 := ⟨ok_X10_init, zT_in (zmt2 (List.mem_of_getElem? (i := 107) rfl)) rfl, zT_in (zmt2 (List.mem_of_getElem? (i := 108) rfl)) rfl, rfl, rfl⟩
theorem mm_RX11_70 : zMIN RX11 70 M_X0_init 0 := ⟨ok_X0_init, zmt2 (List.mem_of_getElem? (i := 130) rfl), zT_in (zmt2 (List.mem_of_getElem? (i := 131) rfl)) rfl, rfl, rfl⟩
theorem mm_RX11_112 : zMIN RX11 112 M_X8_init 0 := ⟨ok_X8_init, zmt2 (List.mem_of_getElem? (i := 145) rfl), zT_in (zmt2 (List.mem_of_getElem? (i := 146) rfl)) rfl, rfl, rfl⟩
theorem mm_RX11_113 : zMS RX11 113 M_X11_within 3 := ⟨ok_X11_within, zT_in (zmt2 (List.mem_of_getElem? (i := 215) rfl)) rfl, zT_in (zmt2 (List.mem_of_getElem? (i := 216) rfl)) rfl⟩
theorem mm_RX11_117 : zMV RX11 117 M_X1_clear 2 := ⟨ok_X1_clear, zT_in (zmt2 (List.mem_of_getElem? (i := 218) rfl)) rfl, zT_in (zmt1 (List.mem_of_getElem? (i := 38) rfl)) rfl, zT_in (zmt1 (List.mem_of_getElem? (i := 39) rfl)) rfl⟩
theorem mm_RX11_121 : zMV RX11 121 M_X11_wallsChanged 0 := ⟨ok_X11_wallsChanged, zT_in (zmt2 (List.mem_of_getElem? (i := 219) rfl)) rfl, zT_in (zmt2 (List.mem_of_getElem? (i := 221) rfl)) rfl, zT_in (zmp 1 _ rfl) rfl⟩
theorem mm_RX11_124 : zMV RX11 124 M_X1_isCell 1 := ⟨ok_X1_isCell, zT_in (zmt3 (List.mem_of_getElem? (i := 7) rfl)) rfl, zT_in (zmt3 (List.mem_of_getElem? (i := 8) rfl)) rfl, zT_in (zmt3 (List.mem_of_getElem? (i := 9) rfl)) rfl⟩
theorem mm_RX11_128 : zMV RX11 128 M_X1_anchorCells 0 := ⟨ok_X1_anchorCells, zT_in (zmt3 (List.mem_of_getElem? (i := 12) rfl)) rfl, zT_in (zmt3 (List.mem_of_getElem? (i := 13) rfl)) rfl, zT_in (zmt3 (List.mem_of_getElem? (i := 14) rfl)) rfl⟩
theorem mm_RX11_132 : zMS RX11 132 M_X11_has 2 := ⟨ok_X11_has, zT_in (zmt3 (List.mem_of_getElem? (i := 21) rfl)) rfl, zT_in (zmt3 (List.mem_of_getElem? (i := 22) rfl)) rfl⟩
theorem mm_RX11_140 : zMS RX11 140 M_X11_bit 1 := ⟨ok_X11_bit, zT_in (zmt1 (List.mem_of_getElem? (i := 44) rfl)) rfl, zT_in (zmt1 (List.mem_of_getElem? (i := 45) rfl)) rfl⟩
theorem mm_RX11_144 : zMV RX11 144 M_X11_refusalOfRow 2 := ⟨ok_X11_refusalOfRow, zT_in (zmt3 (List.mem_of_getElem? (i := 28) rfl)) rfl, zT_in (zmt3 (List.mem_of_getElem? (i := 30) rfl)) rfl, zT_in (zmp 3 _ rfl) rfl⟩
theorem mm_RX11_154 : zMV RX11 154 M_X8_reaches 2 := ⟨ok_X8_reaches, zT_in (zmt3 (List.mem_of_getElem? (i := 40) rfl)) rfl, zT_in (zmt3 (List.mem_of_getElem? (i := 41) rfl)) rfl, zT_in (zmt3 (List.mem_of_getElem? (i := 42) rfl)) rfl⟩
theorem mm_RX11_158 : zMV RX11 158 M_X11_faulty 1 := ⟨ok_X11_faulty, zT_in (zmt3 (List.mem_of_getElem? (i := 36) rfl)) rfl, zT_in (zmt3 (List.mem_of_getElem? (i := 38) rfl)) rfl, zT_in (zmp 4 _ rfl) rfl⟩
theorem mm_RX11_162 : zMV RX11 162 M_X11_planned 2 := ⟨ok_X11_planned, zT_in (zmt3 (List.mem_of_getElem? (i := 44) rfl)) rfl, zT_in (zmt3 (List.mem_of_getElem? (i := 46) rfl)) rfl, zT_in (zmp 5 _ rfl) rfl⟩
theorem mm_RX11_168 : zMS RX11 168 M_J13_bitCount_95d88 1 := ⟨ok_J13_bitCount_95d88, zT_in (zmt3 (List.mem_of_getElem? (i := 49) rfl)) rfl, zT_in (zmt3 (List.mem_of_getElem? (i := 50) rfl)) rfl⟩
theorem mm_RX11_175 : zMV RX11 175 M_X1_addThing 4 := ⟨ok_X1_addThing, zT_in (zmt3 (List.mem_of_getElem? (i := 59) rfl)) rfl, zT_in (zmt3 (List.mem_of_getElem? (i := 60) rfl)) rfl, zT_in (zmt3 (List.mem_of_getElem? (i := 61) rfl)) rfl⟩
theorem mm_RX11_179 : zMV RX11 179 M_X11_changed 0 := ⟨ok_X11_changed, zT_in (zmt2 (List.mem_of_getElem? (i := 227) rfl)) rfl, zT_in (zmt2 (List.mem_of_getElem? (i := 229) rfl)) rfl, zT_in (zmp 2 _ rfl) rfl⟩
theorem mm_RX11_182 : zMV RX11 182 M_X1_isThing 1 := ⟨ok_X1_isThing, zT_in (zmt3 (List.mem_of_getElem? (i := 99) rfl)) rfl, zT_in (zmt3 (List.mem_of_getElem? (i := 100) rfl)) rfl, zT_in (zmt3 (List.mem_of_getElem? (i := 101) rfl)) rfl⟩
theorem mm_RX11_188 : zMV RX11 188 M_X9_isAnchor 0 := ⟨ok_X9_isAnchor, zT_in (zmt3 (List.mem_of_getElem? (i := 103) rfl)) rfl, zT_in (zmt3 (List.mem_of_getElem? (i := 17) rfl)) rfl, zT_in (zmt3 (List.mem_of_getElem? (i := 18) rfl)) rfl⟩
theorem mm_RX11_192 : zMS RX11 192 M_X11_isSpan 2 := ⟨ok_X11_isSpan, zT_in (zmt3 (List.mem_of_getElem? (i := 104) rfl)) rfl, zT_in (zmt3 (List.mem_of_getElem? (i := 105) rfl)) rfl⟩
theorem mm_RX11_199 : zMS RX11 199 M_X11_boxed 4 := ⟨ok_X11_boxed, zT_in (zmt3 (List.mem_of_getElem? (i := 107) rfl)) rfl, zT_in (zmt1 (List.mem_of_getElem? (i := 42) rfl)) rfl⟩
theorem mm_RX11_203 : zMV RX11 203 M_X1_toldCells 1 := ⟨ok_X1_toldCells, zT_in (zmt3 (List.mem_of_getElem? (i := 108) rfl)) rfl, zT_in (zmt3 (List.mem_of_getElem? (i := 109) rfl)) rfl, zT_in (zmt3 (List.mem_of_getElem? (i := 110) rfl)) rfl⟩
theorem mm_RX11_206 : zMV RX11 206 M_X11_narrowed 0 := ⟨ok_X11_narrowed, zT_in (zmt3 (List.mem_of_getElem? (i := 116) rfl)) rfl, zT_in (zmt3 (List.mem_of_getElem? (i := 118) rfl)) rfl, zT_in (zmp 6 _ rfl) rfl⟩
theorem mm_RX11_210 : zMV RX11 210 M_X6_cellsOf 1 := ⟨ok_X6_cellsOf, zT_in (zmt3 (List.mem_of_getElem? (i := 165) rfl)) rfl, zT_in (zmt3 (List.mem_of_getElem? (i := 166) rfl)) rfl, zT_in (zmt3 (List.mem_of_getElem? (i := 167) rfl)) rfl⟩
theorem mm_RX11_216 : zMS RX11 216 M_X11_lowest 1 := ⟨ok_X11_lowest, zT_in (zmt3 (List.mem_of_getElem? (i := 169) rfl)) rfl, zT_in (zmt3 (List.mem_of_getElem? (i := 139) rfl)) rfl⟩
theorem mm_RX11_219 : zMV RX11 219 M_X1_measuresOf 1 := ⟨ok_X1_measuresOf, zT_in (zmt3 (List.mem_of_getElem? (i := 170) rfl)) rfl, zT_in (zmt3 (List.mem_of_getElem? (i := 171) rfl)) rfl, zT_in (zmt3 (List.mem_of_getElem? (i := 172) rfl)) rfl⟩
theorem mm_RX11_238 : zMV RX11 238 M_X4_hopsBetween 3 := ⟨ok_X4_hopsBetween, zT_in (zmt3 (List.mem_of_getElem? (i := 186) rfl)) rfl, zT_in (zmt3 (List.mem_of_getElem? (i := 187) rfl)) rfl, zT_in (zmt3 (List.mem_of_getElem? (i := 188) rfl)) rfl⟩
theorem mm_RX11_242 : zMS RX11 242 M_X11_isTold 3 := ⟨ok_X11_isTold, zT_in (zmt3 (List.mem_of_getElem? (i := 194) rfl)) rfl, zT_in (zmt3 (List.mem_of_getElem? (i := 195) rfl)) rfl⟩
theorem mm_RX11_248 : zMV RX11 248 M_X1_addMeasure 5 := ⟨ok_X1_addMeasure, zT_in (zmt3 (List.mem_of_getElem? (i := 197) rfl)) rfl, zT_in (zmt3 (List.mem_of_getElem? (i := 198) rfl)) rfl, zT_in (zmt3 (List.mem_of_getElem? (i := 199) rfl)) rfl⟩
theorem mm_RX11_252 : zMV RX11 252 M_X11_measuresFrom 3 := ⟨ok_X11_measuresFrom, zT_in (zmt4 (List.mem_of_getElem? (i := 14) rfl)) rfl, zT_in (zmt4 (List.mem_of_getElem? (i := 16) rfl)) rfl, zT_in (zmp 12 _ rfl) rfl⟩
theorem mm_RX11_256 : zMV RX11 256 M_X1_isMeasure 1 := ⟨ok_X1_isMeasure, zT_in (zmt4 (List.mem_of_getElem? (i := 23) rfl)) rfl, zT_in (zmt4 (List.mem_of_getElem? (i := 24) rfl)) rfl, zT_in (zmt4 (List.mem_of_getElem? (i := 25) rfl)) rfl⟩
theorem mm_RX11_275 : zMV RX11 275 M_X6_isQuarrel 0 := ⟨ok_X6_isQuarrel, zT_in (zmt4 (List.mem_of_getElem? (i := 31) rfl)) rfl, zT_in (zmt4 (List.mem_of_getElem? (i := 32) rfl)) rfl, zT_in (zmt4 (List.mem_of_getElem? (i := 33) rfl)) rfl⟩
theorem mm_RX11_278 : zMV RX11 278 M_X6_leastQuarrel 0 := ⟨ok_X6_leastQuarrel, zT_in (zmt4 (List.mem_of_getElem? (i := 35) rfl)) rfl, zT_in (zmt4 (List.mem_of_getElem? (i := 36) rfl)) rfl, zT_in (zmt4 (List.mem_of_getElem? (i := 37) rfl)) rfl⟩
theorem mm_RX11_281 : zMV RX11 281 M_X11_makeReady 0 := ⟨ok_X11_makeReady, zT_in (zmt3 (List.mem_of_getElem? (i := 120) rfl)) rfl, zT_in (zmt3 (List.mem_of_getElem? (i := 122) rfl)) rfl, zT_in (zmp 7 _ rfl) rfl⟩
theorem mm_RX11_284 : zMV RX11 284 M_X4_isKept 3 := ⟨ok_X4_isKept, zT_in (zmt4 (List.mem_of_getElem? (i := 45) rfl)) rfl, zT_in (zmt4 (List.mem_of_getElem? (i := 46) rfl)) rfl, zT_in (zmt4 (List.mem_of_getElem? (i := 47) rfl)) rfl⟩
theorem mm_RX11_288 : zMV RX11 288 M_X1_groupOf 1 := ⟨ok_X1_groupOf, zT_in (zmt4 (List.mem_of_getElem? (i := 58) rfl)) rfl, zT_in (zmt4 (List.mem_of_getElem? (i := 59) rfl)) rfl, zT_in (zmt4 (List.mem_of_getElem? (i := 60) rfl)) rfl⟩
theorem mm_RX11_294 : zMV RX11 294 M_X7_forget 0 := ⟨ok_X7_forget, zT_in (zmt2 (List.mem_of_getElem? (i := 235) rfl)) rfl, zT_in (zmt2 (List.mem_of_getElem? (i := 236) rfl)) rfl, zT_in (zmt2 (List.mem_of_getElem? (i := 237) rfl)) rfl⟩
theorem mm_RX11_297 : zMV RX11 297 M_X11_isSpent 1 := ⟨ok_X11_isSpent, zT_in (zmt4 (List.mem_of_getElem? (i := 87) rfl)) rfl, zT_in (zmt4 (List.mem_of_getElem? (i := 89) rfl)) rfl, zT_in (zmp 13 _ rfl) rfl⟩
theorem mm_RX11_306 : zMV RX11 306 M_X7_placeOf 1 := ⟨ok_X7_placeOf, zT_in (zmt4 (List.mem_of_getElem? (i := 152) rfl)) rfl, zT_in (zmt4 (List.mem_of_getElem? (i := 124) rfl)) rfl, zT_in (zmt4 (List.mem_of_getElem? (i := 125) rfl)) rfl⟩
theorem mm_RX11_309 : zMV RX11 309 M_X7_cellIn 2 := ⟨ok_X7_cellIn, zT_in (zmt4 (List.mem_of_getElem? (i := 153) rfl)) rfl, zT_in (zmt4 (List.mem_of_getElem? (i := 154) rfl)) rfl, zT_in (zmt4 (List.mem_of_getElem? (i := 155) rfl)) rfl⟩
theorem mm_RX11_312 : zMV RX11 312 M_X7_sureCell 1 := ⟨ok_X7_sureCell, zT_in (zmt4 (List.mem_of_getElem? (i := 161) rfl)) rfl, zT_in (zmt4 (List.mem_of_getElem? (i := 162) rfl)) rfl, zT_in (zmt4 (List.mem_of_getElem? (i := 163) rfl)) rfl⟩
theorem mm_RX11_315 : zMV RX11 315 M_X7_possible 1 := ⟨ok_X7_possible, zT_in (zmt4 (List.mem_of_getElem? (i := 175) rfl)) rfl, zT_in (zmt4 (List.mem_of_getElem? (i := 176) rfl)) rfl, zT_in (zmt4 (List.mem_of_getElem? (i := 177) rfl)) rfl⟩
theorem mm_RX11_318 : zMV RX11 318 M_X7_goTogether 4 := ⟨ok_X7_goTogether, zT_in (zmt4 (List.mem_of_getElem? (i := 183) rfl)) rfl, zT_in (zmt4 (List.mem_of_getElem? (i := 184) rfl)) rfl, zT_in (zmt4 (List.mem_of_getElem? (i := 185) rfl)) rfl⟩
theorem mm_RX11_322 : zMV RX11 322 M_X7_isPossible 2 := ⟨ok_X7_isPossible, zT_in (zmt4 (List.mem_of_getElem? (i := 187) rfl)) rfl, zT_in (zmt4 (List.mem_of_getElem? (i := 188) rfl)) rfl, zT_in (zmt4 (List.mem_of_getElem? (i := 189) rfl)) rfl⟩
theorem mm_RX11_325 : zMV RX11 325 M_X7_bestAsked 0 := ⟨ok_X7_bestAsked, zT_in (zmt4 (List.mem_of_getElem? (i := 195) rfl)) rfl, zT_in (zmt4 (List.mem_of_getElem? (i := 196) rfl)) rfl, zT_in (zmt4 (List.mem_of_getElem? (i := 197) rfl)) rfl⟩
theorem mm_RX11_332 : zMV RX11 332 M_X7_worst 1 := ⟨ok_X7_worst, zT_in (zmt4 (List.mem_of_getElem? (i := 203) rfl)) rfl, zT_in (zmt4 (List.mem_of_getElem? (i := 200) rfl)) rfl, zT_in (zmt4 (List.mem_of_getElem? (i := 201) rfl)) rfl⟩
theorem mm_RX11_338 : zMV RX11 338 M_X7_bestBetween 1 := ⟨ok_X7_bestBetween, zT_in (zmt4 (List.mem_of_getElem? (i := 208) rfl)) rfl, zT_in (zmt4 (List.mem_of_getElem? (i := 209) rfl)) rfl, zT_in (zmt4 (List.mem_of_getElem? (i := 210) rfl)) rfl⟩
theorem mm_RX11_341 : zMV RX11 341 M_X1_firstUntold 0 := ⟨ok_X1_firstUntold, zT_in (zmt4 (List.mem_of_getElem? (i := 236) rfl)) rfl, zT_in (zmt4 (List.mem_of_getElem? (i := 237) rfl)) rfl, zT_in (zmt4 (List.mem_of_getElem? (i := 238) rfl)) rfl⟩
theorem mm_RX11_344 : zMV RX11 344 M_X1_firstCrowded 0 := ⟨ok_X1_firstCrowded, zT_in (zmt5 (List.mem_of_getElem? (i := 1) rfl)) rfl, zT_in (zmt5 (List.mem_of_getElem? (i := 2) rfl)) rfl, zT_in (zmt5 (List.mem_of_getElem? (i := 3) rfl)) rfl⟩
theorem mm_RX11_347 : zMV RX11 347 M_X4_firstBroken 0 := ⟨ok_X4_firstBroken, zT_in (zmt5 (List.mem_of_getElem? (i := 5) rfl)) rfl, zT_in (zmt5 (List.mem_of_getElem? (i := 6) rfl)) rfl, zT_in (zmt5 (List.mem_of_getElem? (i := 7) rfl)) rfl⟩
theorem mm_RX11_350 : zMV RX11 350 M_X11_refusalOfFlips 1 := ⟨ok_X11_refusalOfFlips, zT_in (zmt5 (List.mem_of_getElem? (i := 14) rfl)) rfl, zT_in (zmt5 (List.mem_of_getElem? (i := 16) rfl)) rfl, zT_in (zmp 23 _ rfl) rfl⟩
theorem mm_RX11_353 : zMV RX11 353 M_X2_seek 2 := ⟨ok_X2_seek, zT_in (zmt5 (List.mem_of_getElem? (i := 22) rfl)) rfl, zT_in (zmt5 (List.mem_of_getElem? (i := 23) rfl)) rfl, zT_in (zmt5 (List.mem_of_getElem? (i := 24) rfl)) rfl⟩
theorem mm_RX11_357 : zMV RX11 357 M_X11_refusalOfFlip 2 := ⟨ok_X11_refusalOfFlip, zT_in (zmt5 (List.mem_of_getElem? (i := 84) rfl)) rfl, zT_in (zmt5 (List.mem_of_getElem? (i := 86) rfl)) rfl, zT_in (zmp 32 _ rfl) rfl⟩
theorem mm_RX11_372 : zMV RX11 372 M_X2_settleOnMap 0 := ⟨ok_X2_settleOnMap, zT_in (zmt5 (List.mem_of_getElem? (i := 92) rfl)) rfl, zT_in (zmt5 (List.mem_of_getElem? (i := 93) rfl)) rfl, zT_in (zmt5 (List.mem_of_getElem? (i := 94) rfl)) rfl⟩
theorem mm_RX11_378 : zMV RX11 378 M_X1_addMover 2 := ⟨ok_X1_addMover, zT_in (zmt5 (List.mem_of_getElem? (i := 100) rfl)) rfl, zT_in (zmt5 (List.mem_of_getElem? (i := 101) rfl)) rfl, zT_in (zmt5 (List.mem_of_getElem? (i := 102) rfl)) rfl⟩
theorem mm_RX11_381 : zMV RX11 381 M_X1_isTick 2 := ⟨ok_X1_isTick, zT_in (zmt5 (List.mem_of_getElem? (i := 110) rfl)) rfl, zT_in (zmt5 (List.mem_of_getElem? (i := 111) rfl)) rfl, zT_in (zmt5 (List.mem_of_getElem? (i := 112) rfl)) rfl⟩
theorem mm_RX11_387 : zMV RX11 387 M_X1_isMover 1 := ⟨ok_X1_isMover, zT_in (zmt5 (List.mem_of_getElem? (i := 122) rfl)) rfl, zT_in (zmt5 (List.mem_of_getElem? (i := 115) rfl)) rfl, zT_in (zmt5 (List.mem_of_getElem? (i := 116) rfl)) rfl⟩
theorem mm_RX11_392 : zMV RX11 392 M_X10_count 1 := ⟨ok_X10_count, zT_in (zmt5 (List.mem_of_getElem? (i := 124) rfl)) rfl, zT_in (zmt5 (List.mem_of_getElem? (i := 125) rfl)) rfl, zT_in (zmt5 (List.mem_of_getElem? (i := 126) rfl)) rfl⟩
theorem mm_RX11_395 : zMV RX11 395 M_X10_cellAt 3 := ⟨ok_X10_cellAt, zT_in (zmt5 (List.mem_of_getElem? (i := 150) rfl)) rfl, zT_in (zmt5 (List.mem_of_getElem? (i := 151) rfl)) rfl, zT_in (zmt5 (List.mem_of_getElem? (i := 152) rfl)) rfl⟩
theorem mm_RX11_399 : zMV RX11 399 M_X6_forgetLiars 0 := ⟨ok_X6_forgetLiars, zT_in (zmt5 (List.mem_of_getElem? (i := 163) rfl)) rfl, zT_in (zmt5 (List.mem_of_getElem? (i := 164) rfl)) rfl, zT_in (zmt5 (List.mem_of_getElem? (i := 165) rfl)) rfl⟩
theorem mm_RX11_402 : zMV RX11 402 M_X6_findLiars 0 := ⟨ok_X6_findLiars, zT_in (zmt5 (List.mem_of_getElem? (i := 171) rfl)) rfl, zT_in (zmt5 (List.mem_of_getElem? (i := 172) rfl)) rfl, zT_in (zmt5 (List.mem_of_getElem? (i := 173) rfl)) rfl⟩
theorem mm_RX11_414 : zMV RX11 414 M_X1_becomeLike 1 := ⟨ok_X1_becomeLike, zT_in (zmt5 (List.mem_of_getElem? (i := 194) rfl)) rfl, zT_in (zmt5 (List.mem_of_getElem? (i := 195) rfl)) rfl, zT_in (zmt5 (List.mem_of_getElem? (i := 196) rfl)) rfl⟩
theorem mm_RX11_418 : zMV RX11 418 M_X11_isHoldEmpty 1 := ⟨ok_X11_isHoldEmpty, zT_in (zmt5 (List.mem_of_getElem? (i := 210) rfl)) rfl, zT_in (zmt5 (List.mem_of_getElem? (i := 212) rfl)) rfl, zT_in (zmp 40 _ rfl) rfl⟩
theorem mm_RX11_424 : zMV RX11 424 M_X5_isTakenAs 1 := ⟨ok_X5_isTakenAs, zT_in (zmt5 (List.mem_of_getElem? (i := 218) rfl)) rfl, zT_in (zmt5 (List.mem_of_getElem? (i := 219) rfl)) rfl, zT_in (zmt5 (List.mem_of_getElem? (i := 220) rfl)) rfl⟩
theorem mm_RX11_428 : zMV RX11 428 M_X11_refusalOfBodies 2 := ⟨ok_X11_refusalOfBodies, zT_in (zmt5 (List.mem_of_getElem? (i := 226) rfl)) rfl, zT_in (zmt5 (List.mem_of_getElem? (i := 228) rfl)) rfl, zT_in (zmp 41 _ rfl) rfl⟩
theorem mm_RX11_431 : zMV RX11 431 M_X0_tellingOf 1 := ⟨ok_X0_tellingOf, zT_in (zmt5 (List.mem_of_getElem? (i := 230) rfl)) rfl, zT_in (zmt5 (List.mem_of_getElem? (i := 231) rfl)) rfl, zT_in (zmt5 (List.mem_of_getElem? (i := 232) rfl)) rfl⟩
theorem mm_RX11_435 : zMV RX11 435 M_X0_tellingOf_ 1 := ⟨ok_X0_tellingOf_, zT_in (zmt6 (List.mem_of_getElem? (i := 10) rfl)) rfl, zT_in (zmt6 (List.mem_of_getElem? (i := 11) rfl)) rfl, zT_in (zmt6 (List.mem_of_getElem? (i := 12) rfl)) rfl⟩
theorem mm_RX11_438 : zMV RX11 438 M_X0_greetingOf 1 := ⟨ok_X0_greetingOf, zT_in (zmt6 (List.mem_of_getElem? (i := 38) rfl)) rfl, zT_in (zmt6 (List.mem_of_getElem? (i := 39) rfl)) rfl, zT_in (zmt6 (List.mem_of_getElem? (i := 40) rfl)) rfl⟩
theorem mm_RX11_441 : zMV RX11 441 M_X0_weightOf 1 := ⟨ok_X0_weightOf, zT_in (zmt6 (List.mem_of_getElem? (i := 50) rfl)) rfl, zT_in (zmt6 (List.mem_of_getElem? (i := 51) rfl)) rfl, zT_in (zmt6 (List.mem_of_getElem? (i := 52) rfl)) rfl⟩
theorem mm_RX11_444 : zMV RX11 444 M_X8_begin 2 := ⟨ok_X8_begin, zT_in (zmt6 (List.mem_of_getElem? (i := 70) rfl)) rfl, zT_in (zmt6 (List.mem_of_getElem? (i := 71) rfl)) rfl, zT_in (zmt6 (List.mem_of_getElem? (i := 72) rfl)) rfl⟩
theorem mm_RX11_447 : zMV RX11 447 M_X8_isEmpty 0 := ⟨ok_X8_isEmpty, zT_in (zmt3 (List.mem_of_getElem? (i := 32) rfl)) rfl, zT_in (zmt3 (List.mem_of_getElem? (i := 33) rfl)) rfl, zT_in (zmt3 (List.mem_of_getElem? (i := 34) rfl)) rfl⟩
theorem mm_RX11_450 : zMV RX11 450 M_X8_end 0 := ⟨ok_X8_end, zT_in (zmt6 (List.mem_of_getElem? (i := 81) rfl)) rfl, zT_in (zmt6 (List.mem_of_getElem? (i := 82) rfl)) rfl, zT_in (zmt6 (List.mem_of_getElem? (i := 83) rfl)) rfl⟩
theorem mm_RX11_453 : zMV RX11 453 M_X8_write 2 := ⟨ok_X8_write, zT_in (zmt6 (List.mem_of_getElem? (i := 89) rfl)) rfl, zT_in (zmt6 (List.mem_of_getElem? (i := 90) rfl)) rfl, zT_in (zmt6 (List.mem_of_getElem? (i := 91) rfl)) rfl⟩
theorem mm_RX11_472 : zMV RX11 472 M_X6_thingsOnOneCell 0 := ⟨ok_X6_thingsOnOneCell, zT_in (zmt6 (List.mem_of_getElem? (i := 116) rfl)) rfl, zT_in (zmt6 (List.mem_of_getElem? (i := 117) rfl)) rfl, zT_in (zmt6 (List.mem_of_getElem? (i := 118) rfl)) rfl⟩
theorem mm_RX11_475 : zMV RX11 475 M_X6_sumOfCells 0 := ⟨ok_X6_sumOfCells, zT_in (zmt6 (List.mem_of_getElem? (i := 120) rfl)) rfl, zT_in (zmt6 (List.mem_of_getElem? (i := 121) rfl)) rfl, zT_in (zmt6 (List.mem_of_getElem? (i := 122) rfl)) rfl⟩
theorem mm_RX11_478 : zMV RX11 478 M_X1_thingsOnMap 0 := ⟨ok_X1_thingsOnMap, zT_in (zmt5 (List.mem_of_getElem? (i := 18) rfl)) rfl, zT_in (zmt5 (List.mem_of_getElem? (i := 19) rfl)) rfl, zT_in (zmt5 (List.mem_of_getElem? (i := 20) rfl)) rfl⟩
theorem mm_RX11_481 : zMS RX11 481 M_J6_bitCount_0f7a4 1 := ⟨ok_J6_bitCount_0f7a4, zT_in (zmt6 (List.mem_of_getElem? (i := 124) rfl)) rfl, zT_in (zmt4 (List.mem_of_getElem? (i := 98) rfl)) rfl⟩
theorem mm_RX11_485 : zMV RX11 485 M_X11_holdsInUse 0 := ⟨ok_X11_holdsInUse, zT_in (zmt6 (List.mem_of_getElem? (i := 125) rfl)) rfl, zT_in (zmt6 (List.mem_of_getElem? (i := 127) rfl)) rfl, zT_in (zmp 56 _ rfl) rfl⟩
theorem mm_RX11_488 : zMV RX11 488 M_X6_forget 0 := ⟨ok_X6_forget, zT_in (zmt2 (List.mem_of_getElem? (i := 231) rfl)) rfl, zT_in (zmt2 (List.mem_of_getElem? (i := 232) rfl)) rfl, zT_in (zmt2 (List.mem_of_getElem? (i := 233) rfl)) rfl⟩
theorem mm_RX11_489 : zMV RX11 489 M_X10_forget 0 := ⟨ok_X10_forget, zT_in (zmt2 (List.mem_of_getElem? (i := 239) rfl)) rfl, zT_in (zmt3 (List.mem_of_getElem? (i := 0) rfl)) rfl, zT_in (zmt3 (List.mem_of_getElem? (i := 1) rfl)) rfl⟩
theorem mm_RX11_490 : zMV RX11 490 M_X4_forget 0 := ⟨ok_X4_forget, zT_in (zmt2 (List.mem_of_getElem? (i := 223) rfl)) rfl, zT_in (zmt2 (List.mem_of_getElem? (i := 224) rfl)) rfl, zT_in (zmt2 (List.mem_of_getElem? (i := 225) rfl)) rfl⟩
theorem mm_RX11_491 : zMV RX11 491 M_X4_findSteps 0 := ⟨ok_X4_findSteps, zT_in (zmt3 (List.mem_of_getElem? (i := 124) rfl)) rfl, zT_in (zmt3 (List.mem_of_getElem? (i := 125) rfl)) rfl, zT_in (zmt3 (List.mem_of_getElem? (i := 126) rfl)) rfl⟩
theorem mm_RX11_494 : zMV RX11 494 M_X6_findCells 0 := ⟨ok_X6_findCells, zT_in (zmt3 (List.mem_of_getElem? (i := 142) rfl)) rfl, zT_in (zmt3 (List.mem_of_getElem? (i := 143) rfl)) rfl, zT_in (zmt3 (List.mem_of_getElem? (i := 144) rfl)) rfl⟩
theorem mm_RX11_497 : zMV RX11 497 M_X7_look 1 := ⟨ok_X7_look, zT_in (zmt4 (List.mem_of_getElem? (i := 91) rfl)) rfl, zT_in (zmt4 (List.mem_of_getElem? (i := 92) rfl)) rfl, zT_in (zmt4 (List.mem_of_getElem? (i := 93) rfl)) rfl⟩
theorem mm_RX11_504 : zMV RX11 504 M_X11_measure 5 := ⟨ok_X11_measure, zT_in (zmt4 (List.mem_of_getElem? (i := 18) rfl)) rfl, zT_in (zmt3 (List.mem_of_getElem? (i := 191) rfl)) rfl, zT_in (zmt3 (List.mem_of_getElem? (i := 192) rfl)) rfl⟩
theorem mm_RX0_20 : zMV RX0 20 M_X0_beaconTells 1 := ⟨ok_X0_beaconTells, zT_in (zmt5 (List.mem_of_getElem? (i := 234) rfl)) rfl, zT_in (zmt5 (List.mem_of_getElem? (i := 236) rfl)) rfl, zT_in (zmp 42 _ rfl) rfl⟩
theorem mm_RX0_24 : zMV RX0 24 M_X0_anchorTells 1 := ⟨ok_X0_anchorTells, zT_in (zmt6 (List.mem_of_getElem? (i := 2) rfl)) rfl, zT_in (zmt6 (List.mem_of_getElem? (i := 4) rfl)) rfl, zT_in (zmp 44 _ rfl) rfl⟩
theorem mm_RX0_27 : zMV RX0 27 M_X0_thingTells 1 := ⟨ok_X0_thingTells, zT_in (zmt6 (List.mem_of_getElem? (i := 6) rfl)) rfl, zT_in (zmt6 (List.mem_of_getElem? (i := 8) rfl)) rfl, zT_in (zmp 45 _ rfl) rfl⟩
theorem mm_RX0_33 : zMV RX0 33 M_X0_farTells 1 := ⟨ok_X0_farTells, zT_in (zmt6 (List.mem_of_getElem? (i := 14) rfl)) rfl, zT_in (zmt6 (List.mem_of_getElem? (i := 16) rfl)) rfl, zT_in (zmp 46 _ rfl) rfl⟩
theorem mm_RX0_37 : zMV RX0 37 M_X0_hearsTells 1 := ⟨ok_X0_hearsTells, zT_in (zmt6 (List.mem_of_getElem? (i := 22) rfl)) rfl, zT_in (zmt6 (List.mem_of_getElem? (i := 24) rfl)) rfl, zT_in (zmp 48 _ rfl) rfl⟩
theorem mm_RX0_40 : zMV RX0 40 M_X0_deafTells 1 := ⟨ok_X0_deafTells, zT_in (zmt6 (List.mem_of_getElem? (i := 26) rfl)) rfl, zT_in (zmt6 (List.mem_of_getElem? (i := 28) rfl)) rfl, zT_in (zmp 49 _ rfl) rfl⟩
theorem mm_RX0_43 : zMV RX0 43 M_X0_stepsTells 1 := ⟨ok_X0_stepsTells, zT_in (zmt6 (List.mem_of_getElem? (i := 30) rfl)) rfl, zT_in (zmt6 (List.mem_of_getElem? (i := 32) rfl)) rfl, zT_in (zmp 50 _ rfl) rfl⟩
theorem mm_RX0_46 : zMV RX0 46 M_X0_measureTells 1 := ⟨ok_X0_measureTells, zT_in (zmt6 (List.mem_of_getElem? (i := 18) rfl)) rfl, zT_in (zmt6 (List.mem_of_getElem? (i := 20) rfl)) rfl, zT_in (zmp 47 _ rfl) rfl⟩
theorem mm_RX0_49 : zMV RX0 49 M_X0_beaconGreets 1 := ⟨ok_X0_beaconGreets, zT_in (zmt6 (List.mem_of_getElem? (i := 42) rfl)) rfl, zT_in (zmt6 (List.mem_of_getElem? (i := 44) rfl)) rfl, zT_in (zmp 51 _ rfl) rfl⟩
theorem mm_RX0_52 : zMV RX0 52 M_X0_thingGreets 1 := ⟨ok_X0_thingGreets, zT_in (zmt6 (List.mem_of_getElem? (i := 46) rfl)) rfl, zT_in (zmt6 (List.mem_of_getElem? (i := 48) rfl)) rfl, zT_in (zmp 52 _ rfl) rfl⟩
theorem mm_RX0_55 : zMV RX0 55 M_X0_hearsWeighs 0 := ⟨ok_X0_hearsWeighs, zT_in (zmt6 (List.mem_of_getElem? (i := 54) rfl)) rfl, zT_in (zmt6 (List.mem_of_getElem? (i := 56) rfl)) rfl, zT_in (zmp 53 _ rfl) rfl⟩
theorem mm_RX0_59 : zMV RX0 59 M_X0_stepsWeighs 1 := ⟨ok_X0_stepsWeighs, zT_in (zmt6 (List.mem_of_getElem? (i := 58) rfl)) rfl, zT_in (zmt6 (List.mem_of_getElem? (i := 60) rfl)) rfl, zT_in (zmp 54 _ rfl) rfl⟩
theorem mm_RX0_62 : zMV RX0 62 M_X0_measureWeighs 1 := ⟨ok_X0_measureWeighs, zT_in (zmt6 (List.mem_of_getElem? (i := 62) rfl)) rfl, zT_in (zmt6 (List.mem_of_getElem? (i := 64) rfl)) rfl, zT_in (zmp 55 _ rfl) rfl⟩
theorem mm_RX0_65 : zMV RX0 65 M_X0_leave 1 := ⟨ok_X0_leave, zT_in (zmt5 (List.mem_of_getElem? (i := 238) rfl)) rfl, zT_in (zmt6 (List.mem_of_getElem? (i := 0) rfl)) rfl, zT_in (zmp 43 _ rfl) rfl⟩
theorem mm_RX1_43 : zMV RX1 43 M_X1_clear 2 := ⟨ok_X1_clear, zT_in (zmt1 (List.mem_of_getElem? (i := 37) rfl)) rfl, zT_in (zmt1 (List.mem_of_getElem? (i := 38) rfl)) rfl, zT_in (zmt1 (List.mem_of_getElem? (i := 39) rfl)) rfl⟩
theorem mm_RX1_54 : zMSN RX1 54 M_X11_boxed 4 := ⟨ok_X11_boxed, zmt1 (List.mem_of_getElem? (i := 41) rfl), zT_in (zmt1 (List.mem_of_getElem? (i := 42) rfl)) rfl⟩
theorem mm_RX1_81 : zMSN RX1 81 M_X11_within 3 := ⟨ok_X11_within, zmt3 (List.mem_of_getElem? (i := 11) rfl), zT_in (zmt2 (List.mem_of_getElem? (i := 216) rfl)) rfl⟩
theorem mm_RX1_85 : zMV RX1 85 M_X1_isMover 1 := ⟨ok_X1_isMover, zT_in (zmt5 (List.mem_of_getElem? (i := 114) rfl)) rfl, zT_in (zmt5 (List.mem_of_getElem? (i := 115) rfl)) rfl, zT_in (zmt5 (List.mem_of_getElem? (i := 116) rfl)) rfl⟩
theorem mm_RX1_89 : zMI RX1 89 M_X9_init 5 := ⟨ok_X9_init, zT_in (zmt3 (List.mem_of_getElem? (i := 64) rfl)) rfl, zT_in (zmt3 (List.mem_of_getElem? (i := 65) rfl)) rfl, rfl, rfl⟩
theorem mm_RX1_94 : zMI RX1 94 M_X5_init 6 := ⟨ok_X5_init, zT_in (zmt3 (List.mem_of_getElem? (i := 202) rfl)) rfl, zT_in (zmt3 (List.mem_of_getElem? (i := 203) rfl)) rfl, rfl, rfl⟩
theorem mm_RX1_97 : zMSN RX1 97 M_X11_bit 1 := ⟨ok_X11_bit, zmt3 (List.mem_of_getElem? (i := 20) rfl), zT_in (zmt1 (List.mem_of_getElem? (i := 45) rfl)) rfl⟩
theorem mm_RX1_101 : zMV RX1 101 M_X1_addThing 4 := ⟨ok_X1_addThing, zT_in (zmt5 (List.mem_of_getElem? (i := 104) rfl)) rfl, zT_in (zmt3 (List.mem_of_getElem? (i := 60) rfl)) rfl, zT_in (zmt3 (List.mem_of_getElem? (i := 61) rfl)) rfl⟩
theorem mm_RX1_105 : zMV RX1 105 M_X1_addMeasure 5 := ⟨ok_X1_addMeasure, zT_in (zmt5 (List.mem_of_getElem? (i := 105) rfl)) rfl, zT_in (zmt3 (List.mem_of_getElem? (i := 198) rfl)) rfl, zT_in (zmt3 (List.mem_of_getElem? (i := 199) rfl)) rfl⟩
theorem mm_RX1_109 : zMV RX1 109 M_X9_isAnchor 0 := ⟨ok_X9_isAnchor, zT_in (zmt3 (List.mem_of_getElem? (i := 16) rfl)) rfl, zT_in (zmt3 (List.mem_of_getElem? (i := 17) rfl)) rfl, zT_in (zmt3 (List.mem_of_getElem? (i := 18) rfl)) rfl⟩
theorem mm_RX1_122 : zMV RX1 122 M_X1_link 0 := ⟨ok_X1_link, zT_in (zmt4 (List.mem_of_getElem? (i := 62) rfl)) rfl, zT_in (zmt4 (List.mem_of_getElem? (i := 63) rfl)) rfl, zT_in (zmt4 (List.mem_of_getElem? (i := 64) rfl)) rfl⟩
theorem mm_RX1_125 : zMV RX1 125 M_X1_anchors 0 := ⟨ok_X1_anchors, zT_in (zmt4 (List.mem_of_getElem? (i := 70) rfl)) rfl, zT_in (zmt4 (List.mem_of_getElem? (i := 71) rfl)) rfl, zT_in (zmt4 (List.mem_of_getElem? (i := 72) rfl)) rfl⟩
theorem mm_RX1_129 : zMV RX1 129 M_X1_spread 2 := ⟨ok_X1_spread, zT_in (zmt4 (List.mem_of_getElem? (i := 74) rfl)) rfl, zT_in (zmt4 (List.mem_of_getElem? (i := 75) rfl)) rfl, zT_in (zmt4 (List.mem_of_getElem? (i := 76) rfl)) rfl⟩
theorem mm_RX1_133 : zMS RX1 133 M_J7_fill_53178 2 := ⟨ok_J7_fill_53178, zT_in (zmt4 (List.mem_of_getElem? (i := 66) rfl)) rfl, zT_in (zmt4 (List.mem_of_getElem? (i := 67) rfl)) rfl⟩
theorem mm_RX1_139 : zMSN RX1 139 M_X11_has 2 := ⟨ok_X11_has, zmt4 (List.mem_of_getElem? (i := 69) rfl), zT_in (zmt3 (List.mem_of_getElem? (i := 22) rfl)) rfl⟩
theorem mm_RX1_143 : zMSN RX1 143 M_X11_lowest 1 := ⟨ok_X11_lowest, zmt4 (List.mem_of_getElem? (i := 78) rfl), zT_in (zmt3 (List.mem_of_getElem? (i := 139) rfl)) rfl⟩
theorem mm_RX1_147 : zMV RX1 147 M_X1_toldCells 1 := ⟨ok_X1_toldCells, zT_in (zmt5 (List.mem_of_getElem? (i := 0) rfl)) rfl, zT_in (zmt3 (List.mem_of_getElem? (i := 109) rfl)) rfl, zT_in (zmt3 (List.mem_of_getElem? (i := 110) rfl)) rfl⟩
theorem mm_RX2_30 : zMV RX2 30 M_X1_link 0 := ⟨ok_X1_link, zT_in (zmt5 (List.mem_of_getElem? (i := 26) rfl)) rfl, zT_in (zmt4 (List.mem_of_getElem? (i := 63) rfl)) rfl, zT_in (zmt4 (List.mem_of_getElem? (i := 64) rfl)) rfl⟩
theorem mm_RX2_39 : zMV RX2 39 M_X1_anchors 0 := ⟨ok_X1_anchors, zT_in (zmt5 (List.mem_of_getElem? (i := 27) rfl)) rfl, zT_in (zmt4 (List.mem_of_getElem? (i := 71) rfl)) rfl, zT_in (zmt4 (List.mem_of_getElem? (i := 72) rfl)) rfl⟩
theorem mm_RX2_43 : zMV RX2 43 M_X1_thingsOnMap 0 := ⟨ok_X1_thingsOnMap, zT_in (zmt5 (List.mem_of_getElem? (i := 28) rfl)) rfl, zT_in (zmt5 (List.mem_of_getElem? (i := 19) rfl)) rfl, zT_in (zmt5 (List.mem_of_getElem? (i := 20) rfl)) rfl⟩
theorem mm_RX2_49 : zMSN RX2 49 M_X11_has 2 := ⟨ok_X11_has, zmt5 (List.mem_of_getElem? (i := 29) rfl), zT_in (zmt3 (List.mem_of_getElem? (i := 22) rfl)) rfl⟩
theorem mm_RX2_53 : zMV RX2 53 M_X2_seekAbout 3 := ⟨ok_X2_seekAbout, zT_in (zmt5 (List.mem_of_getElem? (i := 30) rfl)) rfl, zT_in (zmt5 (List.mem_of_getElem? (i := 32) rfl)) rfl, zT_in (zmp 24 _ rfl) rfl⟩
theorem mm_RX2_63 : zMSN RX2 63 M_X11_lowest 1 := ⟨ok_X11_lowest, zmt5 (List.mem_of_getElem? (i := 34) rfl), zT_in (zmt3 (List.mem_of_getElem? (i := 139) rfl)) rfl⟩
theorem mm_RX2_67 : zMV RX2 67 M_X1_spread 2 := ⟨ok_X1_spread, zT_in (zmt5 (List.mem_of_getElem? (i := 35) rfl)) rfl, zT_in (zmt4 (List.mem_of_getElem? (i := 75) rfl)) rfl, zT_in (zmt4 (List.mem_of_getElem? (i := 76) rfl)) rfl⟩
theorem mm_RX2_71 : zMV RX2 71 M_X1_around 1 := ⟨ok_X1_around, zT_in (zmt5 (List.mem_of_getElem? (i := 36) rfl)) rfl, zT_in (zmt5 (List.mem_of_getElem? (i := 37) rfl)) rfl, zT_in (zmt5 (List.mem_of_getElem? (i := 38) rfl)) rfl⟩
theorem mm_RX2_75 : zMV RX2 75 M_X2_leaves 3 := ⟨ok_X2_leaves, zT_in (zmt5 (List.mem_of_getElem? (i := 40) rfl)) rfl, zT_in (zmt5 (List.mem_of_getElem? (i := 42) rfl)) rfl, zT_in (zmp 25 _ rfl) rfl⟩
theorem mm_RX2_79 : zMV RX2 79 M_X2_canTurn 3 := ⟨ok_X2_canTurn, zT_in (zmt5 (List.mem_of_getElem? (i := 57) rfl)) rfl, zT_in (zmt5 (List.mem_of_getElem? (i := 59) rfl)) rfl, zT_in (zmp 27 _ rfl) rfl⟩
theorem mm_RX2_82 : zMV RX2 82 M_X2_comeTo 4 := ⟨ok_X2_comeTo, zT_in (zmt5 (List.mem_of_getElem? (i := 76) rfl)) rfl, zT_in (zmt5 (List.mem_of_getElem? (i := 78) rfl)) rfl, zT_in (zmp 31 _ rfl) rfl⟩
theorem mm_RX2_95 : zMV RX2 95 M_X2_turnedCell 3 := ⟨ok_X2_turnedCell, zT_in (zmt5 (List.mem_of_getElem? (i := 44) rfl)) rfl, zT_in (zmt5 (List.mem_of_getElem? (i := 46) rfl)) rfl, zT_in (zmp 26 _ rfl) rfl⟩
theorem mm_RX2_99 : zMV RX2 99 M_X1_toldCells 1 := ⟨ok_X1_toldCells, zT_in (zmt5 (List.mem_of_getElem? (i := 61) rfl)) rfl, zT_in (zmt3 (List.mem_of_getElem? (i := 109) rfl)) rfl, zT_in (zmt3 (List.mem_of_getElem? (i := 110) rfl)) rfl⟩
theorem mm_RX2_106 : zMV RX2 106 M_X2_isAlone 1 := ⟨ok_X2_isAlone, zT_in (zmt5 (List.mem_of_getElem? (i := 62) rfl)) rfl, zT_in (zmt5 (List.mem_of_getElem? (i := 64) rfl)) rfl, zT_in (zmp 28 _ rfl) rfl⟩
theorem mm_RX2_110 : zMV RX2 110 M_X2_isKeeping 1 := ⟨ok_X2_isKeeping, zT_in (zmt5 (List.mem_of_getElem? (i := 67) rfl)) rfl, zT_in (zmt5 (List.mem_of_getElem? (i := 69) rfl)) rfl, zT_in (zmp 29 _ rfl) rfl⟩
theorem mm_RX2_125 : zMSN RX2 125 M_X11_within 3 := ⟨ok_X11_within, zmt5 (List.mem_of_getElem? (i := 56) rfl), zT_in (zmt2 (List.mem_of_getElem? (i := 216) rfl)) rfl⟩
theorem mm_RX2_128 : zMSN RX2 128 M_X11_bit 1 := ⟨ok_X11_bit, zmt5 (List.mem_of_getElem? (i := 66) rfl), zT_in (zmt1 (List.mem_of_getElem? (i := 45) rfl)) rfl⟩
theorem mm_RX2_150 : zMV RX2 150 M_X2_cellAfter 2 := ⟨ok_X2_cellAfter, zT_in (zmt5 (List.mem_of_getElem? (i := 71) rfl)) rfl, zT_in (zmt5 (List.mem_of_getElem? (i := 73) rfl)) rfl, zT_in (zmp 30 _ rfl) rfl⟩
theorem mm_RX2_153 : zMV RX2 153 M_X4_isKept 3 := ⟨ok_X4_isKept, zT_in (zmt5 (List.mem_of_getElem? (i := 75) rfl)) rfl, zT_in (zmt4 (List.mem_of_getElem? (i := 46) rfl)) rfl, zT_in (zmt4 (List.mem_of_getElem? (i := 47) rfl)) rfl⟩
theorem mm_RX3_19 : zMV RX3 19 M_X3_mark 2 := ⟨ok_X3_mark, zT_in (zmt1 (List.mem_of_getElem? (i := 149) rfl)) rfl, zT_in (zmt1 (List.mem_of_getElem? (i := 151) rfl)) rfl, zT_in (zmp 0 _ rfl) rfl⟩
theorem mm_RX3_23 : zMSN RX3 23 M_X11_bit 1 := ⟨ok_X11_bit, zmt1 (List.mem_of_getElem? (i := 153) rfl), zT_in (zmt1 (List.mem_of_getElem? (i := 45) rfl)) rfl⟩
theorem mm_RX3_33 : zMSN RX3 33 M_X11_lowest 1 := ⟨ok_X11_lowest, zmt3 (List.mem_of_getElem? (i := 138) rfl), zT_in (zmt3 (List.mem_of_getElem? (i := 139) rfl)) rfl⟩
theorem mm_RX4_43 : zMSN RX4 43 M_X11_has 2 := ⟨ok_X11_has, zmt3 (List.mem_of_getElem? (i := 128) rfl), zT_in (zmt3 (List.mem_of_getElem? (i := 22) rfl)) rfl⟩
theorem mm_RX4_53 : zMV RX4 53 M_X4_atHops 3 := ⟨ok_X4_atHops, zT_in (zmt3 (List.mem_of_getElem? (i := 129) rfl)) rfl, zT_in (zmt3 (List.mem_of_getElem? (i := 131) rfl)) rfl, zT_in (zmp 8 _ rfl) rfl⟩
theorem mm_RX4_57 : zMSN RX4 57 M_X11_bit 1 := ⟨ok_X11_bit, zmt3 (List.mem_of_getElem? (i := 133) rfl), zT_in (zmt1 (List.mem_of_getElem? (i := 45) rfl)) rfl⟩
theorem mm_RX4_74 : zMV RX4 74 M_X4_keeping 3 := ⟨ok_X4_keeping, zT_in (zmt4 (List.mem_of_getElem? (i := 49) rfl)) rfl, zT_in (zmt3 (List.mem_of_getElem? (i := 162) rfl)) rfl, zT_in (zmt3 (List.mem_of_getElem? (i := 163) rfl)) rfl⟩
theorem mm_RX4_91 : zMV RX4 91 M_X4_isKept 3 := ⟨ok_X4_isKept, zT_in (zmt5 (List.mem_of_getElem? (i := 9) rfl)) rfl, zT_in (zmt4 (List.mem_of_getElem? (i := 46) rfl)) rfl, zT_in (zmt4 (List.mem_of_getElem? (i := 47) rfl)) rfl⟩
theorem mm_RX4_95 : zMV RX4 95 M_X3_around 2 := ⟨ok_X3_around, zT_in (zmt3 (List.mem_of_getElem? (i := 134) rfl)) rfl, zT_in (zmt3 (List.mem_of_getElem? (i := 135) rfl)) rfl, zT_in (zmt3 (List.mem_of_getElem? (i := 136) rfl)) rfl⟩
theorem mm_RX6_43 : zMV RX6 43 M_X6_settle 3 := ⟨ok_X6_settle, zT_in (zmt3 (List.mem_of_getElem? (i := 146) rfl)) rfl, zT_in (zmt3 (List.mem_of_getElem? (i := 148) rfl)) rfl, zT_in (zmp 9 _ rfl) rfl⟩
theorem mm_RX6_54 : zMS RX6 54 M_J13_bitCount_95d88 1 := ⟨ok_J13_bitCount_95d88, zT_in (zmt3 (List.mem_of_getElem? (i := 160) rfl)) rfl, zT_in (zmt3 (List.mem_of_getElem? (i := 50) rfl)) rfl⟩
theorem mm_RX6_66 : zMSN RX6 66 M_X11_has 2 := ⟨ok_X11_has, zmt3 (List.mem_of_getElem? (i := 151) rfl), zT_in (zmt3 (List.mem_of_getElem? (i := 22) rfl)) rfl⟩
theorem mm_RX6_70 : zMSN RX6 70 M_X11_bit 1 := ⟨ok_X11_bit, zmt4 (List.mem_of_getElem? (i := 39) rfl), zT_in (zmt1 (List.mem_of_getElem? (i := 45) rfl)) rfl⟩
theorem mm_RX6_82 : zMS RX6 82 M_J7_fill_53178 2 := ⟨ok_J7_fill_53178, zT_in (zmt5 (List.mem_of_getElem? (i := 175) rfl)) rfl, zT_in (zmt4 (List.mem_of_getElem? (i := 67) rfl)) rfl⟩
theorem mm_RX6_88 : zMV RX6 88 M_X6_leastQuarrel 0 := ⟨ok_X6_leastQuarrel, zT_in (zmt5 (List.mem_of_getElem? (i := 176) rfl)) rfl, zT_in (zmt4 (List.mem_of_getElem? (i := 36) rfl)) rfl, zT_in (zmt4 (List.mem_of_getElem? (i := 37) rfl)) rfl⟩
theorem mm_RX6_92 : zMV RX6 92 M_X6_findSets 2 := ⟨ok_X6_findSets, zT_in (zmt5 (List.mem_of_getElem? (i := 177) rfl)) rfl, zT_in (zmt5 (List.mem_of_getElem? (i := 179) rfl)) rfl, zT_in (zmp 38 _ rfl) rfl⟩
theorem mm_RX6_96 : zMV RX6 96 M_X6_suspects 0 := ⟨ok_X6_suspects, zT_in (zmt5 (List.mem_of_getElem? (i := 181) rfl)) rfl, zT_in (zmt5 (List.mem_of_getElem? (i := 183) rfl)) rfl, zT_in (zmp 39 _ rfl) rfl⟩
theorem mm_RX6_100 : zMV RX6 100 M_X1_measuresOf 1 := ⟨ok_X1_measuresOf, zT_in (zmt5 (List.mem_of_getElem? (i := 185) rfl)) rfl, zT_in (zmt3 (List.mem_of_getElem? (i := 171) rfl)) rfl, zT_in (zmt3 (List.mem_of_getElem? (i := 172) rfl)) rfl⟩
theorem mm_RX6_115 : zMV RX6 115 M_X1_toldCells 1 := ⟨ok_X1_toldCells, zT_in (zmt3 (List.mem_of_getElem? (i := 150) rfl)) rfl, zT_in (zmt3 (List.mem_of_getElem? (i := 109) rfl)) rfl, zT_in (zmt3 (List.mem_of_getElem? (i := 110) rfl)) rfl⟩
theorem mm_RX6_130 : zMV RX6 130 M_X6_narrowBy 2 := ⟨ok_X6_narrowBy, zT_in (zmt3 (List.mem_of_getElem? (i := 152) rfl)) rfl, zT_in (zmt3 (List.mem_of_getElem? (i := 154) rfl)) rfl, zT_in (zmp 10 _ rfl) rfl⟩
theorem mm_RX6_134 : zMV RX6 134 M_X6_supported 4 := ⟨ok_X6_supported, zT_in (zmt3 (List.mem_of_getElem? (i := 156) rfl)) rfl, zT_in (zmt3 (List.mem_of_getElem? (i := 158) rfl)) rfl, zT_in (zmp 11 _ rfl) rfl⟩
theorem mm_RX6_138 : zMV RX6 138 M_X4_keeping 3 := ⟨ok_X4_keeping, zT_in (zmt3 (List.mem_of_getElem? (i := 161) rfl)) rfl, zT_in (zmt3 (List.mem_of_getElem? (i := 162) rfl)) rfl, zT_in (zmt3 (List.mem_of_getElem? (i := 163) rfl)) rfl⟩
theorem mm_RX7_58 : zMSN RX7 58 M_X11_has 2 := ⟨ok_X11_has, zmt4 (List.mem_of_getElem? (i := 95) rfl), zT_in (zmt3 (List.mem_of_getElem? (i := 22) rfl)) rfl⟩
theorem mm_RX7_62 : zMV RX7 62 M_X1_groupOf 1 := ⟨ok_X1_groupOf, zT_in (zmt4 (List.mem_of_getElem? (i := 96) rfl)) rfl, zT_in (zmt4 (List.mem_of_getElem? (i := 59) rfl)) rfl, zT_in (zmt4 (List.mem_of_getElem? (i := 60) rfl)) rfl⟩
theorem mm_RX7_68 : zMS RX7 68 M_J6_bitCount_0f7a4 1 := ⟨ok_J6_bitCount_0f7a4, zT_in (zmt4 (List.mem_of_getElem? (i := 97) rfl)) rfl, zT_in (zmt4 (List.mem_of_getElem? (i := 98) rfl)) rfl⟩
theorem mm_RX7_92 : zMV RX7 92 M_X7_prepare 0 := ⟨ok_X7_prepare, zT_in (zmt4 (List.mem_of_getElem? (i := 103) rfl)) rfl, zT_in (zmt4 (List.mem_of_getElem? (i := 105) rfl)) rfl, zT_in (zmp 14 _ rfl) rfl⟩
theorem mm_RX7_95 : zMV RX7 95 M_X7_place 1 := ⟨ok_X7_place, zT_in (zmt4 (List.mem_of_getElem? (i := 135) rfl)) rfl, zT_in (zmt4 (List.mem_of_getElem? (i := 137) rfl)) rfl, zT_in (zmp 18 _ rfl) rfl⟩
theorem mm_RX7_99 : zMV RX7 99 M_X7_count 0 := ⟨ok_X7_count, zT_in (zmt4 (List.mem_of_getElem? (i := 165) rfl)) rfl, zT_in (zmt4 (List.mem_of_getElem? (i := 167) rfl)) rfl, zT_in (zmp 20 _ rfl) rfl⟩
theorem mm_RX7_108 : zMV RX7 108 M_X7_worst 1 := ⟨ok_X7_worst, zT_in (zmt4 (List.mem_of_getElem? (i := 199) rfl)) rfl, zT_in (zmt4 (List.mem_of_getElem? (i := 200) rfl)) rfl, zT_in (zmt4 (List.mem_of_getElem? (i := 201) rfl)) rfl⟩
theorem mm_RX7_111 : zMV RX7 111 M_X7_compare 0 := ⟨ok_X7_compare, zT_in (zmt4 (List.mem_of_getElem? (i := 212) rfl)) rfl, zT_in (zmt4 (List.mem_of_getElem? (i := 214) rfl)) rfl, zT_in (zmp 21 _ rfl) rfl⟩
theorem mm_RX7_114 : zMV RX7 114 M_X7_cellIn 2 := ⟨ok_X7_cellIn, zT_in (zmt4 (List.mem_of_getElem? (i := 170) rfl)) rfl, zT_in (zmt4 (List.mem_of_getElem? (i := 154) rfl)) rfl, zT_in (zmt4 (List.mem_of_getElem? (i := 155) rfl)) rfl⟩
theorem mm_RX7_120 : zMV RX7 120 M_X7_cellsOfStrangers 0 := ⟨ok_X7_cellsOfStrangers, zT_in (zmt4 (List.mem_of_getElem? (i := 107) rfl)) rfl, zT_in (zmt4 (List.mem_of_getElem? (i := 109) rfl)) rfl, zT_in (zmp 15 _ rfl) rfl⟩
theorem mm_RX7_131 : zMV RX7 131 M_X6_cellsOf 1 := ⟨ok_X6_cellsOf, zT_in (zmt4 (List.mem_of_getElem? (i := 113) rfl)) rfl, zT_in (zmt3 (List.mem_of_getElem? (i := 166) rfl)) rfl, zT_in (zmt3 (List.mem_of_getElem? (i := 167) rfl)) rfl⟩
theorem mm_RX7_137 : zMV RX7 137 M_X7_openPair 2 := ⟨ok_X7_openPair, zT_in (zmt4 (List.mem_of_getElem? (i := 114) rfl)) rfl, zT_in (zmt4 (List.mem_of_getElem? (i := 116) rfl)) rfl, zT_in (zmp 16 _ rfl) rfl⟩
theorem mm_RX7_159 : zMV RX7 159 M_X7_restrict 1 := ⟨ok_X7_restrict, zT_in (zmt4 (List.mem_of_getElem? (i := 119) rfl)) rfl, zT_in (zmt4 (List.mem_of_getElem? (i := 121) rfl)) rfl, zT_in (zmp 17 _ rfl) rfl⟩
theorem mm_RX7_167 : zMV RX7 167 M_X9_isAnchor 0 := ⟨ok_X9_isAnchor, zT_in (zmt4 (List.mem_of_getElem? (i := 111) rfl)) rfl, zT_in (zmt3 (List.mem_of_getElem? (i := 17) rfl)) rfl, zT_in (zmt3 (List.mem_of_getElem? (i := 18) rfl)) rfl⟩
theorem mm_RX7_176 : zMSN RX7 176 M_X11_bit 1 := ⟨ok_X11_bit, zmt4 (List.mem_of_getElem? (i := 112) rfl), zT_in (zmt1 (List.mem_of_getElem? (i := 45) rfl)) rfl⟩
theorem mm_RX7_181 : zMV RX7 181 M_X7_placeOf 1 := ⟨ok_X7_placeOf, zT_in (zmt4 (List.mem_of_getElem? (i := 123) rfl)) rfl, zT_in (zmt4 (List.mem_of_getElem? (i := 124) rfl)) rfl, zT_in (zmt4 (List.mem_of_getElem? (i := 125) rfl)) rfl⟩
theorem mm_RX7_187 : zMSN RX7 187 M_X11_lowest 1 := ⟨ok_X11_lowest, zmt4 (List.mem_of_getElem? (i := 133) rfl), zT_in (zmt3 (List.mem_of_getElem? (i := 139) rfl)) rfl⟩
theorem mm_RX7_191 : zMV RX7 191 M_X4_keeping 3 := ⟨ok_X4_keeping, zT_in (zmt4 (List.mem_of_getElem? (i := 134) rfl)) rfl, zT_in (zmt3 (List.mem_of_getElem? (i := 162) rfl)) rfl, zT_in (zmt3 (List.mem_of_getElem? (i := 163) rfl)) rfl⟩
theorem mm_RX7_197 : zMS RX7 197 M_J13_bitCount_95d88 1 := ⟨ok_J13_bitCount_95d88, zT_in (zmt4 (List.mem_of_getElem? (i := 139) rfl)) rfl, zT_in (zmt3 (List.mem_of_getElem? (i := 50) rfl)) rfl⟩
theorem mm_RX7_201 : zMV RX7 201 M_X7_record 0 := ⟨ok_X7_record, zT_in (zmt4 (List.mem_of_getElem? (i := 140) rfl)) rfl, zT_in (zmt4 (List.mem_of_getElem? (i := 142) rfl)) rfl, zT_in (zmp 19 _ rfl) rfl⟩
theorem mm_RX7_204 : zMS RX7 204 M_J7_fill_53178 2 := ⟨ok_J7_fill_53178, zT_in (zmt4 (List.mem_of_getElem? (i := 169) rfl)) rfl, zT_in (zmt4 (List.mem_of_getElem? (i := 67) rfl)) rfl⟩
theorem mm_RX7_211 : zMV RX7 211 M_X7_mostAtOneDistance 2 := ⟨ok_X7_mostAtOneDistance, zT_in (zmt4 (List.mem_of_getElem? (i := 217) rfl)) rfl, zT_in (zmt4 (List.mem_of_getElem? (i := 219) rfl)) rfl, zT_in (zmp 22 _ rfl) rfl⟩
theorem mm_RX7_214 : zMSN RX7 214 M_X11_distance 2 := ⟨ok_X11_distance, zmt4 (List.mem_of_getElem? (i := 221) rfl), zT_in (zmt4 (List.mem_of_getElem? (i := 222) rfl)) rfl⟩
theorem mm_RX8_22 : zMS RX8 22 M_J7_fill_d0a16 2 := ⟨ok_J7_fill_d0a16, zT_in (zmt6 (List.mem_of_getElem? (i := 74) rfl)) rfl, zT_in (zmt6 (List.mem_of_getElem? (i := 75) rfl)) rfl⟩
theorem mm_RX10_38 : zMV RX10 38 M_X10_countFrom 2 := ⟨ok_X10_countFrom, zT_in (zmt5 (List.mem_of_getElem? (i := 128) rfl)) rfl, zT_in (zmt5 (List.mem_of_getElem? (i := 130) rfl)) rfl, zT_in (zmp 33 _ rfl) rfl⟩
theorem mm_RX10_42 : zMV RX10 42 M_X10_cellsAt 2 := ⟨ok_X10_cellsAt, zT_in (zmt5 (List.mem_of_getElem? (i := 132) rfl)) rfl, zT_in (zmt5 (List.mem_of_getElem? (i := 134) rfl)) rfl, zT_in (zmp 34 _ rfl) rfl⟩
theorem mm_RX10_46 : zMV RX10 46 M_X10_sum 2 := ⟨ok_X10_sum, zT_in (zmt5 (List.mem_of_getElem? (i := 142) rfl)) rfl, zT_in (zmt5 (List.mem_of_getElem? (i := 144) rfl)) rfl, zT_in (zmp 36 _ rfl) rfl⟩
theorem mm_RX10_50 : zMV RX10 50 M_X10_next 3 := ⟨ok_X10_next, zT_in (zmt5 (List.mem_of_getElem? (i := 138) rfl)) rfl, zT_in (zmt5 (List.mem_of_getElem? (i := 140) rfl)) rfl, zT_in (zmp 35 _ rfl) rfl⟩
theorem mm_RX10_54 : zMV RX10 54 M_X10_chosen 3 := ⟨ok_X10_chosen, zT_in (zmt5 (List.mem_of_getElem? (i := 154) rfl)) rfl, zT_in (zmt5 (List.mem_of_getElem? (i := 156) rfl)) rfl, zT_in (zmp 37 _ rfl) rfl⟩
theorem mm_RX10_58 : zMSN RX10 58 M_X11_bit 1 := ⟨ok_X11_bit, zmt5 (List.mem_of_getElem? (i := 158) rfl), zT_in (zmt1 (List.mem_of_getElem? (i := 45) rfl)) rfl⟩
theorem mm_RX10_62 : zMSN RX10 62 M_X11_lowest 1 := ⟨ok_X11_lowest, zmt5 (List.mem_of_getElem? (i := 137) rfl), zT_in (zmt3 (List.mem_of_getElem? (i := 139) rfl)) rfl⟩
theorem mm_RX10_69 : zMV RX10 69 M_X6_cellsOf 1 := ⟨ok_X6_cellsOf, zT_in (zmt5 (List.mem_of_getElem? (i := 136) rfl)) rfl, zT_in (zmt3 (List.mem_of_getElem? (i := 166) rfl)) rfl, zT_in (zmt3 (List.mem_of_getElem? (i := 167) rfl)) rfl⟩
theorem mm_RX12_162 : zMS RX12 162 M_X12_hasBit 2 := ⟨ok_X12_hasBit, zT_in (zmt8 (List.mem_of_getElem? (i := 31) rfl)) rfl, zT_in (zmt8 (List.mem_of_getElem? (i := 32) rfl)) rfl⟩
theorem mm_RX12_169 : zMS RX12 169 M_X12_lost 0 := ⟨ok_X12_lost, zT_in (zmt9 (List.mem_of_getElem? (i := 40) rfl)) rfl, zT_in (zmt9 (List.mem_of_getElem? (i := 41) rfl)) rfl⟩
theorem mm_RX12_175 : zMS RX12 175 M_X12_in 3 := ⟨ok_X12_in, zT_in (zmt7 (List.mem_of_getElem? (i := 150) rfl)) rfl, zT_in (zmt7 (List.mem_of_getElem? (i := 151) rfl)) rfl⟩
theorem mm_RX12_179 : zMV RX12 179 M_X12_isCell 1 := ⟨ok_X12_isCell, zT_in (zmt7 (List.mem_of_getElem? (i := 165) rfl)) rfl, zT_in (zmt7 (List.mem_of_getElem? (i := 167) rfl)) rfl, zT_in (zmp 59 _ rfl) rfl⟩
theorem mm_RX12_199 : zMV RX12 199 M_X12_other 0 := ⟨ok_X12_other, zT_in (zmt7 (List.mem_of_getElem? (i := 157) rfl)) rfl, zT_in (zmt7 (List.mem_of_getElem? (i := 159) rfl)) rfl, zT_in (zmp 58 _ rfl) rfl⟩
theorem mm_RX12_210 : zMV RX12 210 M_X12_otherField 0 := ⟨ok_X12_otherField, zT_in (zmt7 (List.mem_of_getElem? (i := 153) rfl)) rfl, zT_in (zmt7 (List.mem_of_getElem? (i := 155) rfl)) rfl, zT_in (zmp 57 _ rfl) rfl⟩
theorem mm_RX12_213 : zMV RX12 213 M_X12_isAnchorAt 1 := ⟨ok_X12_isAnchorAt, zT_in (zmt7 (List.mem_of_getElem? (i := 170) rfl)) rfl, zT_in (zmt7 (List.mem_of_getElem? (i := 172) rfl)) rfl, zT_in (zmp 60 _ rfl) rfl⟩
theorem mm_RX12_216 : zMV RX12 216 M_X12_isFree 1 := ⟨ok_X12_isFree, zT_in (zmt7 (List.mem_of_getElem? (i := 197) rfl)) rfl, zT_in (zmt7 (List.mem_of_getElem? (i := 199) rfl)) rfl, zT_in (zmp 64 _ rfl) rfl⟩
theorem mm_RX12_219 : zMS RX12 219 M_X12_noSheet 1 := ⟨ok_X12_noSheet, zT_in (zmt7 (List.mem_of_getElem? (i := 178) rfl)) rfl, zT_in (zmt7 (List.mem_of_getElem? (i := 179) rfl)) rfl⟩
theorem mm_RX12_222 : zMV RX12 222 M_X12_refused 1 := ⟨ok_X12_refused, zT_in (zmt7 (List.mem_of_getElem? (i := 182) rfl)) rfl, zT_in (zmt7 (List.mem_of_getElem? (i := 184) rfl)) rfl, zT_in (zmp 61 _ rfl) rfl⟩
theorem mm_RX12_228 : zMV RX12 228 M_X12_failed 1 := ⟨ok_X12_failed, zT_in (zmt7 (List.mem_of_getElem? (i := 186) rfl)) rfl, zT_in (zmt7 (List.mem_of_getElem? (i := 188) rfl)) rfl, zT_in (zmp 62 _ rfl) rfl⟩
theorem mm_RX12_231 : zMS RX12 231 M_X12_isBeyond 3 := ⟨ok_X12_isBeyond, zT_in (zmt7 (List.mem_of_getElem? (i := 190) rfl)) rfl, zT_in (zmt7 (List.mem_of_getElem? (i := 191) rfl)) rfl⟩
theorem mm_RX12_235 : zMV RX12 235 M_X12_freeCells 0 := ⟨ok_X12_freeCells, zT_in (zmt7 (List.mem_of_getElem? (i := 193) rfl)) rfl, zT_in (zmt7 (List.mem_of_getElem? (i := 195) rfl)) rfl, zT_in (zmp 63 _ rfl) rfl⟩
theorem mm_RX12_241 : zMV RX12 241 M_X12_addThing 4 := ⟨ok_X12_addThing, zT_in (zmt7 (List.mem_of_getElem? (i := 206) rfl)) rfl, zT_in (zmt7 (List.mem_of_getElem? (i := 208) rfl)) rfl, zT_in (zmp 65 _ rfl) rfl⟩
theorem mm_RX12_245 : zMV RX12 245 M_X12_noThing 1 := ⟨ok_X12_noThing, zT_in (zmt7 (List.mem_of_getElem? (i := 214) rfl)) rfl, zT_in (zmt7 (List.mem_of_getElem? (i := 216) rfl)) rfl, zT_in (zmp 66 _ rfl) rfl⟩
theorem mm_RX12_250 : zMV RX12 250 M_X12_toldOf 1 := ⟨ok_X12_toldOf, zT_in (zmt7 (List.mem_of_getElem? (i := 219) rfl)) rfl, zT_in (zmt7 (List.mem_of_getElem? (i := 221) rfl)) rfl, zT_in (zmp 67 _ rfl) rfl⟩
theorem mm_RX12_254 : zMS RX12 254 M_X12_count 1 := ⟨ok_X12_count, zT_in (zmt7 (List.mem_of_getElem? (i := 223) rfl)) rfl, zT_in (zmt7 (List.mem_of_getElem? (i := 224) rfl)) rfl⟩
theorem mm_RX12_258 : zMV RX12 258 M_X12_findNarrowed 0 := ⟨ok_X12_findNarrowed, zT_in (zmt7 (List.mem_of_getElem? (i := 230) rfl)) rfl, zT_in (zmt7 (List.mem_of_getElem? (i := 232) rfl)) rfl, zT_in (zmp 68 _ rfl) rfl⟩
theorem mm_RX12_261 : zMS RX12 261 M_X12_firstOf 1 := ⟨ok_X12_firstOf, zT_in (zmt8 (List.mem_of_getElem? (i := 37) rfl)) rfl, zT_in (zmt8 (List.mem_of_getElem? (i := 38) rfl)) rfl⟩
theorem mm_RX12_264 : zMV RX12 264 M_X12_onOf 1 := ⟨ok_X12_onOf, zT_in (zmt8 (List.mem_of_getElem? (i := 40) rfl)) rfl, zT_in (zmt8 (List.mem_of_getElem? (i := 42) rfl)) rfl, zT_in (zmp 76 _ rfl) rfl⟩
theorem mm_RX12_267 : zMS RX12 267 M_X12_distance 2 := ⟨ok_X12_distance, zT_in (zmt8 (List.mem_of_getElem? (i := 14) rfl)) rfl, zT_in (zmt8 (List.mem_of_getElem? (i := 15) rfl)) rfl⟩
theorem mm_RX12_273 : zMV RX12 273 M_X12_hopFrom 2 := ⟨ok_X12_hopFrom, zT_in (zmt8 (List.mem_of_getElem? (i := 10) rfl)) rfl, zT_in (zmt8 (List.mem_of_getElem? (i := 12) rfl)) rfl, zT_in (zmp 73 _ rfl) rfl⟩
theorem mm_RX12_277 : zMS RX12 277 M_X12_sizeOf 1 := ⟨ok_X12_sizeOf, zT_in (zmt8 (List.mem_of_getElem? (i := 24) rfl)) rfl, zT_in (zmt8 (List.mem_of_getElem? (i := 25) rfl)) rfl⟩
theorem mm_RX12_280 : zMS RX12 280 M_X12_isOnSide 3 := ⟨ok_X12_isOnSide, zT_in (zmt8 (List.mem_of_getElem? (i := 21) rfl)) rfl, zT_in (zmt8 (List.mem_of_getElem? (i := 22) rfl)) rfl⟩
theorem mm_RX12_284 : zMV RX12 284 M_X12_isKept 3 := ⟨ok_X12_isKept, zT_in (zmt8 (List.mem_of_getElem? (i := 17) rfl)) rfl, zT_in (zmt8 (List.mem_of_getElem? (i := 19) rfl)) rfl, zT_in (zmp 74 _ rfl) rfl⟩
theorem mm_RX12_286 : zMV RX12 286 M_X12_layMeasure 1 := ⟨ok_X12_layMeasure, zT_in (zmt8 (List.mem_of_getElem? (i := 6) rfl)) rfl, zT_in (zmt8 (List.mem_of_getElem? (i := 8) rfl)) rfl, zT_in (zmp 72 _ rfl) rfl⟩
theorem mm_RX12_292 : zMS RX12 292 M_X12_isMeasure 3 := ⟨ok_X12_isMeasure, zT_in (zmt8 (List.mem_of_getElem? (i := 61) rfl)) rfl, zT_in (zmt8 (List.mem_of_getElem? (i := 62) rfl)) rfl⟩
theorem mm_RX12_295 : zMV RX12 295 M_X12_addMeasure 5 := ⟨ok_X12_addMeasure, zT_in (zmt8 (List.mem_of_getElem? (i := 65) rfl)) rfl, zT_in (zmt8 (List.mem_of_getElem? (i := 67) rfl)) rfl, zT_in (zmp 77 _ rfl) rfl⟩
theorem mm_RX12_301 : zMV RX12 301 M_X12_measure 5 := ⟨ok_X12_measure, zT_in (zmt8 (List.mem_of_getElem? (i := 74) rfl)) rfl, zT_in (zmt8 (List.mem_of_getElem? (i := 58) rfl)) rfl, zT_in (zmt8 (List.mem_of_getElem? (i := 59) rfl)) rfl⟩
theorem mm_RX12_304 : zMV RX12 304 M_X12_noMeasure 1 := ⟨ok_X12_noMeasure, zT_in (zmt8 (List.mem_of_getElem? (i := 79) rfl)) rfl, zT_in (zmt8 (List.mem_of_getElem? (i := 81) rfl)) rfl, zT_in (zmp 78 _ rfl) rfl⟩
theorem mm_RX12_307 : zMS RX12 307 M_X12_differs 2 := ⟨ok_X12_differs, zT_in (zmt8 (List.mem_of_getElem? (i := 34) rfl)) rfl, zT_in (zmt8 (List.mem_of_getElem? (i := 35) rfl)) rfl⟩
theorem mm_RX12_311 : zMV RX12 311 M_X12_layAll 0 := ⟨ok_X12_layAll, zT_in (zmt8 (List.mem_of_getElem? (i := 2) rfl)) rfl, zT_in (zmt8 (List.mem_of_getElem? (i := 4) rfl)) rfl, zT_in (zmp 71 _ rfl) rfl⟩
theorem mm_RX12_314 : zMV RX12 314 M_X12_narrowOne 1 := ⟨ok_X12_narrowOne, zT_in (zmt8 (List.mem_of_getElem? (i := 27) rfl)) rfl, zT_in (zmt8 (List.mem_of_getElem? (i := 29) rfl)) rfl, zT_in (zmp 75 _ rfl) rfl⟩
theorem mm_RX12_317 : zMV RX12 317 M_X12_useAll 0 := ⟨ok_X12_useAll, zT_in (zmt7 (List.mem_of_getElem? (i := 234) rfl)) rfl, zT_in (zmt7 (List.mem_of_getElem? (i := 236) rfl)) rfl, zT_in (zmp 69 _ rfl) rfl⟩
theorem mm_RX12_320 : zMV RX12 320 M_X12_narrow 0 := ⟨ok_X12_narrow, zT_in (zmt7 (List.mem_of_getElem? (i := 238) rfl)) rfl, zT_in (zmt8 (List.mem_of_getElem? (i := 0) rfl)) rfl, zT_in (zmp 70 _ rfl) rfl⟩
theorem mm_RX12_327 : zMV RX12 327 M_X12_judge 0 := ⟨ok_X12_judge, zT_in (zmt8 (List.mem_of_getElem? (i := 91) rfl)) rfl, zT_in (zmt8 (List.mem_of_getElem? (i := 93) rfl)) rfl, zT_in (zmp 79 _ rfl) rfl⟩
theorem mm_RX12_330 : zMV RX12 330 M_X12_groupOf 1 := ⟨ok_X12_groupOf, zT_in (zmt8 (List.mem_of_getElem? (i := 103) rfl)) rfl, zT_in (zmt8 (List.mem_of_getElem? (i := 105) rfl)) rfl, zT_in (zmp 80 _ rfl) rfl⟩
theorem mm_RX12_338 : zMV RX12 338 M_X12_isOtherAnchorAt 1 := ⟨ok_X12_isOtherAnchorAt, zT_in (zmt8 (List.mem_of_getElem? (i := 133) rfl)) rfl, zT_in (zmt8 (List.mem_of_getElem? (i := 135) rfl)) rfl, zT_in (zmp 85 _ rfl) rfl⟩
theorem mm_RX12_365 : zMV RX12 365 M_X12_layPairs 0 := ⟨ok_X12_layPairs, zT_in (zmt8 (List.mem_of_getElem? (i := 123) rfl)) rfl, zT_in (zmt8 (List.mem_of_getElem? (i := 125) rfl)) rfl, zT_in (zmp 83 _ rfl) rfl⟩
theorem mm_RX12_369 : zMV RX12 369 M_X12_stays 1 := ⟨ok_X12_stays, zT_in (zmt8 (List.mem_of_getElem? (i := 129) rfl)) rfl, zT_in (zmt8 (List.mem_of_getElem? (i := 131) rfl)) rfl, zT_in (zmp 84 _ rfl) rfl⟩
theorem mm_RX12_372 : zMV RX12 372 M_X12_tally 0 := ⟨ok_X12_tally, zT_in (zmt8 (List.mem_of_getElem? (i := 137) rfl)) rfl, zT_in (zmt8 (List.mem_of_getElem? (i := 139) rfl)) rfl, zT_in (zmp 86 _ rfl) rfl⟩
theorem mm_RX12_375 : zMV RX12 375 M_X12_search 1 := ⟨ok_X12_search, zT_in (zmt8 (List.mem_of_getElem? (i := 119) rfl)) rfl, zT_in (zmt8 (List.mem_of_getElem? (i := 121) rfl)) rfl, zT_in (zmp 82 _ rfl) rfl⟩
theorem mm_RX12_378 : zMV RX12 378 M_X12_searchFor 2 := ⟨ok_X12_searchFor, zT_in (zmt8 (List.mem_of_getElem? (i := 115) rfl)) rfl, zT_in (zmt8 (List.mem_of_getElem? (i := 117) rfl)) rfl, zT_in (zmp 81 _ rfl) rfl⟩
theorem mm_RX12_385 : zMV RX12 385 M_X12_placeOf 1 := ⟨ok_X12_placeOf, zT_in (zmt8 (List.mem_of_getElem? (i := 149) rfl)) rfl, zT_in (zmt8 (List.mem_of_getElem? (i := 151) rfl)) rfl, zT_in (zmp 87 _ rfl) rfl⟩
theorem mm_RX12_388 : zMV RX12 388 M_X12_cellsHad 1 := ⟨ok_X12_cellsHad, zT_in (zmt8 (List.mem_of_getElem? (i := 161) rfl)) rfl, zT_in (zmt8 (List.mem_of_getElem? (i := 163) rfl)) rfl, zT_in (zmp 88 _ rfl) rfl⟩
theorem mm_RX12_391 : zMS RX12 391 M_X12_greater 2 := ⟨ok_X12_greater, zT_in (zmt8 (List.mem_of_getElem? (i := 173) rfl)) rfl, zT_in (zmt8 (List.mem_of_getElem? (i := 174) rfl)) rfl⟩
theorem mm_RX12_394 : zMV RX12 394 M_X12_hasLesserThere 1 := ⟨ok_X12_hasLesserThere, zT_in (zmt8 (List.mem_of_getElem? (i := 192) rfl)) rfl, zT_in (zmt8 (List.mem_of_getElem? (i := 194) rfl)) rfl, zT_in (zmp 89 _ rfl) rfl⟩
theorem mm_RX12_409 : zMV RX12 409 M_X12_isJoint 1 := ⟨ok_X12_isJoint, zT_in (zmt8 (List.mem_of_getElem? (i := 224) rfl)) rfl, zT_in (zmt8 (List.mem_of_getElem? (i := 226) rfl)) rfl, zT_in (zmp 96 _ rfl) rfl⟩
theorem mm_RX12_415 : zMV RX12 415 M_X12_turnedCell 1 := ⟨ok_X12_turnedCell, zT_in (zmt8 (List.mem_of_getElem? (i := 232) rfl)) rfl, zT_in (zmt8 (List.mem_of_getElem? (i := 234) rfl)) rfl, zT_in (zmp 98 _ rfl) rfl⟩
theorem mm_RX12_418 : zMV RX12 418 M_X12_cellThen 1 := ⟨ok_X12_cellThen, zT_in (zmt8 (List.mem_of_getElem? (i := 236) rfl)) rfl, zT_in (zmt8 (List.mem_of_getElem? (i := 238) rfl)) rfl, zT_in (zmp 99 _ rfl) rfl⟩
theorem mm_RX12_421 : zMV RX12 421 M_X12_partOf 1 := ⟨ok_X12_partOf, zT_in (zmt8 (List.mem_of_getElem? (i := 216) rfl)) rfl, zT_in (zmt8 (List.mem_of_getElem? (i := 218) rfl)) rfl, zT_in (zmp 94 _ rfl) rfl⟩
theorem mm_RX12_424 : zMV RX12 424 M_X12_isHinged 0 := ⟨ok_X12_isHinged, zT_in (zmt8 (List.mem_of_getElem? (i := 220) rfl)) rfl, zT_in (zmt8 (List.mem_of_getElem? (i := 222) rfl)) rfl, zT_in (zmp 95 _ rfl) rfl⟩
theorem mm_RX12_427 : zMV RX12 427 M_X12_movesBy 0 := ⟨ok_X12_movesBy, zT_in (zmt8 (List.mem_of_getElem? (i := 228) rfl)) rfl, zT_in (zmt8 (List.mem_of_getElem? (i := 230) rfl)) rfl, zT_in (zmp 97 _ rfl) rfl⟩
theorem mm_RX12_436 : zMV RX12 436 M_X12_keepFlip 1 := ⟨ok_X12_keepFlip, zT_in (zmt9 (List.mem_of_getElem? (i := 0) rfl)) rfl, zT_in (zmt9 (List.mem_of_getElem? (i := 2) rfl)) rfl, zT_in (zmp 100 _ rfl) rfl⟩
theorem mm_RX12_454 : zMV RX12 454 M_X12_mayBeJoint 1 := ⟨ok_X12_mayBeJoint, zT_in (zmt8 (List.mem_of_getElem? (i := 208) rfl)) rfl, zT_in (zmt8 (List.mem_of_getElem? (i := 210) rfl)) rfl, zT_in (zmp 92 _ rfl) rfl⟩
theorem mm_RX12_457 : zMV RX12 457 M_X12_tryJoints 0 := ⟨ok_X12_tryJoints, zT_in (zmt8 (List.mem_of_getElem? (i := 212) rfl)) rfl, zT_in (zmt8 (List.mem_of_getElem? (i := 214) rfl)) rfl, zT_in (zmp 93 _ rfl) rfl⟩
theorem mm_RX12_460 : zMV RX12 460 M_X12_isPlaced 1 := ⟨ok_X12_isPlaced, zT_in (zmt8 (List.mem_of_getElem? (i := 200) rfl)) rfl, zT_in (zmt8 (List.mem_of_getElem? (i := 202) rfl)) rfl, zT_in (zmp 90 _ rfl) rfl⟩
theorem mm_RX12_463 : zMV RX12 463 M_X12_goThroughFlips 2 := ⟨ok_X12_goThroughFlips, zT_in (zmt8 (List.mem_of_getElem? (i := 204) rfl)) rfl, zT_in (zmt8 (List.mem_of_getElem? (i := 206) rfl)) rfl, zT_in (zmp 91 _ rfl) rfl⟩
theorem mm_RX12_466 : zMV RX12 466 M_X12_seek 2 := ⟨ok_X12_seek, zT_in (zmt9 (List.mem_of_getElem? (i := 8) rfl)) rfl, zT_in (zmt9 (List.mem_of_getElem? (i := 10) rfl)) rfl, zT_in (zmp 101 _ rfl) rfl⟩
theorem mm_RX12_469 : zMV RX12 469 M_X12_noTick 2 := ⟨ok_X12_noTick, zT_in (zmt9 (List.mem_of_getElem? (i := 24) rfl)) rfl, zT_in (zmt9 (List.mem_of_getElem? (i := 26) rfl)) rfl, zT_in (zmp 102 _ rfl) rfl⟩
theorem mm_RX12_472 : zMV RX12 472 M_X12_layWays 1 := ⟨ok_X12_layWays, zT_in (zmt9 (List.mem_of_getElem? (i := 36) rfl)) rfl, zT_in (zmt9 (List.mem_of_getElem? (i := 38) rfl)) rfl, zT_in (zmp 104 _ rfl) rfl⟩
theorem mm_RX12_475 : zMV RX12 475 M_X12_waysOf 1 := ⟨ok_X12_waysOf, zT_in (zmt9 (List.mem_of_getElem? (i := 32) rfl)) rfl, zT_in (zmt9 (List.mem_of_getElem? (i := 34) rfl)) rfl, zT_in (zmp 103 _ rfl) rfl⟩
theorem mm_RX12_484 : zMV RX12 484 M_X12_isQuietWithout 2 := ⟨ok_X12_isQuietWithout, zT_in (zmt9 (List.mem_of_getElem? (i := 60) rfl)) rfl, zT_in (zmt9 (List.mem_of_getElem? (i := 62) rfl)) rfl, zT_in (zmp 106 _ rfl) rfl⟩
theorem mm_RX12_487 : zMV RX12 487 M_X12_countSet 2 := ⟨ok_X12_countSet, zT_in (zmt9 (List.mem_of_getElem? (i := 64) rfl)) rfl, zT_in (zmt9 (List.mem_of_getElem? (i := 66) rfl)) rfl, zT_in (zmp 107 _ rfl) rfl⟩
theorem mm_RX12_490 : zMV RX12 490 M_X12_mayLie 1 := ⟨ok_X12_mayLie, zT_in (zmt9 (List.mem_of_getElem? (i := 68) rfl)) rfl, zT_in (zmt9 (List.mem_of_getElem? (i := 70) rfl)) rfl, zT_in (zmp 108 _ rfl) rfl⟩
theorem mm_RX12_493 : zMV RX12 493 M_X12_seekLiars 0 := ⟨ok_X12_seekLiars, zT_in (zmt9 (List.mem_of_getElem? (i := 56) rfl)) rfl, zT_in (zmt9 (List.mem_of_getElem? (i := 58) rfl)) rfl, zT_in (zmp 105 _ rfl) rfl⟩
theorem mm_RX12_496 : zMS RX12 496 M_X12_asNumber 1 := ⟨ok_X12_asNumber, zT_in (zmt9 (List.mem_of_getElem? (i := 80) rfl)) rfl, zT_in (zmt9 (List.mem_of_getElem? (i := 81) rfl)) rfl⟩
theorem mm_RX12_500 : zMS RX12 500 M_X12_noHold 1 := ⟨ok_X12_noHold, zT_in (zmt9 (List.mem_of_getElem? (i := 91) rfl)) rfl, zT_in (zmt9 (List.mem_of_getElem? (i := 92) rfl)) rfl⟩
theorem mm_RX12_503 : zMV RX12 503 M_X12_isTaken 2 := ⟨ok_X12_isTaken, zT_in (zmt9 (List.mem_of_getElem? (i := 102) rfl)) rfl, zT_in (zmt9 (List.mem_of_getElem? (i := 104) rfl)) rfl, zT_in (zmp 109 _ rfl) rfl⟩
theorem mm_RX12_509 : zMV RX12 509 M_X12_traced 1 := ⟨ok_X12_traced, zT_in (zmt9 (List.mem_of_getElem? (i := 118) rfl)) rfl, zT_in (zmt9 (List.mem_of_getElem? (i := 120) rfl)) rfl, zT_in (zmp 112 _ rfl) rfl⟩
theorem mm_RX12_512 : zMV RX12 512 M_X12_faultOf 2 := ⟨ok_X12_faultOf, zT_in (zmt9 (List.mem_of_getElem? (i := 110) rfl)) rfl, zT_in (zmt9 (List.mem_of_getElem? (i := 112) rfl)) rfl, zT_in (zmp 110 _ rfl) rfl⟩
theorem mm_RX12_515 : zMV RX12 515 M_X12_tellThing 1 := ⟨ok_X12_tellThing, zT_in (zmt9 (List.mem_of_getElem? (i := 114) rfl)) rfl, zT_in (zmt9 (List.mem_of_getElem? (i := 116) rfl)) rfl, zT_in (zmp 111 _ rfl) rfl⟩
theorem mm_RX12_518 : zMV RX12 518 M_X12_tellMeasure 1 := ⟨ok_X12_tellMeasure, zT_in (zmt9 (List.mem_of_getElem? (i := 122) rfl)) rfl, zT_in (zmt9 (List.mem_of_getElem? (i := 124) rfl)) rfl, zT_in (zmp 113 _ rfl) rfl⟩
theorem mm_RX12_521 : zMV RX12 521 M_X12_greetThing 1 := ⟨ok_X12_greetThing, zT_in (zmt9 (List.mem_of_getElem? (i := 130) rfl)) rfl, zT_in (zmt9 (List.mem_of_getElem? (i := 132) rfl)) rfl, zT_in (zmp 114 _ rfl) rfl⟩
theorem mm_RX12_524 : zMV RX12 524 M_X12_weighMeasure 1 := ⟨ok_X12_weighMeasure, zT_in (zmt9 (List.mem_of_getElem? (i := 134) rfl)) rfl, zT_in (zmt9 (List.mem_of_getElem? (i := 136) rfl)) rfl, zT_in (zmp 115 _ rfl) rfl⟩
theorem mm_RX12_527 : zMV RX12 527 M_X12_noCell 2 := ⟨ok_X12_noCell, zT_in (zmt9 (List.mem_of_getElem? (i := 150) rfl)) rfl, zT_in (zmt9 (List.mem_of_getElem? (i := 152) rfl)) rfl, zT_in (zmp 116 _ rfl) rfl⟩
theorem mm_RX12_530 : zMV RX12 530 M_X12_failedLong 1 := ⟨ok_X12_failedLong, zT_in (zmt9 (List.mem_of_getElem? (i := 158) rfl)) rfl, zT_in (zmt9 (List.mem_of_getElem? (i := 160) rfl)) rfl, zT_in (zmp 117 _ rfl) rfl⟩
theorem mm_RX12_533 : zMV RX12 533 M_X12_counted 1 := ⟨ok_X12_counted, zT_in (zmt9 (List.mem_of_getElem? (i := 178) rfl)) rfl, zT_in (zmt9 (List.mem_of_getElem? (i := 180) rfl)) rfl, zT_in (zmp 118 _ rfl) rfl⟩
theorem ct_RX11_166 : Cond.constantLong RX11 166 (-1) ∈ zT := zT_in (zmt3 (List.mem_of_getElem? (i := 48) rfl)) rfl
theorem ct_RX11_390 : Cond.constantLong RX11 390 (-9223372036854775808) ∈ zT := zT_in (zmt5 (List.mem_of_getElem? (i := 123) rfl)) rfl
theorem ct_RX1_92 : Cond.constantLong RX1 92 (-1) ∈ zT := zT_in (zmt3 (List.mem_of_getElem? (i := 94) rfl)) rfl
theorem ct_RX4_66 : Cond.constantLong RX4 66 (-1) ∈ zT := zT_in (zmt3 (List.mem_of_getElem? (i := 141) rfl)) rfl
theorem ct_RX6_74 : Cond.constantLong RX6 74 (-1) ∈ zT := zT_in (zmt4 (List.mem_of_getElem? (i := 40) rfl)) rfl
theorem ct_RX7_19 : Cond.constant RX7 19 (60000) ∈ zT := zT_in (zmt1 (List.mem_of_getElem? (i := 236) rfl)) rfl
theorem ct_RX7_179 : Cond.constantLong RX7 179 (-1) ∈ zT := zT_in (zmt4 (List.mem_of_getElem? (i := 118) rfl)) rfl
theorem ct_RX7_210 : Cond.constant RX7 210 (2147483647) ∈ zT := zT_in (zmt4 (List.mem_of_getElem? (i := 216) rfl)) rfl
theorem ct_RX12_160 : Cond.constantLong RX12 160 (-9223372036854775808) ∈ zT := zT_in (zmt9 (List.mem_of_getElem? (i := 43) rfl)) rfl
theorem ct_RX12_173 : Cond.constantLong RX12 173 (63) ∈ zT := zT_in (zmt7 (List.mem_of_getElem? (i := 169) rfl)) rfl
theorem ct_RX12_202 : Cond.constantLong RX12 202 (8) ∈ zT := zT_in (zmt7 (List.mem_of_getElem? (i := 149) rfl)) rfl
theorem ct_RX12_226 : Cond.constantLong RX12 226 (3) ∈ zT := zT_in (zmt7 (List.mem_of_getElem? (i := 181) rfl)) rfl
theorem ct_RX12_239 : Cond.constantLong RX12 239 (2) ∈ zT := zT_in (zmt7 (List.mem_of_getElem? (i := 205) rfl)) rfl
theorem ct_RX12_248 : Cond.constantLong RX12 248 (7) ∈ zT := zT_in (zmt7 (List.mem_of_getElem? (i := 218) rfl)) rfl
theorem ct_RX12_271 : Cond.constantLong RX12 271 (98) ∈ zT := zT_in (zmt8 (List.mem_of_getElem? (i := 56) rfl)) rfl
theorem ct_RX12_290 : Cond.constantLong RX12 290 (20) ∈ zT := zT_in (zmt8 (List.mem_of_getElem? (i := 64) rfl)) rfl
theorem ct_RX12_299 : Cond.constantLong RX12 299 (5) ∈ zT := zT_in (zmt8 (List.mem_of_getElem? (i := 73) rfl)) rfl
theorem ct_RX12_333 : Cond.constantLong RX12 333 (-1) ∈ zT := zT_in (zmt8 (List.mem_of_getElem? (i := 127) rfl)) rfl
theorem ct_RX12_368 : Cond.constant RX12 368 (60000) ∈ zT := zT_in (zmt8 (List.mem_of_getElem? (i := 128) rfl)) rfl
theorem ct_RJ6_265 : Cond.constant RJ6 265 (1431655765) ∈ zT := zT_in (zmt4 (List.mem_of_getElem? (i := 100) rfl)) rfl
theorem ct_RJ6_266 : Cond.constant RJ6 266 (858993459) ∈ zT := zT_in (zmt4 (List.mem_of_getElem? (i := 101) rfl)) rfl
theorem ct_RJ6_267 : Cond.constant RJ6 267 (252645135) ∈ zT := zT_in (zmt4 (List.mem_of_getElem? (i := 102) rfl)) rfl
theorem ct_RJ13_314 : Cond.constantLong RJ13 314 (6148914691236517205) ∈ zT := zT_in (zmt3 (List.mem_of_getElem? (i := 52) rfl)) rfl
theorem ct_RJ13_316 : Cond.constantLong RJ13 316 (3689348814741910323) ∈ zT := zT_in (zmt3 (List.mem_of_getElem? (i := 53) rfl)) rfl
theorem ct_RJ13_318 : Cond.constantLong RJ13 318 (1085102592571150095) ∈ zT := zT_in (zmt3 (List.mem_of_getElem? (i := 54) rfl)) rfl
theorem zvar_0_0 : zvar 0 0 := fun q h => by cases h; rfl
theorem zvar_1_0 : zvar 1 0 := fun q h => by cases h; rfl
theorem zvar_1_1 : zvar 1 1 := fun q h => by cases h; rfl
theorem zvar_1_2 : zvar 1 2 := fun q h => by cases h; rfl
theorem zvar_1_3 : zvar 1 3 := fun q h => by cases h; rfl
theorem zvar_1_7 : zvar 1 7 := fun q h => by cases h; rfl
theorem zvar_1_8 : zvar 1 8 := fun q h => by cases h; rfl
theorem zvar_1_10 : zvar 1 10 := fun q h => by cases h; rfl
theorem zvar_1_11 : zvar 1 11 := fun q h => by cases h; rfl
theorem zvar_1_15 : zvar 1 15 := fun q h => by cases h; rfl
theorem zvar_2_3 : zvar 2 3 := fun q h => by cases h; rfl
theorem zvar_2_4 : zvar 2 4 := fun q h => by cases h; rfl
theorem zvar_2_5 : zvar 2 5 := fun q h => by cases h; rfl
theorem zvar_2_6 : zvar 2 6 := fun q h => by cases h; rfl
theorem zvar_2_7 : zvar 2 7 := fun q h => by cases h; rfl
theorem zvar_2_8 : zvar 2 8 := fun q h => by cases h; rfl
theorem zvar_2_9 : zvar 2 9 := fun q h => by cases h; rfl
theorem zvar_4_3 : zvar 4 3 := fun q h => by cases h; rfl
theorem zvar_6_4 : zvar 6 4 := fun q h => by cases h; rfl
theorem zvar_6_5 : zvar 6 5 := fun q h => by cases h; rfl
theorem zvar_6_6 : zvar 6 6 := fun q h => by cases h; rfl
theorem zvar_6_7 : zvar 6 7 := fun q h => by cases h; rfl
theorem zvar_6_8 : zvar 6 8 := fun q h => by cases h; rfl
theorem zvar_6_9 : zvar 6 9 := fun q h => by cases h; rfl
theorem zvar_7_3 : zvar 7 3 := fun q h => by cases h; rfl
theorem zvar_7_4 : zvar 7 4 := fun q h => by cases h; rfl
theorem zvar_7_6 : zvar 7 6 := fun q h => by cases h; rfl
theorem zvar_7_7 : zvar 7 7 := fun q h => by cases h; rfl
theorem zvar_7_8 : zvar 7 8 := fun q h => by cases h; rfl
theorem zvar_7_12 : zvar 7 12 := fun q h => by cases h; rfl
theorem zvar_7_14 : zvar 7 14 := fun q h => by cases h; rfl
theorem zvar_7_16 : zvar 7 16 := fun q h => by cases h; rfl
theorem zvar_8_0 : zvar 8 0 := fun q h => by cases h; rfl
theorem zvar_8_1 : zvar 8 1 := fun q h => by cases h; rfl
theorem zvar_10_4 : zvar 10 4 := fun q h => by cases h; rfl
theorem zvar_11_13 : zvar 11 13 := fun q h => by cases h; rfl
theorem zvar_11_14 : zvar 11 14 := fun q h => by cases h; rfl
theorem zvar_11_15 : zvar 11 15 := fun q h => by cases h; rfl
theorem zvar_12_0 : zvar 12 0 := fun q h => by cases h; rfl
theorem zvar_12_1 : zvar 12 1 := fun q h => by cases h; rfl
theorem zvar_12_2 : zvar 12 2 := fun q h => by cases h; rfl
theorem zvar_12_4 : zvar 12 4 := fun q h => by cases h; rfl
theorem zvar_12_12 : zvar 12 12 := fun q h => by cases h; rfl
theorem zvar_12_19 : zvar 12 19 := fun q h => by cases h; rfl
theorem zvar_12_23 : zvar 12 23 := fun q h => by cases h; rfl
theorem zvar_12_25 : zvar 12 25 := fun q h => by cases h; rfl
theorem zvar_12_26 : zvar 12 26 := fun q h => by cases h; rfl
theorem zvar_12_27 : zvar 12 27 := fun q h => by cases h; rfl
theorem zvar_12_35 : zvar 12 35 := fun q h => by cases h; rfl
theorem zvar_12_37 : zvar 12 37 := fun q h => by cases h; rfl
theorem zvar_12_41 : zvar 12 41 := fun q h => by cases h; rfl
theorem zvar_12_42 : zvar 12 42 := fun q h => by cases h; rfl
theorem zvar_12_43 : zvar 12 43 := fun q h => by cases h; rfl
theorem zvar_12_46 : zvar 12 46 := fun q h => by cases h; rfl
theorem zvar_12_48 : zvar 12 48 := fun q h => by cases h; rfl
theorem zvar_12_49 : zvar 12 49 := fun q h => by cases h; rfl
theorem zvar_12_50 : zvar 12 50 := fun q h => by cases h; rfl
theorem zvar_12_51 : zvar 12 51 := fun q h => by cases h; rfl
theorem zvar_12_52 : zvar 12 52 := fun q h => by cases h; rfl
theorem zvar_12_53 : zvar 12 53 := fun q h => by cases h; rfl
theorem zvar_12_54 : zvar 12 54 := fun q h => by cases h; rfl
theorem zvar_12_55 : zvar 12 55 := fun q h => by cases h; rfl
theorem zvar_12_56 : zvar 12 56 := fun q h => by cases h; rfl
theorem zvar_12_57 : zvar 12 57 := fun q h => by cases h; rfl
theorem zvar_12_58 : zvar 12 58 := fun q h => by cases h; rfl
theorem zvar_12_59 : zvar 12 59 := fun q h => by cases h; rfl
theorem zvar_12_60 : zvar 12 60 := fun q h => by cases h; rfl
theorem zvar_12_61 : zvar 12 61 := fun q h => by cases h; rfl
theorem zvar_12_62 : zvar 12 62 := fun q h => by cases h; rfl
theorem zvar_12_63 : zvar 12 63 := fun q h => by cases h; rfl
theorem zvar_12_64 : zvar 12 64 := fun q h => by cases h; rfl
theorem zvar_12_68 : zvar 12 68 := fun q h => by cases h; rfl
theorem zvar_12_69 : zvar 12 69 := fun q h => by cases h; rfl
theorem zvar_12_78 : zvar 12 78 := fun q h => by cases h; rfl
theorem mh_RX3_27 : Cond.methodLink RX3 27 Lib.Math.abs.name ∈ zT := zT_in (zmt1 (List.mem_of_getElem? (i := 154) rfl)) rfl
theorem mh_RX7_102 : Cond.methodLink RX7 102 Lib.Math.max.name ∈ zT := zT_in (zmt4 (List.mem_of_getElem? (i := 130) rfl)) rfl
theorem mh_RX7_184 : Cond.methodLink RX7 184 Lib.Math.min.name ∈ zT := zT_in (zmt4 (List.mem_of_getElem? (i := 127) rfl)) rfl
theorem gs_RX2_113 : Cond.fieldLink RX2 113 "HeardPlaces$Flips" "XX" "[I" ∈ zT := zT_in (zmt5 (List.mem_of_getElem? (i := 48) rfl)) rfl
theorem gs_RX2_116 : Cond.fieldLink RX2 116 "HeardPlaces$Flips" "XY" "[I" ∈ zT := zT_in (zmt5 (List.mem_of_getElem? (i := 50) rfl)) rfl
theorem gs_RX2_119 : Cond.fieldLink RX2 119 "HeardPlaces$Flips" "YX" "[I" ∈ zT := zT_in (zmt5 (List.mem_of_getElem? (i := 52) rfl)) rfl
theorem gs_RX2_122 : Cond.fieldLink RX2 122 "HeardPlaces$Flips" "YY" "[I" ∈ zT := zT_in (zmt5 (List.mem_of_getElem? (i := 54) rfl)) rfl
