theorem z_places {α : Type} (f : α → Cond) (l : List α) (big : List Cond) (ps : List Nat) (h : l.map f = ps.filterMap (fun i => big[i]?)) : ∀ q ∈ l, f q ∈ big := by
  intro q hq
  have h1 : f q ∈ l.map f := List.mem_map.mpr ⟨q, hq, rfl⟩
  rw [h] at h1
  obtain ⟨i, -, hi⟩ := List.mem_filterMap.mp h1
  exact List.mem_of_getElem? hi
def zCn : Nat → String := fun k => match k with
  | 0 => RX0
  | 1 => RX1
  | 2 => RX2
  | 3 => RX3
  | 4 => RX4
  | 5 => RX5
  | 6 => RX6
  | 7 => RX7
  | 8 => RX8
  | 9 => RX9
  | 10 => RX10
  | 11 => RX11
  | 12 => RX12
  | 13 => RL
  | _ => RJ7
def zYs : List (MethodName) := [yX0_init, yX0_answer, yX0_search, yX0_tryHoles, yX0_note, yX0_askKnown, yX1_init, yX1_clear, yX1_emit, yX1_bridge, yX1_addClause, yX1_asks, yX1_leavesOut, yX1_amount, yX1_run, yX1_isLeap, yX1_reckon, yX2_init, yX2_exchange, yX2_read, yX2_clause, yX2_condition, yX2_part, yX2_piece, yX2_comparison, yX2_sum, yX2_term, yX2_factor, yX2_number, yX2_operator, yX2_next, yX2_take, yX2_fail, yX2_isDigit, yX3_init, yX3_find, yX3_putRanks, yX3_pipesOn, yX3_holeFor, yX3_holeOn, yX4_init, yX4_isPipe, yX4_giveBack, yX5_init, yX5_read, yX5_goesOn, yX5_fewest, yX5_freest, yX5_breakWith, yX5_fewestFrom, yX5_putRow, yX6_init, yX6_holeFor, yX6_secondsFor, yX6_putSigns, yX6_doGoes, yX6_blunderGo, yX6_askAll, yX6_tally, yX6_throwAll, yX7_init, yX7_copyFrom, yX7_copyGoesFrom, yX7_add, yX7_putBehind, yX7_comeIn, yX7_placeOf, yX7_streetAt, yX7_othersElsewhere, yX7_streetBits, yX7_weights, yX8_init, yX8_fewest, yX8_countLetters, yX8_isAlone, yX8_letters, yX8_goDeeper, yX8_splitUpTo, yX8_fewestHoles, yX8_throwsWith, yX8_firstIn, yX9_init, yX9_hasRoom, yX9_append, yX9_byteAt, yX9_numberAt, yX9_tells, yX9_tellsEachOf, yX10_init, yX10_longestRow, yX10_settle, yX10_fits, yX10_canPutInto, yX10_canPut, yX10_nearest, yX11_init, yX11_letter, yX11_rank, yX11_rack, yX11_feed, yX11_law, yX11_order, yX11_letterIs, yX11_at, yX11_goes, yX11_tried, yX11_out, yX11_forAny, yX11_runs, yX11_plan, yX11_planned, yX11_planDone, yX11_tables, yX11_table, yX11_yardQueues, yX11_yardPipes, yX11_yard, yX11_together, yX11_blunder, yX11_badly, yX11_clerks, yX11_wanted, yX11_seed, yX11_shuffle, yX11_keep, yX11_undo, yX11_check, yX11_count, yX11_isStreet, yX11_areTables, yX11_isLetter, yX11_canGo, yX11_holeNow, yX11_firstOut, yX11_putRanks, yX11_readRanks, yX11_findPlan, yX11_secondsOfFirst, yX11_bestShare, yX12_init, yX12_in, yX12_min, yX12_max, yX12_has, yX12_isLetter, yX12_isStreet, yX12_rankBy, yX12_arrives, yX12_letter, yX12_rank, yX12_rack, yX12_placeOf, yX12_types, yX12_feed, yX12_here, yX12_isDigit, yX12_wrongAt, yX12_takes, yX12_readsNumber, yX12_notes, yX12_opens, yX12_waitTop, yX12_factOf, yX12_sumSign, yX12_closesSums, yX12_readsFactor, yX12_hasOpenSum, yX12_readsSum, yX12_endsPiece, yX12_lands, yX12_jumps, yX12_readsCompared, yX12_readsCondition, yX12_readsClause, yX12_law, yX12_reckon, yX12_comesTo, yX12_byLaw, yX12_feels, yX12_isLeftOut, yX12_holeFor, yX12_secondsFor, yX12_comeAhead, yX12_givesBack, yX12_asksAll, yX12_throwsAll, yX12_goesOnce, yX12_goesBy, yX12_areGoes, yX12_copies, yX12_begins, yX12_again, yX12_order, yX12_letterIs, yX12_at, yX12_goes, yX12_outOf, yX12_out, yX12_tried, yX12_forAny, yX12_laysRanks, yX12_goTogether, yX12_runs, yX12_readsWay, yX12_plansBy, yX12_laysPlan, yX12_plan, yX12_rankNumber, yX12_planned, yX12_planDone, yX12_at3, yX12_laysStreets, yX12_lettersIn, yX12_isSingle, yX12_sum, yX12_laysCover, yX12_laysTables, yX12_areTables, yX12_tables, yX12_table, yX12_longestRow, yX12_yardQueues, yX12_yardPipes, yX12_mayGo, yX12_nextHole, yX12_canYard, yX12_yard, yX12_laysTogether, yX12_rowBy, yX12_rowsBy, yX12_laysBreaks, yX12_together, yX12_laysAsItIs, yX12_goesWrong, yX12_placeIn, yX12_othersElsewhere, yX12_blunder, yX12_isAsTold, yX12_badly, yX12_clerks, yX12_wanted, yX12_seed, yX12_shuffle, yX12_keep, yX12_undo, yX12_tapeNumber, yX12_check, yX12_streetBits, yX12_weightAll, yX12_count, x, yJ7_fill_53178]
def zY (k : Nat) : MethodName := zYs.getD k yX0_init
def zBs : List (ByteArray) := [cX0_init, cX0_answer, cX0_search, cX0_tryHoles, cX0_note, cX0_askKnown, cX1_init, cX1_clear, cX1_emit, cX1_bridge, cX1_addClause, cX1_asks, cX1_leavesOut, cX1_amount, cX1_run, cX1_isLeap, cX1_reckon, cX2_init, cX2_exchange, cX2_read, cX2_clause, cX2_condition, cX2_part, cX2_piece, cX2_comparison, cX2_sum, cX2_term, cX2_factor, cX2_number, cX2_operator, cX2_next, cX2_take, cX2_fail, cX2_isDigit, cX3_init, cX3_find, cX3_putRanks, cX3_pipesOn, cX3_holeFor, cX3_holeOn, cX4_init, cX4_isPipe, cX4_giveBack, cX5_init, cX5_read, cX5_goesOn, cX5_fewest, cX5_freest, cX5_breakWith, cX5_fewestFrom, cX5_putRow, cX6_init, cX6_holeFor, cX6_secondsFor, cX6_putSigns, cX6_doGoes, cX6_blunderGo, cX6_askAll, cX6_tally, cX6_throwAll, cX7_init, cX7_copyFrom, cX7_copyGoesFrom, cX7_add, cX7_putBehind, cX7_comeIn, cX7_placeOf, cX7_streetAt, cX7_othersElsewhere, cX7_streetBits, cX7_weights, cX8_init, cX8_fewest, cX8_countLetters, cX8_isAlone, cX8_letters, cX8_goDeeper, cX8_splitUpTo, cX8_fewestHoles, cX8_throwsWith, cX8_firstIn, cX9_init, cX9_hasRoom, cX9_append, cX9_byteAt, cX9_numberAt, cX9_tells, cX9_tellsEachOf, cX10_init, cX10_longestRow, cX10_settle, cX10_fits, cX10_canPutInto, cX10_canPut, cX10_nearest, cX11_init, cX11_letter, cX11_rank, cX11_rack, cX11_feed, cX11_law, cX11_order, cX11_letterIs, cX11_at, cX11_goes, cX11_tried, cX11_out, cX11_forAny, cX11_runs, cX11_plan, cX11_planned, cX11_planDone, cX11_tables, cX11_table, cX11_yardQueues, cX11_yardPipes, cX11_yard, cX11_together, cX11_blunder, cX11_badly, cX11_clerks, cX11_wanted, cX11_seed, cX11_shuffle, cX11_keep, cX11_undo, cX11_check, cX11_count, cX11_isStreet, cX11_areTables, cX11_isLetter, cX11_canGo, cX11_holeNow, cX11_firstOut, cX11_putRanks, cX11_readRanks, cX11_findPlan, cX11_secondsOfFirst, cX11_bestShare, cX12_init, cX12_in, cX12_min, cX12_max, cX12_has, cX12_isLetter, cX12_isStreet, cX12_rankBy, cX12_arrives, cX12_letter, cX12_rank, cX12_rack, cX12_placeOf, cX12_types, cX12_feed, cX12_here, cX12_isDigit, cX12_wrongAt, cX12_takes, cX12_readsNumber, cX12_notes, cX12_opens, cX12_waitTop, cX12_factOf, cX12_sumSign, cX12_closesSums, cX12_readsFactor, cX12_hasOpenSum, cX12_readsSum, cX12_endsPiece, cX12_lands, cX12_jumps, cX12_readsCompared, cX12_readsCondition, cX12_readsClause, cX12_law, cX12_reckon, cX12_comesTo, cX12_byLaw, cX12_feels, cX12_isLeftOut, cX12_holeFor, cX12_secondsFor, cX12_comeAhead, cX12_givesBack, cX12_asksAll, cX12_throwsAll, cX12_goesOnce, cX12_goesBy, cX12_areGoes, cX12_copies, cX12_begins, cX12_again, cX12_order, cX12_letterIs, cX12_at, cX12_goes, cX12_outOf, cX12_out, cX12_tried, cX12_forAny, cX12_laysRanks, cX12_goTogether, cX12_runs, cX12_readsWay, cX12_plansBy, cX12_laysPlan, cX12_plan, cX12_rankNumber, cX12_planned, cX12_planDone, cX12_at3, cX12_laysStreets, cX12_lettersIn, cX12_isSingle, cX12_sum, cX12_laysCover, cX12_laysTables, cX12_areTables, cX12_tables, cX12_table, cX12_longestRow, cX12_yardQueues, cX12_yardPipes, cX12_mayGo, cX12_nextHole, cX12_canYard, cX12_yard, cX12_laysTogether, cX12_rowBy, cX12_rowsBy, cX12_laysBreaks, cX12_together, cX12_laysAsItIs, cX12_goesWrong, cX12_placeIn, cX12_othersElsewhere, cX12_blunder, cX12_isAsTold, cX12_badly, cX12_clerks, cX12_wanted, cX12_seed, cX12_shuffle, cX12_keep, cX12_undo, cX12_tapeNumber, cX12_check, cX12_streetBits, cX12_weightAll, cX12_count, code, cJ7_fill_53178]
def zB (k : Nat) : ByteArray := zBs.getD k cX0_init
def zLs : List (Nat) := [3, 2, 7, 7, 4, 7, 1, 1, 4, 2, 4, 2, 3, 5, 8, 1, 3, 2, 3, 4, 4, 5, 5, 3, 3, 5, 5, 4, 3, 2, 1, 2, 2, 1, 3, 2, 5, 4, 3, 7, 1, 2, 6, 1, 5, 4, 4, 5, 4, 5, 5, 3, 3, 3, 4, 4, 5, 3, 3, 3, 1, 2, 2, 5, 2, 2, 3, 2, 5, 3, 3, 2, 7, 3, 3, 3, 6, 7, 4, 3, 9, 1, 1, 3, 2, 4, 3, 5, 2, 7, 6, 3, 7, 4, 5, 2, 6, 3, 3, 6, 3, 4, 4, 2, 2, 5, 1, 5, 2, 1, 4, 4, 5, 6, 1, 1, 4, 3, 8, 5, 4, 8, 2, 4, 1, 1, 4, 2, 1, 3, 2, 3, 3, 3, 2, 1, 1, 4, 7, 2, 3, 2, 2, 2, 2, 1, 2, 2, 4, 3, 3, 3, 3, 6, 1, 1, 3, 2, 2, 3, 2, 1, 1, 1, 2, 2, 3, 3, 1, 3, 2, 2, 1, 2, 4, 3, 8, 5, 3, 3, 2, 2, 2, 5, 2, 2, 1, 3, 2, 3, 1, 1, 5, 4, 2, 2, 2, 1, 4, 5, 5, 3, 4, 7, 8, 2, 1, 3, 3, 3, 4, 2, 5, 5, 2, 7, 5, 4, 5, 10, 6, 1, 1, 4, 8, 5, 4, 3, 3, 4, 5, 6, 2, 7, 4, 4, 9, 3, 8, 9, 7, 2, 4, 1, 1, 4, 3, 3, 3, 2, 4, 4]
def zL (k : Nat) : Nat := zLs.getD k 3
def zRts : List (Option FieldType) := [none, (some .int), none, none, none, none, none, none, (some .int), none, none, (some .boolean), (some .boolean), (some .int), (some .int), (some .boolean), (some .int), none, (some (.object "NineHoles$Law")), (some .int), (some .boolean), (some .boolean), (some .boolean), (some .boolean), (some .boolean), (some .boolean), (some .boolean), (some .boolean), (some .boolean), (some .int), (some .int), (some .boolean), (some .boolean), (some .boolean), none, (some .int), (some .boolean), (some .int), (some .int), (some .int), none, (some .boolean), none, none, none, (some .boolean), (some .int), (some .int), (some .int), (some .int), none, none, (some .int), (some .int), none, none, (some .boolean), none, none, none, none, none, none, (some .int), none, none, (some .int), (some .int), (some .int), (some .int), (some .int), none, (some .int), none, (some .boolean), (some .int), (some .boolean), none, (some .int), (some .int), (some .int), none, (some .boolean), none, (some .int), (some .int), (some .boolean), (some .boolean), none, (some .int), (some .boolean), (some .boolean), (some .boolean), (some .boolean), (some .int), none, (some .int), (some .boolean), (some .boolean), (some .int), (some .int), (some .boolean), (some .int), (some .int), (some .int), (some .int), (some .int), (some .int), (some .int), (some .int), (some .int), (some .int), (some .int), (some .int), (some .int), (some .int), (some .int), (some .int), (some .int), (some .int), (some .int), (some .int), (some .boolean), (some .int), (some .int), (some .boolean), (some .int), (some .int), (some .boolean), (some .boolean), (some .boolean), (some .boolean), (some .int), (some .int), none, none, (some .int), (some .int), (some .int), none, (some .boolean), (some .int), (some .int), (some .boolean), (some .boolean), (some .boolean), (some .int), none, (some .int), (some .boolean), (some .boolean), (some .int), none, (some .int), (some .int), (some .boolean), (some .boolean), (some .boolean), (some .boolean), none, (some .boolean), (some .int), (some .int), (some .int), none, (some .boolean), (some .boolean), (some .boolean), none, none, none, (some .boolean), (some .boolean), (some .boolean), (some .int), (some .int), (some .int), (some .int), none, (some .boolean), (some .int), (some .int), none, none, none, none, none, none, (some .boolean), none, none, none, (some .boolean), (some .int), (some .int), (some .int), (some .int), (some .int), (some .int), (some .int), none, (some .boolean), (some .int), (some .boolean), (some .boolean), none, (some .int), (some .int), (some .int), (some .int), (some .int), none, (some .int), (some .boolean), (some .int), none, none, (some .boolean), (some .int), (some .int), (some .int), (some .int), (some .int), (some .boolean), (some .int), (some .boolean), (some .int), (some .boolean), (some .int), (some .int), none, (some .int), none, (some .boolean), (some .int), (some .int), (some .int), (some .boolean), (some .int), (some .int), (some .int), (some .boolean), (some .int), (some .int), (some .boolean), (some .int), (some .int), (some .int), (some .int), (some .int), (some .boolean), none]
def zRt (k : Nat) : Option FieldType := zRts.getD k none
def zOs : List (Nat) := [0, 0, 0, 0, 0, 0, 1, 1, 1, 1, 1, 1, 1, 1, 1, 1, 1, 2, 2, 2, 2, 2, 2, 2, 2, 2, 2, 2, 2, 2, 2, 2, 2, 2, 3, 3, 3, 3, 3, 3, 4, 4, 4, 5, 5, 5, 5, 5, 5, 5, 5, 6, 6, 6, 6, 6, 6, 6, 6, 6, 7, 7, 7, 7, 7, 7, 7, 7, 7, 7, 7, 8, 8, 8, 8, 8, 8, 8, 8, 8, 8, 9, 9, 9, 9, 9, 9, 9, 10, 10, 10, 10, 10, 10, 10, 11, 11, 11, 11, 11, 11, 11, 11, 11, 11, 11, 11, 11, 11, 11, 11, 11, 11, 11, 11, 11, 11, 11, 11, 11, 11, 11, 11, 11, 11, 11, 11, 11, 11, 11, 11, 11, 11, 11, 11, 11, 11, 11, 11, 12, 12, 12, 12, 12, 12, 12, 12, 12, 12, 12, 12, 12, 12, 12, 12, 12, 12, 12, 12, 12, 12, 12, 12, 12, 12, 12, 12, 12, 12, 12, 12, 12, 12, 12, 12, 12, 12, 12, 12, 12, 12, 12, 12, 12, 12, 12, 12, 12, 12, 12, 12, 12, 12, 12, 12, 12, 12, 12, 12, 12, 12, 12, 12, 12, 12, 12, 12, 12, 12, 12, 12, 12, 12, 12, 12, 12, 12, 12, 12, 12, 12, 12, 12, 12, 12, 12, 12, 12, 12, 12, 12, 12, 12, 12, 12, 12, 12, 12, 12, 12, 12, 12, 12, 12, 12, 12, 12, 12, 12, 12, 13, 14]
def zO (k : Nat) : Nat := zOs.getD k 0
def zMcs : List (Nat × Nat) := [(15, 61813), (0, 0), (0, 0), (0, 0), (0, 0), (0, 0), (7, 656), (0, 0), (0, 0), (0, 0), (0, 0), (0, 0), (0, 0), (0, 0), (0, 0), (0, 0), (0, 0), (8, 666), (0, 0), (0, 0), (0, 0), (0, 0), (0, 0), (0, 0), (0, 0), (0, 0), (0, 0), (0, 0), (0, 0), (0, 0), (0, 0), (0, 0), (0, 0), (0, 0), (1, 20), (0, 0), (0, 0), (0, 0), (0, 0), (0, 0), (2, 42), (0, 0), (0, 0), (5, 2116), (0, 0), (0, 0), (0, 0), (0, 0), (0, 0), (0, 0), (0, 0), (10, 706), (0, 0), (0, 0), (0, 0), (0, 0), (0, 0), (0, 0), (0, 0), (0, 0), (5, 160), (0, 0), (0, 0), (0, 0), (0, 0), (0, 0), (0, 0), (0, 0), (0, 0), (0, 0), (0, 0), (55, 1102), (0, 0), (0, 0), (0, 0), (0, 0), (0, 0), (0, 0), (0, 0), (0, 0), (0, 0), (1, 220), (0, 0), (0, 0), (0, 0), (0, 0), (0, 0), (0, 0), (3, 51), (0, 0), (0, 0), (0, 0), (0, 0), (0, 0), (0, 0), (135, 67514), (0, 0), (0, 0), (0, 0), (0, 0), (0, 0), (0, 0), (0, 0), (0, 0), (0, 0), (0, 0), (0, 0), (0, 0), (0, 0), (0, 0), (0, 0), (0, 0), (0, 0), (0, 0), (0, 0), (0, 0), (0, 0), (0, 0), (0, 0), (0, 0), (0, 0), (0, 0), (0, 0), (0, 0), (0, 0), (0, 0), (0, 0), (0, 0), (0, 0), (0, 0), (0, 0), (0, 0), (0, 0), (0, 0), (0, 0), (0, 0), (0, 0), (0, 0), (0, 0), (47, 9859), (0, 0), (0, 0), (0, 0), (0, 0), (0, 0), (0, 0), (0, 0), (0, 0), (0, 0), (0, 0), (0, 0), (0, 0), (0, 0), (0, 0), (0, 0), (0, 0), (0, 0), (0, 0), (0, 0), (0, 0), (0, 0), (0, 0), (0, 0), (0, 0), (0, 0), (0, 0), (0, 0), (0, 0), (0, 0), (0, 0), (0, 0), (0, 0), (0, 0), (0, 0), (0, 0), (0, 0), (0, 0), (0, 0), (0, 0), (0, 0), (0, 0), (0, 0), (0, 0), (0, 0), (0, 0), (0, 0), (0, 0), (0, 0), (0, 0), (0, 0), (0, 0), (0, 0), (0, 0), (0, 0), (0, 0), (0, 0), (0, 0), (0, 0), (0, 0), (0, 0), (0, 0), (0, 0), (0, 0), (0, 0), (0, 0), (0, 0), (0, 0), (0, 0), (0, 0), (0, 0), (0, 0), (0, 0), (0, 0), (0, 0), (0, 0), (0, 0), (0, 0), (0, 0), (0, 0), (0, 0), (0, 0), (0, 0), (0, 0), (0, 0), (0, 0), (0, 0), (0, 0), (0, 0), (0, 0), (0, 0), (0, 0), (0, 0), (0, 0), (0, 0), (0, 0), (0, 0), (0, 0), (0, 0), (0, 0), (0, 0), (0, 0), (0, 0), (0, 0), (0, 0), (0, 0), (0, 0), (0, 0), (0, 0), (0, 0), (0, 0), (184, 77466), (0, 0)]
def zMc (k : Nat) : Nat × Nat := zMcs.getD k (15, 61813)
def zAs : List (Nat) := [2, 1, 3, 4, 3, 2, 0, 0, 2, 1, 3, 1, 1, 3, 3, 1, 3, 1, 1, 1, 0, 1, 1, 1, 1, 1, 1, 1, 0, 1, 0, 1, 1, 1, 2, 0, 1, 1, 2, 2, 0, 1, 2, 0, 2, 3, 1, 0, 3, 2, 0, 2, 2, 2, 2, 2, 3, 1, 1, 1, 0, 1, 1, 3, 1, 0, 1, 1, 2, 0, 0, 1, 4, 1, 2, 2, 2, 2, 1, 2, 3, 0, 0, 1, 1, 1, 1, 1, 1, 3, 2, 2, 4, 3, 2, 0, 3, 2, 2, 5, 1, 1, 2, 1, 1, 2, 0, 2, 1, 0, 2, 0, 3, 4, 0, 0, 2, 1, 5, 2, 1, 1, 1, 0, 0, 0, 1, 1, 1, 3, 1, 2, 1, 1, 0, 0, 0, 1, 1, 0, 3, 2, 2, 2, 1, 1, 1, 1, 3, 2, 2, 1, 1, 5, 0, 0, 2, 1, 0, 2, 1, 0, 1, 1, 1, 0, 1, 0, 0, 1, 1, 0, 0, 0, 1, 3, 2, 2, 1, 1, 1, 1, 0, 0, 0, 0, 0, 1, 1, 2, 0, 0, 1, 2, 1, 1, 0, 0, 2, 2, 0, 2, 1, 2, 1, 0, 0, 1, 2, 0, 3, 0, 2, 2, 2, 2, 1, 3, 3, 4, 1, 0, 0, 3, 2, 1, 2, 0, 2, 3, 0, 1, 1, 4, 3, 1, 5, 1, 2, 1, 1, 1, 0, 0, 0, 1, 1, 0, 0, 1, 1, 2]
def zA (k : Nat) : Nat := zAs.getD k 2
abbrev zNm : Nat := 252
abbrev zNl : Nat := 250
abbrev zFl : List (Nat × Nat × Nat × Nat) := [(0, 12, 0, 2), (0, 18, 0, 3), (0, 21, 0, 4), (0, 26, 0, 5), (0, 29, 0, 6), (0, 32, 0, 7), (0, 36, 0, 8), (0, 39, 0, 9), (0, 43, 0, 10), (0, 46, 0, 0), (0, 50, 0, 1), (0, 54, 6, 4), (0, 77, 6, 3), (0, 86, 7, 5), (0, 100, 4, 0), (0, 114, 7, 4), (0, 121, 7, 6), (0, 124, 7, 3), (1, 9, 1, 0), (1, 13, 1, 1), (1, 16, 1, 2), (1, 19, 1, 3), (1, 22, 1, 4), (1, 25, 1, 5), (1, 28, 1, 6), (1, 31, 1, 7), (1, 35, 1, 8), (1, 38, 1, 9), (2, 10, 2, 1), (2, 16, 2, 2), (2, 20, 2, 3), (2, 23, 2, 4), (2, 26, 2, 0), (2, 47, 1, 7), (2, 57, 1, 8), (3, 9, 3, 2), (3, 15, 3, 3), (3, 19, 3, 0), (3, 23, 3, 1), (3, 31, 4, 0), (3, 36, 5, 2), (3, 45, 5, 0), (4, 9, 4, 0), (4, 15, 4, 1), (4, 18, 4, 2), (4, 22, 4, 3), (4, 31, 7, 6), (4, 40, 7, 4), (5, 9, 5, 0), (5, 15, 5, 1), (5, 18, 5, 2), (5, 22, 5, 3), (5, 25, 5, 4), (5, 28, 5, 5), (6, 19, 6, 2), (6, 25, 6, 3), (6, 29, 6, 4), (6, 33, 6, 5), (6, 37, 6, 6), (6, 40, 6, 7), (6, 43, 6, 0), (6, 46, 6, 1), (6, 58, 4, 0), (6, 67, 7, 4), (6, 72, 7, 0), (6, 75, 7, 1), (6, 78, 7, 7), (6, 81, 7, 3), (6, 101, 7, 6), (7, 9, 7, 0), (7, 15, 7, 1), (7, 18, 7, 2), (7, 21, 7, 3), (7, 24, 7, 4), (7, 27, 7, 5), (7, 31, 7, 6), (7, 34, 7, 7), (7, 37, 7, 8), (8, 9, 8, 1), (8, 15, 8, 2), (8, 20, 8, 3), (8, 23, 8, 4), (8, 26, 8, 5), (8, 29, 8, 0), (8, 59, 7, 6), (8, 74, 4, 0), (9, 9, 9, 0), (9, 13, 9, 1), (9, 21, 7, 6), (9, 24, 7, 4), (10, 9, 10, 1), (10, 15, 10, 2), (10, 18, 10, 3), (10, 21, 10, 0), (10, 31, 4, 0), (11, 10, 11, 0), (11, 18, 9, 0), (11, 25, 11, 1), (11, 29, 11, 2), (11, 32, 11, 3), (11, 38, 11, 4), (11, 45, 11, 5), (11, 49, 11, 6), (11, 52, 11, 7), (11, 55, 11, 8), (11, 63, 11, 9), (11, 70, 11, 10), (11, 79, 11, 11), (11, 88, 11, 12), (11, 95, 11, 13), (11, 104, 11, 14), (11, 108, 11, 15), (11, 116, 7, 7), (11, 124, 4, 0), (11, 127, 4, 1), (11, 138, 9, 1), (11, 147, 6, 4), (11, 155, 7, 6), (11, 160, 7, 4), (11, 172, 7, 0), (11, 175, 7, 1), (11, 178, 7, 3), (11, 192, 6, 5), (11, 199, 6, 6), (11, 202, 6, 7), (11, 224, 6, 3), (11, 256, 10, 3), (11, 262, 5, 2), (11, 268, 5, 0), (11, 271, 5, 1), (11, 288, 0, 10), (11, 321, 7, 8), (11, 328, 7, 5), (11, 331, 1, 7), (12, 7, 12, 6), (12, 13, 12, 7), (12, 16, 12, 8), (12, 19, 12, 9), (12, 22, 12, 10), (12, 25, 12, 11), (12, 28, 12, 12), (12, 32, 12, 23), (12, 35, 12, 24), (12, 38, 12, 25), (12, 41, 12, 26), (12, 44, 12, 27), (12, 47, 12, 28), (12, 50, 12, 29), (12, 53, 12, 30), (12, 56, 12, 31), (12, 59, 12, 32), (12, 62, 12, 33), (12, 65, 12, 34), (12, 68, 12, 35), (12, 71, 12, 39), (12, 74, 12, 40), (12, 77, 12, 43), (12, 80, 12, 44), (12, 83, 12, 46), (12, 86, 12, 47), (12, 89, 12, 48), (12, 92, 12, 50), (12, 95, 12, 51), (12, 98, 12, 52), (12, 101, 12, 53), (12, 104, 12, 54), (12, 107, 12, 55), (12, 110, 12, 56), (12, 113, 12, 57), (12, 116, 12, 59), (12, 119, 12, 60), (12, 122, 12, 61), (12, 125, 12, 62), (12, 128, 12, 63), (12, 131, 12, 65), (12, 134, 12, 66), (12, 137, 12, 72), (12, 140, 12, 73), (12, 143, 12, 74), (12, 146, 12, 75), (12, 149, 12, 76), (12, 152, 12, 5), (12, 156, 12, 3), (12, 159, 12, 0), (12, 162, 12, 1), (12, 173, 12, 2), (12, 180, 12, 4), (12, 183, 12, 13), (12, 189, 12, 14), (12, 192, 12, 15), (12, 199, 12, 16), (12, 206, 12, 21), (12, 213, 12, 18), (12, 217, 12, 17), (12, 220, 12, 19), (12, 268, 12, 20), (12, 280, 12, 22), (12, 309, 12, 36), (12, 315, 12, 37), (12, 318, 12, 38), (12, 336, 12, 41), (12, 339, 12, 42), (12, 367, 12, 45), (12, 380, 12, 49), (12, 436, 12, 58), (12, 451, 12, 64), (12, 474, 12, 67), (12, 478, 12, 68), (12, 481, 12, 69), (12, 484, 12, 70), (12, 487, 12, 71)]
def zF (o i : Nat) : Option (Nat × Nat) := (zFl.find? (fun q => q.1 == o && q.2.1 == i)).map (fun q => q.2.2)
def zT : Nat → u_T := fun k => match k with
  | 0 => TX0
  | 1 => TX1
  | 2 => TX2
  | 3 => TX3
  | 4 => TX4
  | 5 => TX5
  | 6 => TX6
  | 7 => TX7
  | 8 => TX8
  | 9 => TX9
  | 10 => TX10
  | 11 => TX11
  | _ => TX12
def zTy : Nat → (Nat → FieldType) := fun k => match k with
  | 0 => tyX0
  | 1 => tyX1
  | 2 => tyX2
  | 3 => tyX3
  | 4 => tyX4
  | 5 => tyX5
  | 6 => tyX6
  | 7 => tyX7
  | 8 => tyX8
  | 9 => tyX9
  | 10 => tyX10
  | 11 => tyX11
  | _ => tyX12
def zNf : Nat → Nat := fun k => match k with
  | 0 => 11
  | 1 => 10
  | 2 => 5
  | 3 => 4
  | 4 => 4
  | 5 => 6
  | 6 => 8
  | 7 => 9
  | 8 => 6
  | 9 => 2
  | 10 => 4
  | 11 => 16
  | _ => 77
def zFw (q : Nat × Nat × Nat × Nat) : Cond := .fieldLink (zCn q.1) q.2.1 (zT q.2.2.1 q.2.2.2).1 (zT q.2.2.1 q.2.2.2).2.1 (zT q.2.2.1 q.2.2.2).2.2.1
set_option maxRecDepth 100000 in
theorem zFl_ok : ∀ q ∈ zFl, zFw q ∈ lw_tbl := z_places zFw zFl lw_tbl [462, 463, 464, 465, 466, 467, 468, 469, 470, 460, 461, 329, 326, 270, 230, 266, 276, 261, 170, 171, 172, 173, 174, 175, 176, 177, 180, 182, 205, 206, 207, 208, 204, 178, 181, 393, 394, 391, 392, 227, 367, 362, 226, 233, 235, 236, 273, 264, 361, 364, 366, 369, 370, 371, 324, 325, 328, 331, 333, 335, 322, 323, 228, 265, 253, 256, 281, 260, 277, 252, 255, 258, 259, 263, 269, 272, 279, 282, 413, 414, 415, 416, 417, 412, 274, 232, 148, 150, 275, 267, 438, 439, 440, 437, 229, 495, 149, 496, 497, 498, 499, 500, 501, 502, 503, 504, 505, 506, 507, 508, 509, 510, 280, 231, 234, 151, 330, 278, 268, 254, 257, 262, 332, 334, 336, 327, 441, 368, 363, 365, 471, 283, 271, 179, 1188, 1189, 1190, 1191, 1192, 1193, 1194, 1205, 1206, 1207, 1208, 1209, 1210, 1211, 1212, 1213, 1214, 1215, 1216, 1217, 1221, 1222, 1225, 1226, 1228, 1229, 1230, 1232, 1233, 1234, 1235, 1236, 1237, 1238, 1239, 1241, 1242, 1243, 1244, 1245, 1247, 1248, 1254, 1255, 1256, 1257, 1258, 1187, 1185, 1182, 1183, 1184, 1186, 1195, 1196, 1197, 1198, 1203, 1200, 1199, 1201, 1202, 1204, 1218, 1219, 1220, 1223, 1224, 1227, 1231, 1240, 1246, 1249, 1250, 1251, 1252, 1253] (by decide +kernel)
theorem zFl_lt : zFl.all (fun q => decide (q.2.2.2 < zNf q.2.2.1) && decide (q.2.2.1 < 13)) = true := by decide +kernel
abbrev zMl : List (Nat × Nat × Nat × Nat) := [(0, 3, 16, 0), (0, 11, 3, 60), (0, 60, 0, 11), (0, 66, 0, 61), (0, 70, 0, 65), (0, 73, 0, 5), (0, 80, 13, 0), (0, 89, 0, 66), (0, 93, 0, 3), (0, 97, 0, 59), (0, 105, 0, 62), (0, 108, 0, 86), (0, 117, 0, 4), (0, 127, 0, 52), (1, 1, 16, 0), (1, 43, 14, 0), (1, 49, 0, 14), (1, 53, 11, 0), (1, 59, 10, 0), (1, 62, 4, 15), (1, 66, 4, 16), (2, 1, 16, 0), (2, 9, 3, 6), (2, 30, 11, 0), (2, 36, 0, 7), (2, 39, 0, 20), (2, 43, 0, 31), (2, 50, 0, 30), (2, 54, 0, 32), (2, 60, 0, 25), (2, 63, 0, 21), (2, 66, 0, 10), (2, 70, 0, 22), (2, 73, 0, 29), (2, 77, 0, 9), (2, 81, 0, 23), (2, 84, 0, 24), (2, 87, 0, 8), (2, 90, 0, 26), (2, 93, 0, 27), (2, 96, 4, 33), (2, 99, 0, 28), (2, 104, 14, 0), (3, 3, 16, 0), (3, 27, 0, 36), (3, 41, 0, 37), (3, 48, 0, 45), (3, 52, 0, 39), (3, 56, 0, 41), (3, 59, 10, 0), (4, 3, 16, 0), (4, 25, 4, 251), (4, 36, 0, 41), (4, 43, 13, 0), (5, 3, 16, 0), (5, 31, 4, 251), (5, 37, 10, 0), (5, 43, 0, 45), (5, 47, 0, 49), (5, 50, 0, 50), (5, 53, 0, 48), (5, 57, 11, 0), (6, 3, 16, 0), (6, 13, 15, 0), (6, 28, 3, 6), (6, 50, 0, 54), (6, 54, 0, 12), (6, 63, 0, 13), (6, 84, 0, 65), (6, 87, 0, 57), (6, 91, 0, 58), (6, 94, 0, 59), (6, 97, 0, 66), (6, 104, 0, 52), (6, 108, 0, 53), (6, 111, 0, 42), (7, 3, 16, 0), (7, 40, 13, 0), (7, 46, 0, 62), (7, 50, 0, 64), (7, 54, 0, 67), (8, 3, 16, 0), (8, 33, 0, 73), (8, 37, 0, 74), (8, 42, 0, 76), (8, 45, 0, 77), (8, 49, 0, 79), (8, 53, 4, 251), (8, 65, 0, 67), (8, 69, 11, 0), (8, 79, 0, 75), (8, 82, 0, 78), (9, 1, 16, 0), (9, 17, 0, 84), (9, 27, 0, 66), (10, 3, 16, 0), (10, 25, 10, 0), (10, 37, 0, 41), (10, 41, 0, 92), (10, 45, 0, 91), (10, 49, 0, 93), (10, 53, 0, 94), (10, 57, 12, 0), (11, 1, 16, 0), (11, 9, 3, 81), (11, 22, 2, 17), (11, 37, 3, 40), (11, 44, 3, 60), (11, 60, 2, 51), (11, 69, 3, 43), (11, 76, 2, 34), (11, 85, 2, 71), (11, 94, 2, 88), (11, 101, 2, 0), (11, 112, 4, 128), (11, 120, 0, 63), (11, 130, 0, 82), (11, 134, 0, 83), (11, 143, 0, 19), (11, 151, 0, 18), (11, 156, 0, 87), (11, 163, 0, 84), (11, 166, 0, 130), (11, 169, 0, 66), (11, 181, 0, 132), (11, 184, 0, 131), (11, 188, 0, 55), (11, 195, 0, 61), (11, 205, 0, 133), (11, 209, 0, 135), (11, 212, 0, 46), (11, 216, 0, 136), (11, 220, 0, 38), (11, 227, 0, 67), (11, 230, 0, 42), (11, 234, 4, 129), (11, 238, 0, 72), (11, 242, 0, 80), (11, 245, 0, 134), (11, 248, 0, 89), (11, 252, 0, 90), (11, 259, 0, 44), (11, 265, 0, 47), (11, 272, 0, 56), (11, 276, 12, 0), (11, 281, 0, 68), (11, 285, 0, 86), (11, 291, 0, 2), (11, 295, 0, 1), (11, 298, 0, 65), (11, 301, 0, 57), (11, 304, 0, 137), (11, 307, 10, 0), (11, 310, 0, 138), (11, 314, 0, 53), (11, 317, 11, 0), (11, 325, 0, 85), (11, 334, 0, 69), (11, 337, 0, 70), (11, 340, 0, 52), (11, 342, 0, 35), (12, 1, 16, 0), (12, 165, 4, 145), (12, 169, 4, 140), (12, 176, 0, 147), (12, 186, 0, 152), (12, 195, 0, 154), (12, 202, 0, 156), (12, 209, 0, 155), (12, 223, 0, 161), (12, 226, 0, 159), (12, 230, 0, 160), (12, 233, 0, 158), (12, 236, 4, 162), (12, 240, 0, 165), (12, 243, 4, 163), (12, 246, 0, 164), (12, 250, 0, 166), (12, 253, 0, 167), (12, 256, 0, 168), (12, 259, 0, 171), (12, 262, 0, 169), (12, 265, 0, 170), (12, 271, 0, 172), (12, 274, 0, 173), (12, 277, 0, 157), (12, 283, 4, 175), (12, 287, 0, 176), (12, 291, 0, 146), (12, 294, 0, 178), (12, 297, 0, 177), (12, 300, 4, 143), (12, 303, 0, 179), (12, 306, 0, 180), (12, 312, 0, 181), (12, 321, 0, 183), (12, 324, 0, 182), (12, 327, 0, 184), (12, 330, 0, 185), (12, 333, 0, 186), (12, 342, 4, 189), (12, 346, 0, 144), (12, 349, 0, 151), (12, 352, 0, 188), (12, 355, 0, 187), (12, 358, 0, 196), (12, 361, 0, 190), (12, 364, 0, 191), (12, 370, 0, 200), (12, 373, 0, 201), (12, 377, 0, 203), (12, 383, 0, 204), (12, 386, 0, 205), (12, 389, 0, 207), (12, 393, 0, 210), (12, 396, 4, 214), (12, 399, 4, 141), (12, 402, 0, 211), (12, 405, 0, 215), (12, 408, 0, 213), (12, 411, 0, 212), (12, 414, 0, 217), (12, 417, 0, 216), (12, 420, 4, 142), (12, 423, 0, 220), (12, 427, 0, 223), (12, 430, 0, 224), (12, 433, 0, 225), (12, 439, 0, 228), (12, 442, 0, 229), (12, 445, 0, 227), (12, 448, 0, 230), (12, 454, 4, 234), (12, 458, 0, 232), (12, 461, 0, 233), (12, 465, 0, 235), (12, 468, 0, 237), (12, 490, 0, 245), (12, 493, 0, 247), (12, 496, 0, 248), (13, 9, 2, 95), (13, 12, 2, 139), (13, 13, 0, 96), (13, 17, 0, 148), (13, 18, 0, 97), (13, 22, 0, 149), (13, 23, 0, 98), (13, 26, 0, 150), (13, 27, 0, 99), (13, 31, 0, 153), (13, 32, 0, 100), (13, 36, 0, 174), (13, 37, 0, 101), (13, 41, 0, 192), (13, 42, 0, 102), (13, 46, 0, 193), (13, 47, 0, 103), (13, 50, 0, 194), (13, 51, 0, 104), (13, 54, 0, 195), (13, 55, 0, 105), (13, 58, 0, 198), (13, 59, 0, 106), (13, 63, 0, 197), (13, 64, 0, 107), (13, 67, 0, 199), (13, 68, 0, 108), (13, 71, 0, 202), (13, 72, 0, 109), (13, 75, 0, 206), (13, 76, 0, 110), (13, 79, 0, 208), (13, 80, 0, 111), (13, 83, 0, 209), (13, 84, 0, 112), (13, 87, 0, 218), (13, 88, 0, 113), (13, 92, 0, 219), (13, 93, 0, 114), (13, 96, 0, 221), (13, 97, 0, 115), (13, 100, 0, 222), (13, 101, 0, 116), (13, 104, 0, 226), (13, 105, 0, 117), (13, 108, 0, 231), (13, 109, 0, 118), (13, 112, 0, 236), (13, 113, 0, 119), (13, 116, 0, 238), (13, 117, 0, 120), (13, 120, 0, 239), (13, 121, 0, 121), (13, 124, 0, 240), (13, 125, 0, 122), (13, 128, 0, 241), (13, 129, 0, 123), (13, 132, 0, 242), (13, 133, 0, 124), (13, 136, 0, 243), (13, 137, 0, 125), (13, 141, 0, 244), (13, 142, 0, 126), (13, 145, 0, 246), (13, 146, 0, 127), (13, 149, 0, 249)]
def zM (o i : Nat) : Option (Nat × Nat) := (zMl.find? (fun q => q.1 == o && q.2.1 == i)).map (fun q => q.2.2)
def zMw (q : Nat × Nat × Nat × Nat) : Cond := .methodLink (zCn q.1) q.2.1 (zY q.2.2.2)
set_option maxRecDepth 100000 in
theorem zMl_link : ∀ q ∈ zMl.filter (fun q => q.2.2.1 == 0 || q.2.2.1 == 2 || q.2.2.1 == 4), zMw q ∈ lw_tbl := z_places zMw _ lw_tbl [1085, 1091, 1092, 1093, 1099, 1100, 1105, 1104, 1106, 1107, 1097, 783, 787, 790, 590, 594, 629, 598, 602, 606, 709, 733, 713, 725, 729, 717, 721, 625, 610, 614, 618, 621, 917, 921, 931, 925, 930, 840, 843, 895, 901, 1046, 1055, 1050, 775, 779, 793, 815, 819, 824, 832, 1067, 823, 828, 836, 859, 555, 1171, 956, 963, 968, 972, 976, 960, 961, 980, 984, 749, 753, 1018, 1019, 1023, 1027, 1031, 160, 305, 387, 406, 433, 453, 548, 551, 571, 575, 583, 737, 745, 757, 762, 766, 767, 807, 811, 854, 863, 883, 897, 909, 936, 867, 944, 949, 952, 993, 887, 1001, 1014, 891, 1042, 1063, 1069, 1077, 1081, 1111, 1119, 1120, 1121, 1127, 1125, 1159, 1167, 1172, 771, 913, 1418, 1421, 1424, 1440, 1452, 1456, 1473, 1495, 1481, 1468, 1477, 1485, 1464, 1488, 1491, 1499, 1460, 1511, 1507, 1515, 1519, 1503, 1448, 1523, 1562, 1558, 1554, 1550, 1569, 1539, 1546, 1565, 1601, 1609, 1593, 1597, 1605, 1589, 1629, 1531, 1535, 1581, 1585, 1617, 1625, 1632, 1644, 1648, 1664, 1660, 1656, 1672, 1701, 1705, 1708, 1692, 1696, 1711, 1715, 1684, 1688, 1731, 1727, 1750, 1746, 1742, 1770, 1766, 1758, 1762, 1786, 1778, 1782, 1789, 1797, 1831, 1839, 1843, 136, 1178, 544, 1414, 559, 1428, 563, 1432, 567, 1436, 579, 1444, 741, 1527, 758, 1542, 799, 1573, 803, 1577, 850, 1621, 871, 1613, 875, 1636, 879, 1640, 905, 1652, 932, 1668, 940, 1676, 945, 1680, 989, 1719, 997, 1723, 1006, 1734, 1010, 1738, 1038, 1754, 1059, 1774, 1073, 1793, 1115, 1801, 1131, 1805, 1137, 1809, 1142, 1814, 1147, 1819, 1151, 1823, 1155, 1827, 1163, 1835] (by decide +kernel)
def zMwN (q : Nat × Nat × Nat × Nat) : Cond := .methodLinkNest (zCn q.1) q.2.1 (zY q.2.2.2) "NineHoles"
set_option maxRecDepth 100000 in
theorem zMl_nest : ∀ q ∈ zMl.filter (fun q => q.2.2.1 == 3), zMwN q ∈ lw_tbl := z_places zMwN _ lw_tbl [458, 166, 321, 144, 222, 248, 357] (by decide +kernel)
def zIw (q : Nat × Nat × Nat × Nat) : Cond := .instanceMethod (zY q.2.2.2)
set_option maxRecDepth 100000 in
theorem zMl_inst : ∀ q ∈ zMl.filter (fun q => q.2.2.1 == 0 || q.2.2.1 == 2 || q.2.2.1 == 3), zIw q ∈ lw_tbl := z_places zIw _ lw_tbl [249, 1086, 855, 816, 1095, 754, 1102, 833, 860, 1078, 1109, 772, 785, 167, 591, 596, 631, 600, 604, 608, 711, 734, 715, 727, 730, 719, 723, 626, 612, 616, 623, 919, 923, 902, 927, 844, 844, 902, 1048, 1057, 1052, 167, 777, 780, 794, 816, 820, 826, 833, 754, 772, 829, 837, 860, 556, 868, 958, 965, 970, 974, 978, 868, 982, 986, 750, 754, 844, 1021, 1025, 1029, 1033, 145, 161, 223, 249, 306, 358, 388, 407, 434, 454, 552, 572, 576, 584, 738, 746, 750, 764, 754, 769, 809, 812, 855, 865, 885, 898, 911, 937, 868, 837, 953, 994, 889, 1002, 1015, 892, 1043, 1064, 1070, 1078, 1082, 1112, 816, 820, 1123, 1129, 829, 1160, 1168, 1173, 772, 914, 1426, 1442, 1454, 1458, 1475, 1497, 1483, 1470, 1479, 1466, 1493, 1501, 1462, 1513, 1509, 1517, 1521, 1505, 1450, 1525, 1560, 1556, 1552, 1571, 1548, 1567, 1603, 1611, 1595, 1599, 1607, 1591, 1533, 1537, 1583, 1587, 1619, 1627, 1634, 1646, 1650, 1666, 1662, 1658, 1674, 1703, 1694, 1698, 1713, 1717, 1686, 1690, 1729, 1752, 1748, 1744, 1772, 1768, 1760, 1764, 1780, 1784, 1791, 1799, 1833, 1841, 1845, 137, 1179, 545, 1415, 560, 1429, 564, 1433, 568, 1437, 580, 1445, 742, 1528, 759, 1543, 800, 1574, 804, 1578, 851, 1622, 872, 1614, 876, 1637, 880, 1641, 906, 1653, 933, 1669, 941, 1677, 946, 1681, 990, 1720, 998, 1724, 1007, 1735, 1011, 1739, 1039, 1755, 1060, 1775, 1074, 1794, 1116, 1802, 1132, 1806, 1138, 1810, 1143, 1815, 1148, 1820, 1152, 1824, 1156, 1828, 1164, 1836] (by decide +kernel)
def zSw (q : Nat × Nat × Nat × Nat) : Cond := .static (zY q.2.2.2)
set_option maxRecDepth 100000 in
theorem zMl_stat : ∀ q ∈ zMl.filter (fun q => q.2.2.1 == 4), zSw q ∈ lw_tbl := z_places zSw _ lw_tbl [788, 791, 619, 841, 841, 841, 549, 950, 1419, 1422, 1486, 1489, 1563, 1540, 1630, 1706, 1709, 1732, 1787] (by decide +kernel)
def zLw (q : Nat × Nat × Nat × Nat) : Cond := .selects (zY q.2.2.2).cls (zY q.2.2.2) (zY q.2.2.2)
set_option maxRecDepth 100000 in
theorem zMl_sel : ∀ q ∈ zMl.filter (fun q => q.2.2.1 == 0), zLw q ∈ lw_tbl := z_places zLw _ lw_tbl [1087, 856, 817, 40, 755, 41, 834, 861, 1079, 42, 773, 16, 592, 0, 7, 1, 2, 3, 8, 735, 9, 12, 731, 10, 11, 627, 4, 5, 6, 23, 24, 903, 25, 845, 845, 903, 37, 39, 38, 15, 781, 795, 817, 821, 18, 834, 755, 773, 830, 838, 861, 557, 869, 26, 27, 28, 29, 30, 869, 31, 32, 751, 755, 845, 33, 34, 35, 36, 553, 573, 577, 585, 739, 747, 751, 13, 755, 14, 17, 813, 856, 19, 20, 899, 22, 938, 869, 838, 954, 995, 21, 1003, 1016, 893, 1044, 1065, 1071, 1079, 1083, 1113, 817, 821, 43, 44, 830, 1161, 1169, 1174, 773, 915, 45, 46, 48, 49, 53, 57, 55, 52, 54, 51, 56, 58, 50, 61, 60, 62, 63, 59, 47, 64, 70, 69, 68, 72, 67, 71, 78, 80, 76, 77, 79, 75, 65, 66, 73, 74, 81, 82, 83, 84, 85, 88, 87, 86, 89, 94, 92, 93, 95, 96, 90, 91, 97, 100, 99, 98, 104, 103, 101, 102, 105, 106, 107, 108, 109, 110, 111, 546, 1416, 561, 1430, 565, 1434, 569, 1438, 581, 1446, 743, 1529, 760, 1544, 801, 1575, 805, 1579, 852, 1623, 873, 1615, 877, 1638, 881, 1642, 907, 1654, 934, 1670, 942, 1678, 947, 1682, 991, 1721, 999, 1725, 1008, 1736, 1012, 1740, 1040, 1756, 1061, 1776, 1075, 1795, 1117, 1803, 1133, 1807, 1139, 1811, 1144, 1816, 1149, 1821, 1153, 1825, 1157, 1829, 1165, 1837] (by decide +kernel)
def zJw (q : Nat × Nat × Nat × Nat) : Cond := .methodLink (zCn q.1) q.2.1 (match q.2.2.1 with | 10 => Lib.Math.max.name | 11 => Lib.Math.min.name | 12 => Lib.Math.abs.name | 13 => arraycopyName | 14 => yJ0_indexOf_0f7a4 | 15 => yJ0_length_8abf5 | _ => objectInit)
set_option maxRecDepth 100000 in
theorem zMl_jdk : ∀ q ∈ zMl.filter (fun q => q.2.2.1 == 10 || q.2.2.1 == 11 || q.2.2.1 == 12 || q.2.2.1 == 13 || q.2.2.1 == 14 || q.2.2.1 == 15 || q.2.2.1 == 16), zJw q ∈ lw_tbl := z_places zJw _ lw_tbl [456, 1098, 169, 1090, 797, 798, 163, 587, 634, 390, 929, 225, 847, 360, 896, 1054, 308, 310, 251, 858, 409, 962, 147, 436, 1005, 1035, 139, 1068, 1126, 1136, 1181] (by decide +kernel)
def zCw (m : Nat) : Cond := .code (zY m) (zB m) (zL m) (zRt m)
theorem z_code_0 : zCw 0 ∈ lw_tbl := List.mem_of_getElem? (i := 455) (by decide +kernel)
theorem z_code_1 : zCw 1 ∈ lw_tbl := List.mem_of_getElem? (i := 1114) (by decide +kernel)
theorem z_code_2 : zCw 2 ∈ lw_tbl := List.mem_of_getElem? (i := 1084) (by decide +kernel)
theorem z_code_3 : zCw 3 ∈ lw_tbl := List.mem_of_getElem? (i := 1103) (by decide +kernel)
theorem z_code_4 : zCw 4 ∈ lw_tbl := List.mem_of_getElem? (i := 1110) (by decide +kernel)
theorem z_code_5 : zCw 5 ∈ lw_tbl := List.mem_of_getElem? (i := 1096) (by decide +kernel)
theorem z_code_6 : zCw 6 ∈ lw_tbl := List.mem_of_getElem? (i := 168) (by decide +kernel)
theorem z_code_7 : zCw 7 ∈ lw_tbl := List.mem_of_getElem? (i := 593) (by decide +kernel)
theorem z_code_8 : zCw 8 ∈ lw_tbl := List.mem_of_getElem? (i := 628) (by decide +kernel)
theorem z_code_9 : zCw 9 ∈ lw_tbl := List.mem_of_getElem? (i := 732) (by decide +kernel)
theorem z_code_10 : zCw 10 ∈ lw_tbl := List.mem_of_getElem? (i := 736) (by decide +kernel)
theorem z_code_11 : zCw 11 ∈ lw_tbl := List.mem_of_getElem? (i := 1088) (by decide +kernel)
theorem z_code_12 : zCw 12 ∈ lw_tbl := List.mem_of_getElem? (i := 782) (by decide +kernel)
theorem z_code_13 : zCw 13 ∈ lw_tbl := List.mem_of_getElem? (i := 796) (by decide +kernel)
theorem z_code_14 : zCw 14 ∈ lw_tbl := List.mem_of_getElem? (i := 786) (by decide +kernel)
theorem z_code_15 : zCw 15 ∈ lw_tbl := List.mem_of_getElem? (i := 789) (by decide +kernel)
theorem z_code_16 : zCw 16 ∈ lw_tbl := List.mem_of_getElem? (i := 792) (by decide +kernel)
theorem z_code_17 : zCw 17 ∈ lw_tbl := List.mem_of_getElem? (i := 162) (by decide +kernel)
theorem z_code_18 : zCw 18 ∈ lw_tbl := List.mem_of_getElem? (i := 740) (by decide +kernel)
theorem z_code_19 : zCw 19 ∈ lw_tbl := List.mem_of_getElem? (i := 586) (by decide +kernel)
theorem z_code_20 : zCw 20 ∈ lw_tbl := List.mem_of_getElem? (i := 597) (by decide +kernel)
theorem z_code_21 : zCw 21 ∈ lw_tbl := List.mem_of_getElem? (i := 712) (by decide +kernel)
theorem z_code_22 : zCw 22 ∈ lw_tbl := List.mem_of_getElem? (i := 716) (by decide +kernel)
theorem z_code_23 : zCw 23 ∈ lw_tbl := List.mem_of_getElem? (i := 720) (by decide +kernel)
theorem z_code_24 : zCw 24 ∈ lw_tbl := List.mem_of_getElem? (i := 724) (by decide +kernel)
theorem z_code_25 : zCw 25 ∈ lw_tbl := List.mem_of_getElem? (i := 609) (by decide +kernel)
theorem z_code_26 : zCw 26 ∈ lw_tbl := List.mem_of_getElem? (i := 613) (by decide +kernel)
theorem z_code_27 : zCw 27 ∈ lw_tbl := List.mem_of_getElem? (i := 617) (by decide +kernel)
theorem z_code_28 : zCw 28 ∈ lw_tbl := List.mem_of_getElem? (i := 624) (by decide +kernel)
theorem z_code_29 : zCw 29 ∈ lw_tbl := List.mem_of_getElem? (i := 728) (by decide +kernel)
theorem z_code_30 : zCw 30 ∈ lw_tbl := List.mem_of_getElem? (i := 601) (by decide +kernel)
theorem z_code_31 : zCw 31 ∈ lw_tbl := List.mem_of_getElem? (i := 632) (by decide +kernel)
theorem z_code_32 : zCw 32 ∈ lw_tbl := List.mem_of_getElem? (i := 605) (by decide +kernel)
theorem z_code_33 : zCw 33 ∈ lw_tbl := List.mem_of_getElem? (i := 620) (by decide +kernel)
theorem z_code_34 : zCw 34 ∈ lw_tbl := List.mem_of_getElem? (i := 389) (by decide +kernel)
theorem z_code_35 : zCw 35 ∈ lw_tbl := List.mem_of_getElem? (i := 916) (by decide +kernel)
theorem z_code_36 : zCw 36 ∈ lw_tbl := List.mem_of_getElem? (i := 920) (by decide +kernel)
theorem z_code_37 : zCw 37 ∈ lw_tbl := List.mem_of_getElem? (i := 924) (by decide +kernel)
theorem z_code_38 : zCw 38 ∈ lw_tbl := List.mem_of_getElem? (i := 939) (by decide +kernel)
theorem z_code_39 : zCw 39 ∈ lw_tbl := List.mem_of_getElem? (i := 928) (by decide +kernel)
theorem z_code_40 : zCw 40 ∈ lw_tbl := List.mem_of_getElem? (i := 224) (by decide +kernel)
theorem z_code_41 : zCw 41 ∈ lw_tbl := List.mem_of_getElem? (i := 846) (by decide +kernel)
theorem z_code_42 : zCw 42 ∈ lw_tbl := List.mem_of_getElem? (i := 839) (by decide +kernel)
theorem z_code_43 : zCw 43 ∈ lw_tbl := List.mem_of_getElem? (i := 359) (by decide +kernel)
theorem z_code_44 : zCw 44 ∈ lw_tbl := List.mem_of_getElem? (i := 894) (by decide +kernel)
theorem z_code_45 : zCw 45 ∈ lw_tbl := List.mem_of_getElem? (i := 904) (by decide +kernel)
theorem z_code_46 : zCw 46 ∈ lw_tbl := List.mem_of_getElem? (i := 900) (by decide +kernel)
theorem z_code_47 : zCw 47 ∈ lw_tbl := List.mem_of_getElem? (i := 1045) (by decide +kernel)
theorem z_code_48 : zCw 48 ∈ lw_tbl := List.mem_of_getElem? (i := 1053) (by decide +kernel)
theorem z_code_49 : zCw 49 ∈ lw_tbl := List.mem_of_getElem? (i := 1049) (by decide +kernel)
theorem z_code_50 : zCw 50 ∈ lw_tbl := List.mem_of_getElem? (i := 1058) (by decide +kernel)
theorem z_code_51 : zCw 51 ∈ lw_tbl := List.mem_of_getElem? (i := 307) (by decide +kernel)
theorem z_code_52 : zCw 52 ∈ lw_tbl := List.mem_of_getElem? (i := 774) (by decide +kernel)
theorem z_code_53 : zCw 53 ∈ lw_tbl := List.mem_of_getElem? (i := 831) (by decide +kernel)
theorem z_code_54 : zCw 54 ∈ lw_tbl := List.mem_of_getElem? (i := 778) (by decide +kernel)
theorem z_code_55 : zCw 55 ∈ lw_tbl := List.mem_of_getElem? (i := 814) (by decide +kernel)
theorem z_code_56 : zCw 56 ∈ lw_tbl := List.mem_of_getElem? (i := 1066) (by decide +kernel)
theorem z_code_57 : zCw 57 ∈ lw_tbl := List.mem_of_getElem? (i := 822) (by decide +kernel)
theorem z_code_58 : zCw 58 ∈ lw_tbl := List.mem_of_getElem? (i := 827) (by decide +kernel)
theorem z_code_59 : zCw 59 ∈ lw_tbl := List.mem_of_getElem? (i := 835) (by decide +kernel)
theorem z_code_60 : zCw 60 ∈ lw_tbl := List.mem_of_getElem? (i := 250) (by decide +kernel)
theorem z_code_61 : zCw 61 ∈ lw_tbl := List.mem_of_getElem? (i := 857) (by decide +kernel)
theorem z_code_62 : zCw 62 ∈ lw_tbl := List.mem_of_getElem? (i := 862) (by decide +kernel)
theorem z_code_63 : zCw 63 ∈ lw_tbl := List.mem_of_getElem? (i := 554) (by decide +kernel)
theorem z_code_64 : zCw 64 ∈ lw_tbl := List.mem_of_getElem? (i := 558) (by decide +kernel)
theorem z_code_65 : zCw 65 ∈ lw_tbl := List.mem_of_getElem? (i := 818) (by decide +kernel)
theorem z_code_66 : zCw 66 ∈ lw_tbl := List.mem_of_getElem? (i := 756) (by decide +kernel)
theorem z_code_67 : zCw 67 ∈ lw_tbl := List.mem_of_getElem? (i := 870) (by decide +kernel)
theorem z_code_68 : zCw 68 ∈ lw_tbl := List.mem_of_getElem? (i := 1072) (by decide +kernel)
theorem z_code_69 : zCw 69 ∈ lw_tbl := List.mem_of_getElem? (i := 1170) (by decide +kernel)
theorem z_code_70 : zCw 70 ∈ lw_tbl := List.mem_of_getElem? (i := 1175) (by decide +kernel)
theorem z_code_71 : zCw 71 ∈ lw_tbl := List.mem_of_getElem? (i := 408) (by decide +kernel)
theorem z_code_72 : zCw 72 ∈ lw_tbl := List.mem_of_getElem? (i := 955) (by decide +kernel)
theorem z_code_73 : zCw 73 ∈ lw_tbl := List.mem_of_getElem? (i := 959) (by decide +kernel)
theorem z_code_74 : zCw 74 ∈ lw_tbl := List.mem_of_getElem? (i := 966) (by decide +kernel)
theorem z_code_75 : zCw 75 ∈ lw_tbl := List.mem_of_getElem? (i := 983) (by decide +kernel)
theorem z_code_76 : zCw 76 ∈ lw_tbl := List.mem_of_getElem? (i := 971) (by decide +kernel)
theorem z_code_77 : zCw 77 ∈ lw_tbl := List.mem_of_getElem? (i := 975) (by decide +kernel)
theorem z_code_78 : zCw 78 ∈ lw_tbl := List.mem_of_getElem? (i := 987) (by decide +kernel)
theorem z_code_79 : zCw 79 ∈ lw_tbl := List.mem_of_getElem? (i := 979) (by decide +kernel)
theorem z_code_80 : zCw 80 ∈ lw_tbl := List.mem_of_getElem? (i := 996) (by decide +kernel)
theorem z_code_81 : zCw 81 ∈ lw_tbl := List.mem_of_getElem? (i := 146) (by decide +kernel)
theorem z_code_82 : zCw 82 ∈ lw_tbl := List.mem_of_getElem? (i := 574) (by decide +kernel)
theorem z_code_83 : zCw 83 ∈ lw_tbl := List.mem_of_getElem? (i := 578) (by decide +kernel)
theorem z_code_84 : zCw 84 ∈ lw_tbl := List.mem_of_getElem? (i := 752) (by decide +kernel)
theorem z_code_85 : zCw 85 ∈ lw_tbl := List.mem_of_getElem? (i := 1162) (by decide +kernel)
theorem z_code_86 : zCw 86 ∈ lw_tbl := List.mem_of_getElem? (i := 1080) (by decide +kernel)
theorem z_code_87 : zCw 87 ∈ lw_tbl := List.mem_of_getElem? (i := 748) (by decide +kernel)
theorem z_code_88 : zCw 88 ∈ lw_tbl := List.mem_of_getElem? (i := 435) (by decide +kernel)
theorem z_code_89 : zCw 89 ∈ lw_tbl := List.mem_of_getElem? (i := 1004) (by decide +kernel)
theorem z_code_90 : zCw 90 ∈ lw_tbl := List.mem_of_getElem? (i := 1017) (by decide +kernel)
theorem z_code_91 : zCw 91 ∈ lw_tbl := List.mem_of_getElem? (i := 1026) (by decide +kernel)
theorem z_code_92 : zCw 92 ∈ lw_tbl := List.mem_of_getElem? (i := 1022) (by decide +kernel)
theorem z_code_93 : zCw 93 ∈ lw_tbl := List.mem_of_getElem? (i := 1030) (by decide +kernel)
theorem z_code_94 : zCw 94 ∈ lw_tbl := List.mem_of_getElem? (i := 1034) (by decide +kernel)
theorem z_code_95 : zCw 95 ∈ lw_tbl := List.mem_of_getElem? (i := 138) (by decide +kernel)
theorem z_code_96 : zCw 96 ∈ lw_tbl := List.mem_of_getElem? (i := 547) (by decide +kernel)
theorem z_code_97 : zCw 97 ∈ lw_tbl := List.mem_of_getElem? (i := 562) (by decide +kernel)
theorem z_code_98 : zCw 98 ∈ lw_tbl := List.mem_of_getElem? (i := 566) (by decide +kernel)
theorem z_code_99 : zCw 99 ∈ lw_tbl := List.mem_of_getElem? (i := 570) (by decide +kernel)
theorem z_code_100 : zCw 100 ∈ lw_tbl := List.mem_of_getElem? (i := 582) (by decide +kernel)
theorem z_code_101 : zCw 101 ∈ lw_tbl := List.mem_of_getElem? (i := 744) (by decide +kernel)
theorem z_code_102 : zCw 102 ∈ lw_tbl := List.mem_of_getElem? (i := 761) (by decide +kernel)
theorem z_code_103 : zCw 103 ∈ lw_tbl := List.mem_of_getElem? (i := 802) (by decide +kernel)
theorem z_code_104 : zCw 104 ∈ lw_tbl := List.mem_of_getElem? (i := 806) (by decide +kernel)
theorem z_code_105 : zCw 105 ∈ lw_tbl := List.mem_of_getElem? (i := 853) (by decide +kernel)
theorem z_code_106 : zCw 106 ∈ lw_tbl := List.mem_of_getElem? (i := 874) (by decide +kernel)
theorem z_code_107 : zCw 107 ∈ lw_tbl := List.mem_of_getElem? (i := 878) (by decide +kernel)
theorem z_code_108 : zCw 108 ∈ lw_tbl := List.mem_of_getElem? (i := 882) (by decide +kernel)
theorem z_code_109 : zCw 109 ∈ lw_tbl := List.mem_of_getElem? (i := 908) (by decide +kernel)
theorem z_code_110 : zCw 110 ∈ lw_tbl := List.mem_of_getElem? (i := 935) (by decide +kernel)
theorem z_code_111 : zCw 111 ∈ lw_tbl := List.mem_of_getElem? (i := 943) (by decide +kernel)
theorem z_code_112 : zCw 112 ∈ lw_tbl := List.mem_of_getElem? (i := 948) (by decide +kernel)
theorem z_code_113 : zCw 113 ∈ lw_tbl := List.mem_of_getElem? (i := 992) (by decide +kernel)
theorem z_code_114 : zCw 114 ∈ lw_tbl := List.mem_of_getElem? (i := 1000) (by decide +kernel)
theorem z_code_115 : zCw 115 ∈ lw_tbl := List.mem_of_getElem? (i := 1009) (by decide +kernel)
theorem z_code_116 : zCw 116 ∈ lw_tbl := List.mem_of_getElem? (i := 1013) (by decide +kernel)
theorem z_code_117 : zCw 117 ∈ lw_tbl := List.mem_of_getElem? (i := 1041) (by decide +kernel)
theorem z_code_118 : zCw 118 ∈ lw_tbl := List.mem_of_getElem? (i := 1062) (by decide +kernel)
theorem z_code_119 : zCw 119 ∈ lw_tbl := List.mem_of_getElem? (i := 1076) (by decide +kernel)
theorem z_code_120 : zCw 120 ∈ lw_tbl := List.mem_of_getElem? (i := 1118) (by decide +kernel)
theorem z_code_121 : zCw 121 ∈ lw_tbl := List.mem_of_getElem? (i := 1134) (by decide +kernel)
theorem z_code_122 : zCw 122 ∈ lw_tbl := List.mem_of_getElem? (i := 1140) (by decide +kernel)
theorem z_code_123 : zCw 123 ∈ lw_tbl := List.mem_of_getElem? (i := 1145) (by decide +kernel)
theorem z_code_124 : zCw 124 ∈ lw_tbl := List.mem_of_getElem? (i := 1150) (by decide +kernel)
theorem z_code_125 : zCw 125 ∈ lw_tbl := List.mem_of_getElem? (i := 1154) (by decide +kernel)
theorem z_code_126 : zCw 126 ∈ lw_tbl := List.mem_of_getElem? (i := 1158) (by decide +kernel)
theorem z_code_127 : zCw 127 ∈ lw_tbl := List.mem_of_getElem? (i := 1166) (by decide +kernel)
theorem z_code_128 : zCw 128 ∈ lw_tbl := List.mem_of_getElem? (i := 550) (by decide +kernel)
theorem z_code_129 : zCw 129 ∈ lw_tbl := List.mem_of_getElem? (i := 951) (by decide +kernel)
theorem z_code_130 : zCw 130 ∈ lw_tbl := List.mem_of_getElem? (i := 765) (by decide +kernel)
theorem z_code_131 : zCw 131 ∈ lw_tbl := List.mem_of_getElem? (i := 810) (by decide +kernel)
theorem z_code_132 : zCw 132 ∈ lw_tbl := List.mem_of_getElem? (i := 770) (by decide +kernel)
theorem z_code_133 : zCw 133 ∈ lw_tbl := List.mem_of_getElem? (i := 866) (by decide +kernel)
theorem z_code_134 : zCw 134 ∈ lw_tbl := List.mem_of_getElem? (i := 890) (by decide +kernel)
theorem z_code_135 : zCw 135 ∈ lw_tbl := List.mem_of_getElem? (i := 886) (by decide +kernel)
theorem z_code_136 : zCw 136 ∈ lw_tbl := List.mem_of_getElem? (i := 912) (by decide +kernel)
theorem z_code_137 : zCw 137 ∈ lw_tbl := List.mem_of_getElem? (i := 1124) (by decide +kernel)
theorem z_code_138 : zCw 138 ∈ lw_tbl := List.mem_of_getElem? (i := 1130) (by decide +kernel)
theorem z_code_139 : zCw 139 ∈ lw_tbl := List.mem_of_getElem? (i := 1180) (by decide +kernel)
theorem z_code_140 : zCw 140 ∈ lw_tbl := List.mem_of_getElem? (i := 1423) (by decide +kernel)
theorem z_code_141 : zCw 141 ∈ lw_tbl := List.mem_of_getElem? (i := 1710) (by decide +kernel)
theorem z_code_142 : zCw 142 ∈ lw_tbl := List.mem_of_getElem? (i := 1733) (by decide +kernel)
theorem z_code_143 : zCw 143 ∈ lw_tbl := List.mem_of_getElem? (i := 1541) (by decide +kernel)
theorem z_code_144 : zCw 144 ∈ lw_tbl := List.mem_of_getElem? (i := 1534) (by decide +kernel)
theorem z_code_145 : zCw 145 ∈ lw_tbl := List.mem_of_getElem? (i := 1420) (by decide +kernel)
theorem z_code_146 : zCw 146 ∈ lw_tbl := List.mem_of_getElem? (i := 1557) (by decide +kernel)
theorem z_code_147 : zCw 147 ∈ lw_tbl := List.mem_of_getElem? (i := 1427) (by decide +kernel)
theorem z_code_148 : zCw 148 ∈ lw_tbl := List.mem_of_getElem? (i := 1417) (by decide +kernel)
theorem z_code_149 : zCw 149 ∈ lw_tbl := List.mem_of_getElem? (i := 1431) (by decide +kernel)
theorem z_code_150 : zCw 150 ∈ lw_tbl := List.mem_of_getElem? (i := 1435) (by decide +kernel)
theorem z_code_151 : zCw 151 ∈ lw_tbl := List.mem_of_getElem? (i := 1538) (by decide +kernel)
theorem z_code_152 : zCw 152 ∈ lw_tbl := List.mem_of_getElem? (i := 1443) (by decide +kernel)
theorem z_code_153 : zCw 153 ∈ lw_tbl := List.mem_of_getElem? (i := 1439) (by decide +kernel)
theorem z_code_154 : zCw 154 ∈ lw_tbl := List.mem_of_getElem? (i := 1455) (by decide +kernel)
theorem z_code_155 : zCw 155 ∈ lw_tbl := List.mem_of_getElem? (i := 1476) (by decide +kernel)
theorem z_code_156 : zCw 156 ∈ lw_tbl := List.mem_of_getElem? (i := 1459) (by decide +kernel)
theorem z_code_157 : zCw 157 ∈ lw_tbl := List.mem_of_getElem? (i := 1526) (by decide +kernel)
theorem z_code_158 : zCw 158 ∈ lw_tbl := List.mem_of_getElem? (i := 1480) (by decide +kernel)
theorem z_code_159 : zCw 159 ∈ lw_tbl := List.mem_of_getElem? (i := 1484) (by decide +kernel)
theorem z_code_160 : zCw 160 ∈ lw_tbl := List.mem_of_getElem? (i := 1471) (by decide +kernel)
theorem z_code_161 : zCw 161 ∈ lw_tbl := List.mem_of_getElem? (i := 1498) (by decide +kernel)
theorem z_code_162 : zCw 162 ∈ lw_tbl := List.mem_of_getElem? (i := 1487) (by decide +kernel)
theorem z_code_163 : zCw 163 ∈ lw_tbl := List.mem_of_getElem? (i := 1490) (by decide +kernel)
theorem z_code_164 : zCw 164 ∈ lw_tbl := List.mem_of_getElem? (i := 1494) (by decide +kernel)
theorem z_code_165 : zCw 165 ∈ lw_tbl := List.mem_of_getElem? (i := 1467) (by decide +kernel)
theorem z_code_166 : zCw 166 ∈ lw_tbl := List.mem_of_getElem? (i := 1502) (by decide +kernel)
theorem z_code_167 : zCw 167 ∈ lw_tbl := List.mem_of_getElem? (i := 1463) (by decide +kernel)
theorem z_code_168 : zCw 168 ∈ lw_tbl := List.mem_of_getElem? (i := 1514) (by decide +kernel)
theorem z_code_169 : zCw 169 ∈ lw_tbl := List.mem_of_getElem? (i := 1518) (by decide +kernel)
theorem z_code_170 : zCw 170 ∈ lw_tbl := List.mem_of_getElem? (i := 1522) (by decide +kernel)
theorem z_code_171 : zCw 171 ∈ lw_tbl := List.mem_of_getElem? (i := 1510) (by decide +kernel)
theorem z_code_172 : zCw 172 ∈ lw_tbl := List.mem_of_getElem? (i := 1506) (by decide +kernel)
theorem z_code_173 : zCw 173 ∈ lw_tbl := List.mem_of_getElem? (i := 1451) (by decide +kernel)
theorem z_code_174 : zCw 174 ∈ lw_tbl := List.mem_of_getElem? (i := 1447) (by decide +kernel)
theorem z_code_175 : zCw 175 ∈ lw_tbl := List.mem_of_getElem? (i := 1564) (by decide +kernel)
theorem z_code_176 : zCw 176 ∈ lw_tbl := List.mem_of_getElem? (i := 1561) (by decide +kernel)
theorem z_code_177 : zCw 177 ∈ lw_tbl := List.mem_of_getElem? (i := 1572) (by decide +kernel)
theorem z_code_178 : zCw 178 ∈ lw_tbl := List.mem_of_getElem? (i := 1553) (by decide +kernel)
theorem z_code_179 : zCw 179 ∈ lw_tbl := List.mem_of_getElem? (i := 1549) (by decide +kernel)
theorem z_code_180 : zCw 180 ∈ lw_tbl := List.mem_of_getElem? (i := 1568) (by decide +kernel)
theorem z_code_181 : zCw 181 ∈ lw_tbl := List.mem_of_getElem? (i := 1604) (by decide +kernel)
theorem z_code_182 : zCw 182 ∈ lw_tbl := List.mem_of_getElem? (i := 1596) (by decide +kernel)
theorem z_code_183 : zCw 183 ∈ lw_tbl := List.mem_of_getElem? (i := 1612) (by decide +kernel)
theorem z_code_184 : zCw 184 ∈ lw_tbl := List.mem_of_getElem? (i := 1600) (by decide +kernel)
theorem z_code_185 : zCw 185 ∈ lw_tbl := List.mem_of_getElem? (i := 1608) (by decide +kernel)
theorem z_code_186 : zCw 186 ∈ lw_tbl := List.mem_of_getElem? (i := 1592) (by decide +kernel)
theorem z_code_187 : zCw 187 ∈ lw_tbl := List.mem_of_getElem? (i := 1588) (by decide +kernel)
theorem z_code_188 : zCw 188 ∈ lw_tbl := List.mem_of_getElem? (i := 1584) (by decide +kernel)
theorem z_code_189 : zCw 189 ∈ lw_tbl := List.mem_of_getElem? (i := 1631) (by decide +kernel)
theorem z_code_190 : zCw 190 ∈ lw_tbl := List.mem_of_getElem? (i := 1628) (by decide +kernel)
theorem z_code_191 : zCw 191 ∈ lw_tbl := List.mem_of_getElem? (i := 1635) (by decide +kernel)
theorem z_code_192 : zCw 192 ∈ lw_tbl := List.mem_of_getElem? (i := 1530) (by decide +kernel)
theorem z_code_193 : zCw 193 ∈ lw_tbl := List.mem_of_getElem? (i := 1545) (by decide +kernel)
theorem z_code_194 : zCw 194 ∈ lw_tbl := List.mem_of_getElem? (i := 1576) (by decide +kernel)
theorem z_code_195 : zCw 195 ∈ lw_tbl := List.mem_of_getElem? (i := 1580) (by decide +kernel)
theorem z_code_196 : zCw 196 ∈ lw_tbl := List.mem_of_getElem? (i := 1620) (by decide +kernel)
theorem z_code_197 : zCw 197 ∈ lw_tbl := List.mem_of_getElem? (i := 1616) (by decide +kernel)
theorem z_code_198 : zCw 198 ∈ lw_tbl := List.mem_of_getElem? (i := 1624) (by decide +kernel)
theorem z_code_199 : zCw 199 ∈ lw_tbl := List.mem_of_getElem? (i := 1639) (by decide +kernel)
theorem z_code_200 : zCw 200 ∈ lw_tbl := List.mem_of_getElem? (i := 1647) (by decide +kernel)
theorem z_code_201 : zCw 201 ∈ lw_tbl := List.mem_of_getElem? (i := 1651) (by decide +kernel)
theorem z_code_202 : zCw 202 ∈ lw_tbl := List.mem_of_getElem? (i := 1643) (by decide +kernel)
theorem z_code_203 : zCw 203 ∈ lw_tbl := List.mem_of_getElem? (i := 1667) (by decide +kernel)
theorem z_code_204 : zCw 204 ∈ lw_tbl := List.mem_of_getElem? (i := 1663) (by decide +kernel)
theorem z_code_205 : zCw 205 ∈ lw_tbl := List.mem_of_getElem? (i := 1659) (by decide +kernel)
theorem z_code_206 : zCw 206 ∈ lw_tbl := List.mem_of_getElem? (i := 1655) (by decide +kernel)
theorem z_code_207 : zCw 207 ∈ lw_tbl := List.mem_of_getElem? (i := 1675) (by decide +kernel)
theorem z_code_208 : zCw 208 ∈ lw_tbl := List.mem_of_getElem? (i := 1671) (by decide +kernel)
theorem z_code_209 : zCw 209 ∈ lw_tbl := List.mem_of_getElem? (i := 1679) (by decide +kernel)
theorem z_code_210 : zCw 210 ∈ lw_tbl := List.mem_of_getElem? (i := 1704) (by decide +kernel)
theorem z_code_211 : zCw 211 ∈ lw_tbl := List.mem_of_getElem? (i := 1695) (by decide +kernel)
theorem z_code_212 : zCw 212 ∈ lw_tbl := List.mem_of_getElem? (i := 1718) (by decide +kernel)
theorem z_code_213 : zCw 213 ∈ lw_tbl := List.mem_of_getElem? (i := 1714) (by decide +kernel)
theorem z_code_214 : zCw 214 ∈ lw_tbl := List.mem_of_getElem? (i := 1707) (by decide +kernel)
theorem z_code_215 : zCw 215 ∈ lw_tbl := List.mem_of_getElem? (i := 1699) (by decide +kernel)
theorem z_code_216 : zCw 216 ∈ lw_tbl := List.mem_of_getElem? (i := 1691) (by decide +kernel)
theorem z_code_217 : zCw 217 ∈ lw_tbl := List.mem_of_getElem? (i := 1687) (by decide +kernel)
theorem z_code_218 : zCw 218 ∈ lw_tbl := List.mem_of_getElem? (i := 1683) (by decide +kernel)
theorem z_code_219 : zCw 219 ∈ lw_tbl := List.mem_of_getElem? (i := 1722) (by decide +kernel)
theorem z_code_220 : zCw 220 ∈ lw_tbl := List.mem_of_getElem? (i := 1730) (by decide +kernel)
theorem z_code_221 : zCw 221 ∈ lw_tbl := List.mem_of_getElem? (i := 1726) (by decide +kernel)
theorem z_code_222 : zCw 222 ∈ lw_tbl := List.mem_of_getElem? (i := 1737) (by decide +kernel)
theorem z_code_223 : zCw 223 ∈ lw_tbl := List.mem_of_getElem? (i := 1753) (by decide +kernel)
theorem z_code_224 : zCw 224 ∈ lw_tbl := List.mem_of_getElem? (i := 1749) (by decide +kernel)
theorem z_code_225 : zCw 225 ∈ lw_tbl := List.mem_of_getElem? (i := 1745) (by decide +kernel)
theorem z_code_226 : zCw 226 ∈ lw_tbl := List.mem_of_getElem? (i := 1741) (by decide +kernel)
theorem z_code_227 : zCw 227 ∈ lw_tbl := List.mem_of_getElem? (i := 1761) (by decide +kernel)
theorem z_code_228 : zCw 228 ∈ lw_tbl := List.mem_of_getElem? (i := 1773) (by decide +kernel)
theorem z_code_229 : zCw 229 ∈ lw_tbl := List.mem_of_getElem? (i := 1769) (by decide +kernel)
theorem z_code_230 : zCw 230 ∈ lw_tbl := List.mem_of_getElem? (i := 1765) (by decide +kernel)
theorem z_code_231 : zCw 231 ∈ lw_tbl := List.mem_of_getElem? (i := 1757) (by decide +kernel)
theorem z_code_232 : zCw 232 ∈ lw_tbl := List.mem_of_getElem? (i := 1781) (by decide +kernel)
theorem z_code_233 : zCw 233 ∈ lw_tbl := List.mem_of_getElem? (i := 1785) (by decide +kernel)
theorem z_code_234 : zCw 234 ∈ lw_tbl := List.mem_of_getElem? (i := 1788) (by decide +kernel)
theorem z_code_235 : zCw 235 ∈ lw_tbl := List.mem_of_getElem? (i := 1792) (by decide +kernel)
theorem z_code_236 : zCw 236 ∈ lw_tbl := List.mem_of_getElem? (i := 1777) (by decide +kernel)
theorem z_code_237 : zCw 237 ∈ lw_tbl := List.mem_of_getElem? (i := 1800) (by decide +kernel)
theorem z_code_238 : zCw 238 ∈ lw_tbl := List.mem_of_getElem? (i := 1796) (by decide +kernel)
theorem z_code_239 : zCw 239 ∈ lw_tbl := List.mem_of_getElem? (i := 1804) (by decide +kernel)
theorem z_code_240 : zCw 240 ∈ lw_tbl := List.mem_of_getElem? (i := 1808) (by decide +kernel)
theorem z_code_241 : zCw 241 ∈ lw_tbl := List.mem_of_getElem? (i := 1812) (by decide +kernel)
theorem z_code_242 : zCw 242 ∈ lw_tbl := List.mem_of_getElem? (i := 1817) (by decide +kernel)
theorem z_code_243 : zCw 243 ∈ lw_tbl := List.mem_of_getElem? (i := 1822) (by decide +kernel)
theorem z_code_244 : zCw 244 ∈ lw_tbl := List.mem_of_getElem? (i := 1826) (by decide +kernel)
theorem z_code_245 : zCw 245 ∈ lw_tbl := List.mem_of_getElem? (i := 1834) (by decide +kernel)
theorem z_code_246 : zCw 246 ∈ lw_tbl := List.mem_of_getElem? (i := 1830) (by decide +kernel)
theorem z_code_247 : zCw 247 ∈ lw_tbl := List.mem_of_getElem? (i := 1842) (by decide +kernel)
theorem z_code_248 : zCw 248 ∈ lw_tbl := List.mem_of_getElem? (i := 1846) (by decide +kernel)
theorem z_code_249 : zCw 249 ∈ lw_tbl := List.mem_of_getElem? (i := 1838) (by decide +kernel)
theorem z_code_251 : zCw 251 ∈ lw_tbl := List.mem_of_getElem? (i := 842) (by decide +kernel)
theorem z_code {m : Nat} (h : m < zNm) (hl : m ≠ zNl) : zCw m ∈ lw_tbl := by
  match m, h, hl with
  | 0, _, h2 => exact z_code_0
  | 1, _, h2 => exact z_code_1
  | 2, _, h2 => exact z_code_2
  | 3, _, h2 => exact z_code_3
  | 4, _, h2 => exact z_code_4
  | 5, _, h2 => exact z_code_5
  | 6, _, h2 => exact z_code_6
  | 7, _, h2 => exact z_code_7
  | 8, _, h2 => exact z_code_8
  | 9, _, h2 => exact z_code_9
  | 10, _, h2 => exact z_code_10
  | 11, _, h2 => exact z_code_11
  | 12, _, h2 => exact z_code_12
  | 13, _, h2 => exact z_code_13
  | 14, _, h2 => exact z_code_14
  | 15, _, h2 => exact z_code_15
  | 16, _, h2 => exact z_code_16
  | 17, _, h2 => exact z_code_17
  | 18, _, h2 => exact z_code_18
  | 19, _, h2 => exact z_code_19
  | 20, _, h2 => exact z_code_20
  | 21, _, h2 => exact z_code_21
  | 22, _, h2 => exact z_code_22
  | 23, _, h2 => exact z_code_23
  | 24, _, h2 => exact z_code_24
  | 25, _, h2 => exact z_code_25
  | 26, _, h2 => exact z_code_26
  | 27, _, h2 => exact z_code_27
  | 28, _, h2 => exact z_code_28
  | 29, _, h2 => exact z_code_29
  | 30, _, h2 => exact z_code_30
  | 31, _, h2 => exact z_code_31
  | 32, _, h2 => exact z_code_32
  | 33, _, h2 => exact z_code_33
  | 34, _, h2 => exact z_code_34
  | 35, _, h2 => exact z_code_35
  | 36, _, h2 => exact z_code_36
  | 37, _, h2 => exact z_code_37
  | 38, _, h2 => exact z_code_38
  | 39, _, h2 => exact z_code_39
  | 40, _, h2 => exact z_code_40
  | 41, _, h2 => exact z_code_41
  | 42, _, h2 => exact z_code_42
  | 43, _, h2 => exact z_code_43
  | 44, _, h2 => exact z_code_44
  | 45, _, h2 => exact z_code_45
  | 46, _, h2 => exact z_code_46
  | 47, _, h2 => exact z_code_47
  | 48, _, h2 => exact z_code_48
  | 49, _, h2 => exact z_code_49
  | 50, _, h2 => exact z_code_50
  | 51, _, h2 => exact z_code_51
  | 52, _, h2 => exact z_code_52
  | 53, _, h2 => exact z_code_53
  | 54, _, h2 => exact z_code_54
  | 55, _, h2 => exact z_code_55
  | 56, _, h2 => exact z_code_56
  | 57, _, h2 => exact z_code_57
  | 58, _, h2 => exact z_code_58
  | 59, _, h2 => exact z_code_59
  | 60, _, h2 => exact z_code_60
  | 61, _, h2 => exact z_code_61
  | 62, _, h2 => exact z_code_62
  | 63, _, h2 => exact z_code_63
  | 64, _, h2 => exact z_code_64
  | 65, _, h2 => exact z_code_65
  | 66, _, h2 => exact z_code_66
  | 67, _, h2 => exact z_code_67
  | 68, _, h2 => exact z_code_68
  | 69, _, h2 => exact z_code_69
  | 70, _, h2 => exact z_code_70
  | 71, _, h2 => exact z_code_71
  | 72, _, h2 => exact z_code_72
  | 73, _, h2 => exact z_code_73
  | 74, _, h2 => exact z_code_74
  | 75, _, h2 => exact z_code_75
  | 76, _, h2 => exact z_code_76
  | 77, _, h2 => exact z_code_77
  | 78, _, h2 => exact z_code_78
  | 79, _, h2 => exact z_code_79
  | 80, _, h2 => exact z_code_80
  | 81, _, h2 => exact z_code_81
  | 82, _, h2 => exact z_code_82
  | 83, _, h2 => exact z_code_83
  | 84, _, h2 => exact z_code_84
  | 85, _, h2 => exact z_code_85
  | 86, _, h2 => exact z_code_86
  | 87, _, h2 => exact z_code_87
  | 88, _, h2 => exact z_code_88
  | 89, _, h2 => exact z_code_89
  | 90, _, h2 => exact z_code_90
  | 91, _, h2 => exact z_code_91
  | 92, _, h2 => exact z_code_92
  | 93, _, h2 => exact z_code_93
  | 94, _, h2 => exact z_code_94
  | 95, _, h2 => exact z_code_95
  | 96, _, h2 => exact z_code_96
  | 97, _, h2 => exact z_code_97
  | 98, _, h2 => exact z_code_98
  | 99, _, h2 => exact z_code_99
  | 100, _, h2 => exact z_code_100
  | 101, _, h2 => exact z_code_101
  | 102, _, h2 => exact z_code_102
  | 103, _, h2 => exact z_code_103
  | 104, _, h2 => exact z_code_104
  | 105, _, h2 => exact z_code_105
  | 106, _, h2 => exact z_code_106
  | 107, _, h2 => exact z_code_107
  | 108, _, h2 => exact z_code_108
  | 109, _, h2 => exact z_code_109
  | 110, _, h2 => exact z_code_110
  | 111, _, h2 => exact z_code_111
  | 112, _, h2 => exact z_code_112
  | 113, _, h2 => exact z_code_113
  | 114, _, h2 => exact z_code_114
  | 115, _, h2 => exact z_code_115
  | 116, _, h2 => exact z_code_116
  | 117, _, h2 => exact z_code_117
  | 118, _, h2 => exact z_code_118
  | 119, _, h2 => exact z_code_119
  | 120, _, h2 => exact z_code_120
  | 121, _, h2 => exact z_code_121
  | 122, _, h2 => exact z_code_122
  | 123, _, h2 => exact z_code_123
  | 124, _, h2 => exact z_code_124
  | 125, _, h2 => exact z_code_125
  | 126, _, h2 => exact z_code_126
  | 127, _, h2 => exact z_code_127
  | 128, _, h2 => exact z_code_128
  | 129, _, h2 => exact z_code_129
  | 130, _, h2 => exact z_code_130
  | 131, _, h2 => exact z_code_131
  | 132, _, h2 => exact z_code_132
  | 133, _, h2 => exact z_code_133
  | 134, _, h2 => exact z_code_134
  | 135, _, h2 => exact z_code_135
  | 136, _, h2 => exact z_code_136
  | 137, _, h2 => exact z_code_137
  | 138, _, h2 => exact z_code_138
  | 139, _, h2 => exact z_code_139
  | 140, _, h2 => exact z_code_140
  | 141, _, h2 => exact z_code_141
  | 142, _, h2 => exact z_code_142
  | 143, _, h2 => exact z_code_143
  | 144, _, h2 => exact z_code_144
  | 145, _, h2 => exact z_code_145
  | 146, _, h2 => exact z_code_146
  | 147, _, h2 => exact z_code_147
  | 148, _, h2 => exact z_code_148
  | 149, _, h2 => exact z_code_149
  | 150, _, h2 => exact z_code_150
  | 151, _, h2 => exact z_code_151
  | 152, _, h2 => exact z_code_152
  | 153, _, h2 => exact z_code_153
  | 154, _, h2 => exact z_code_154
  | 155, _, h2 => exact z_code_155
  | 156, _, h2 => exact z_code_156
  | 157, _, h2 => exact z_code_157
  | 158, _, h2 => exact z_code_158
  | 159, _, h2 => exact z_code_159
  | 160, _, h2 => exact z_code_160
  | 161, _, h2 => exact z_code_161
  | 162, _, h2 => exact z_code_162
  | 163, _, h2 => exact z_code_163
  | 164, _, h2 => exact z_code_164
  | 165, _, h2 => exact z_code_165
  | 166, _, h2 => exact z_code_166
  | 167, _, h2 => exact z_code_167
  | 168, _, h2 => exact z_code_168
  | 169, _, h2 => exact z_code_169
  | 170, _, h2 => exact z_code_170
  | 171, _, h2 => exact z_code_171
  | 172, _, h2 => exact z_code_172
  | 173, _, h2 => exact z_code_173
  | 174, _, h2 => exact z_code_174
  | 175, _, h2 => exact z_code_175
  | 176, _, h2 => exact z_code_176
  | 177, _, h2 => exact z_code_177
  | 178, _, h2 => exact z_code_178
  | 179, _, h2 => exact z_code_179
  | 180, _, h2 => exact z_code_180
  | 181, _, h2 => exact z_code_181
  | 182, _, h2 => exact z_code_182
  | 183, _, h2 => exact z_code_183
  | 184, _, h2 => exact z_code_184
  | 185, _, h2 => exact z_code_185
  | 186, _, h2 => exact z_code_186
  | 187, _, h2 => exact z_code_187
  | 188, _, h2 => exact z_code_188
  | 189, _, h2 => exact z_code_189
  | 190, _, h2 => exact z_code_190
  | 191, _, h2 => exact z_code_191
  | 192, _, h2 => exact z_code_192
  | 193, _, h2 => exact z_code_193
  | 194, _, h2 => exact z_code_194
  | 195, _, h2 => exact z_code_195
  | 196, _, h2 => exact z_code_196
  | 197, _, h2 => exact z_code_197
  | 198, _, h2 => exact z_code_198
  | 199, _, h2 => exact z_code_199
  | 200, _, h2 => exact z_code_200
  | 201, _, h2 => exact z_code_201
  | 202, _, h2 => exact z_code_202
  | 203, _, h2 => exact z_code_203
  | 204, _, h2 => exact z_code_204
  | 205, _, h2 => exact z_code_205
  | 206, _, h2 => exact z_code_206
  | 207, _, h2 => exact z_code_207
  | 208, _, h2 => exact z_code_208
  | 209, _, h2 => exact z_code_209
  | 210, _, h2 => exact z_code_210
  | 211, _, h2 => exact z_code_211
  | 212, _, h2 => exact z_code_212
  | 213, _, h2 => exact z_code_213
  | 214, _, h2 => exact z_code_214
  | 215, _, h2 => exact z_code_215
  | 216, _, h2 => exact z_code_216
  | 217, _, h2 => exact z_code_217
  | 218, _, h2 => exact z_code_218
  | 219, _, h2 => exact z_code_219
  | 220, _, h2 => exact z_code_220
  | 221, _, h2 => exact z_code_221
  | 222, _, h2 => exact z_code_222
  | 223, _, h2 => exact z_code_223
  | 224, _, h2 => exact z_code_224
  | 225, _, h2 => exact z_code_225
  | 226, _, h2 => exact z_code_226
  | 227, _, h2 => exact z_code_227
  | 228, _, h2 => exact z_code_228
  | 229, _, h2 => exact z_code_229
  | 230, _, h2 => exact z_code_230
  | 231, _, h2 => exact z_code_231
  | 232, _, h2 => exact z_code_232
  | 233, _, h2 => exact z_code_233
  | 234, _, h2 => exact z_code_234
  | 235, _, h2 => exact z_code_235
  | 236, _, h2 => exact z_code_236
  | 237, _, h2 => exact z_code_237
  | 238, _, h2 => exact z_code_238
  | 239, _, h2 => exact z_code_239
  | 240, _, h2 => exact z_code_240
  | 241, _, h2 => exact z_code_241
  | 242, _, h2 => exact z_code_242
  | 243, _, h2 => exact z_code_243
  | 244, _, h2 => exact z_code_244
  | 245, _, h2 => exact z_code_245
  | 246, _, h2 => exact z_code_246
  | 247, _, h2 => exact z_code_247
  | 248, _, h2 => exact z_code_248
  | 249, _, h2 => exact z_code_249
  | 250, _, h2 => exact absurd rfl h2
  | 251, _, h2 => exact z_code_251
  | n + 252, h, _ => exact absurd (show n + 252 < 252 from h) (by omega)
def zIn (m : Nat) : Cond := .initialized (zY m).cls
set_option maxRecDepth 100000 in
theorem z_init : ∀ q ∈ List.range zNm, zIn q ∈ lw_tbl := z_places zIn _ lw_tbl [125, 125, 125, 125, 125, 125, 116, 116, 116, 116, 116, 116, 116, 116, 116, 116, 116, 115, 115, 115, 115, 115, 115, 115, 115, 115, 115, 115, 115, 115, 115, 115, 115, 115, 122, 122, 122, 122, 122, 122, 117, 117, 117, 121, 121, 121, 121, 121, 121, 121, 121, 119, 119, 119, 119, 119, 119, 119, 119, 119, 118, 118, 118, 118, 118, 118, 118, 118, 118, 118, 118, 123, 123, 123, 123, 123, 123, 123, 123, 123, 123, 114, 114, 114, 114, 114, 114, 114, 124, 124, 124, 124, 124, 124, 124, 113, 113, 113, 113, 113, 113, 113, 113, 113, 113, 113, 113, 113, 113, 113, 113, 113, 113, 113, 113, 113, 113, 113, 113, 113, 113, 113, 113, 113, 113, 113, 113, 113, 113, 113, 113, 113, 113, 113, 113, 113, 113, 113, 113, 126, 126, 126, 126, 126, 126, 126, 126, 126, 126, 126, 126, 126, 126, 126, 126, 126, 126, 126, 126, 126, 126, 126, 126, 126, 126, 126, 126, 126, 126, 126, 126, 126, 126, 126, 126, 126, 126, 126, 126, 126, 126, 126, 126, 126, 126, 126, 126, 126, 126, 126, 126, 126, 126, 126, 126, 126, 126, 126, 126, 126, 126, 126, 126, 126, 126, 126, 126, 126, 126, 126, 126, 126, 126, 126, 126, 126, 126, 126, 126, 126, 126, 126, 126, 126, 126, 126, 126, 126, 126, 126, 126, 126, 126, 126, 126, 126, 126, 126, 126, 126, 126, 126, 126, 126, 126, 126, 126, 126, 126, 126, 112, 132] (by decide +kernel)
abbrev zKl : List (Nat × Nat × Int) := [(0, 25, 61440), (8, 41, 1000000), (11, 241, 1000000), (11, 313, 1048576), (11, 320, 65535), (11, 324, 65536), (12, 216, 1048576), (12, 392, 1000000000), (12, 472, 65535), (12, 473, 65536)]
def zK (o i : Nat) : Option Int := (zKl.find? (fun q => q.1 == o && q.2.1 == i)).map (fun q => q.2.2)
def zKw (q : Nat × Nat × Int) : Cond := .constant (zCn q.1) q.2.1 (Int32.ofInt q.2.2)
theorem zKl_ok : ∀ q ∈ zKl, zKw q ∈ lw_tbl := z_places zKw zKl lw_tbl [459, 967, 988, 1135, 1141, 1146, 1472, 1700, 1813, 1818] (by decide +kernel)
abbrev zSl : List (Nat × Nat) := [(1, 41), (2, 102), (6, 11)]
def zSt (o i : Nat) : Bool := zSl.any (fun q => q.1 == o && q.2 == i)
abbrev zNl1 : List (Nat × Nat × Nat) := [(0, 9, 7), (2, 7, 1), (6, 9, 1), (11, 7, 9), (11, 16, 2), (11, 35, 4), (11, 42, 7), (11, 58, 6), (11, 67, 5), (11, 74, 3), (11, 83, 8), (11, 92, 10), (11, 99, 0), (13, 7, 11), (13, 10, 12)]
def zN (o i : Nat) : Option Nat := (zNl1.find? (fun q => q.1 == o && q.2.1 == i)).map (fun q => q.2.2)
def zNw (q : Nat × Nat × Nat) : Cond := .classLink (zCn q.1) q.2.1 (zCn q.2.2)
theorem zNl_ok : ∀ q ∈ zNl1, zNw q ∈ lw_tbl := z_places zNw zNl1 lw_tbl [457, 164, 320, 142, 158, 220, 246, 303, 355, 385, 404, 431, 451, 134, 1176] (by decide +kernel)
def zIsw (c : Nat) : Cond := .instantiable (zCn c) (zNf c)
theorem z_inst : ∀ q ∈ List.range 13, zIsw q ∈ lw_tbl := z_places zIsw _ lw_tbl [452, 165, 159, 386, 221, 356, 304, 247, 405, 143, 432, 135, 1177] (by decide +kernel)
set_option maxRecDepth 100000 in
theorem z_lay_0 : ∀ q ∈ List.range (zNf 0), u_lay (zCn 0) (zT 0) q ∈ lw_tbl := z_places (u_lay (zCn 0) (zT 0)) _ lw_tbl [472, 474, 476, 478, 480, 482, 484, 486, 488, 490, 492] (by decide +kernel)
set_option maxRecDepth 100000 in
theorem z_lay_1 : ∀ q ∈ List.range (zNf 1), u_lay (zCn 1) (zT 1) q ∈ lw_tbl := z_places (u_lay (zCn 1) (zT 1)) _ lw_tbl [183, 185, 187, 189, 191, 193, 195, 197, 199, 201] (by decide +kernel)
set_option maxRecDepth 100000 in
theorem z_lay_2 : ∀ q ∈ List.range (zNf 2), u_lay (zCn 2) (zT 2) q ∈ lw_tbl := z_places (u_lay (zCn 2) (zT 2)) _ lw_tbl [209, 211, 213, 215, 217] (by decide +kernel)
set_option maxRecDepth 100000 in
theorem z_lay_3 : ∀ q ∈ List.range (zNf 3), u_lay (zCn 3) (zT 3) q ∈ lw_tbl := z_places (u_lay (zCn 3) (zT 3)) _ lw_tbl [395, 397, 399, 401] (by decide +kernel)
set_option maxRecDepth 100000 in
theorem z_lay_4 : ∀ q ∈ List.range (zNf 4), u_lay (zCn 4) (zT 4) q ∈ lw_tbl := z_places (u_lay (zCn 4) (zT 4)) _ lw_tbl [237, 239, 241, 243] (by decide +kernel)
set_option maxRecDepth 100000 in
theorem z_lay_5 : ∀ q ∈ List.range (zNf 5), u_lay (zCn 5) (zT 5) q ∈ lw_tbl := z_places (u_lay (zCn 5) (zT 5)) _ lw_tbl [372, 374, 376, 378, 380, 382] (by decide +kernel)
set_option maxRecDepth 100000 in
theorem z_lay_6 : ∀ q ∈ List.range (zNf 6), u_lay (zCn 6) (zT 6) q ∈ lw_tbl := z_places (u_lay (zCn 6) (zT 6)) _ lw_tbl [337, 339, 341, 343, 345, 347, 349, 351] (by decide +kernel)
set_option maxRecDepth 100000 in
theorem z_lay_7 : ∀ q ∈ List.range (zNf 7), u_lay (zCn 7) (zT 7) q ∈ lw_tbl := z_places (u_lay (zCn 7) (zT 7)) _ lw_tbl [284, 286, 288, 290, 292, 294, 296, 298, 300] (by decide +kernel)
set_option maxRecDepth 100000 in
theorem z_lay_8 : ∀ q ∈ List.range (zNf 8), u_lay (zCn 8) (zT 8) q ∈ lw_tbl := z_places (u_lay (zCn 8) (zT 8)) _ lw_tbl [418, 420, 422, 424, 426, 428] (by decide +kernel)
set_option maxRecDepth 100000 in
theorem z_lay_9 : ∀ q ∈ List.range (zNf 9), u_lay (zCn 9) (zT 9) q ∈ lw_tbl := z_places (u_lay (zCn 9) (zT 9)) _ lw_tbl [152, 154] (by decide +kernel)
set_option maxRecDepth 100000 in
theorem z_lay_10 : ∀ q ∈ List.range (zNf 10), u_lay (zCn 10) (zT 10) q ∈ lw_tbl := z_places (u_lay (zCn 10) (zT 10)) _ lw_tbl [442, 444, 446, 448] (by decide +kernel)
set_option maxRecDepth 100000 in
theorem z_lay_11 : ∀ q ∈ List.range (zNf 11), u_lay (zCn 11) (zT 11) q ∈ lw_tbl := z_places (u_lay (zCn 11) (zT 11)) _ lw_tbl [511, 513, 515, 517, 519, 521, 523, 525, 527, 529, 531, 533, 535, 537, 539, 541] (by decide +kernel)
set_option maxRecDepth 100000 in
theorem z_lay_12 : ∀ q ∈ List.range (zNf 12), u_lay (zCn 12) (zT 12) q ∈ lw_tbl := z_places (u_lay (zCn 12) (zT 12)) _ lw_tbl [1259, 1261, 1263, 1265, 1267, 1269, 1271, 1273, 1275, 1277, 1279, 1281, 1283, 1285, 1287, 1289, 1291, 1293, 1295, 1297, 1299, 1301, 1303, 1305, 1307, 1309, 1311, 1313, 1315, 1317, 1319, 1321, 1323, 1325, 1327, 1329, 1331, 1333, 1335, 1337, 1339, 1341, 1343, 1345, 1347, 1349, 1351, 1353, 1355, 1357, 1359, 1361, 1363, 1365, 1367, 1369, 1371, 1373, 1375, 1377, 1379, 1381, 1383, 1385, 1387, 1389, 1391, 1393, 1395, 1397, 1399, 1401, 1403, 1405, 1407, 1409, 1411] (by decide +kernel)
theorem z_lay {c : Nat} (h : c < 13) : ∀ w ∈ u_ws (zCn c) (zT c) (zNf c), w ∈ lw_tbl := by
  intro w hw
  obtain ⟨k, hk, rfl⟩ := List.mem_map.mp hw
  match c, h with
  | 0, _ => exact z_lay_0 k hk
  | 1, _ => exact z_lay_1 k hk
  | 2, _ => exact z_lay_2 k hk
  | 3, _ => exact z_lay_3 k hk
  | 4, _ => exact z_lay_4 k hk
  | 5, _ => exact z_lay_5 k hk
  | 6, _ => exact z_lay_6 k hk
  | 7, _ => exact z_lay_7 k hk
  | 8, _ => exact z_lay_8 k hk
  | 9, _ => exact z_lay_9 k hk
  | 10, _ => exact z_lay_10 k hk
  | 11, _ => exact z_lay_11 k hk
  | 12, _ => exact z_lay_12 k hk
  | n + 13, h => exact absurd h (by omega)
def zTbl : List Cond := lw_tbl.filter goodWord
theorem z_in {w : Cond} (h : w ∈ lw_tbl) (hg : goodWord w = true) : w ∈ zTbl := List.mem_filter.mpr ⟨h, hg⟩
theorem z_goodIn : GoodIn zTbl zTbl := fun w h => ⟨h, good_of_word (List.mem_filter.mp h).2⟩
theorem z_nm_0 : ∀ a, a < zNf 0 → ∀ b, b < zNf 0 → a ≠ b → (zT 0 a).2.1 ≠ (zT 0 b).2.1 := nmX0
theorem z_nm_1 : ∀ a, a < zNf 1 → ∀ b, b < zNf 1 → a ≠ b → (zT 1 a).2.1 ≠ (zT 1 b).2.1 := nmX1
theorem z_nm_2 : ∀ a, a < zNf 2 → ∀ b, b < zNf 2 → a ≠ b → (zT 2 a).2.1 ≠ (zT 2 b).2.1 := nmX2
theorem z_nm_3 : ∀ a, a < zNf 3 → ∀ b, b < zNf 3 → a ≠ b → (zT 3 a).2.1 ≠ (zT 3 b).2.1 := nmX3
theorem z_nm_4 : ∀ a, a < zNf 4 → ∀ b, b < zNf 4 → a ≠ b → (zT 4 a).2.1 ≠ (zT 4 b).2.1 := nmX4
theorem z_nm_5 : ∀ a, a < zNf 5 → ∀ b, b < zNf 5 → a ≠ b → (zT 5 a).2.1 ≠ (zT 5 b).2.1 := nmX5
theorem z_nm_6 : ∀ a, a < zNf 6 → ∀ b, b < zNf 6 → a ≠ b → (zT 6 a).2.1 ≠ (zT 6 b).2.1 := nmX6
theorem z_nm_7 : ∀ a, a < zNf 7 → ∀ b, b < zNf 7 → a ≠ b → (zT 7 a).2.1 ≠ (zT 7 b).2.1 := nmX7
theorem z_nm_8 : ∀ a, a < zNf 8 → ∀ b, b < zNf 8 → a ≠ b → (zT 8 a).2.1 ≠ (zT 8 b).2.1 := nmX8
theorem z_nm_9 : ∀ a, a < zNf 9 → ∀ b, b < zNf 9 → a ≠ b → (zT 9 a).2.1 ≠ (zT 9 b).2.1 := nmX9
theorem z_nm_10 : ∀ a, a < zNf 10 → ∀ b, b < zNf 10 → a ≠ b → (zT 10 a).2.1 ≠ (zT 10 b).2.1 := nmX10
theorem z_nm_11 : ∀ a, a < zNf 11 → ∀ b, b < zNf 11 → a ≠ b → (zT 11 a).2.1 ≠ (zT 11 b).2.1 := nmX11
theorem z_nm_12 : ∀ a, a < zNf 12 → ∀ b, b < zNf 12 → a ≠ b → (zT 12 a).2.1 ≠ (zT 12 b).2.1 := nmX12
theorem z_nm {c : Nat} (h : c < 13) : ∀ a, a < zNf c → ∀ b, b < zNf c → a ≠ b → (zT c a).2.1 ≠ (zT c b).2.1 := by
  match c, h with
  | 0, _ => exact nmX0
  | 1, _ => exact nmX1
  | 2, _ => exact nmX2
  | 3, _ => exact nmX3
  | 4, _ => exact nmX4
  | 5, _ => exact nmX5
  | 6, _ => exact nmX6
  | 7, _ => exact nmX7
  | 8, _ => exact nmX8
  | 9, _ => exact nmX9
  | 10, _ => exact nmX10
  | 11, _ => exact nmX11
  | 12, _ => exact nmX12
  | n + 13, h => exact absurd h (by omega)
theorem z_ty {c : Nat} (h : c < 13) : ∀ k, k < zNf c → parseFieldDescriptor (zT c k).2.2.1 = some (zTy c k) := by
  match c, h with
  | 0, _ => exact tyX0_ok
  | 1, _ => exact tyX1_ok
  | 2, _ => exact tyX2_ok
  | 3, _ => exact tyX3_ok
  | 4, _ => exact tyX4_ok
  | 5, _ => exact tyX5_ok
  | 6, _ => exact tyX6_ok
  | 7, _ => exact tyX7_ok
  | 8, _ => exact tyX8_ok
  | 9, _ => exact tyX9_ok
  | 10, _ => exact tyX10_ok
  | 11, _ => exact tyX11_ok
  | 12, _ => exact tyX12_ok
  | n + 13, h => exact absurd h (by omega)
theorem z_cl {c : Nat} (h : c < 13) : vwCl[c]? = some (zCn c, zT c, zNf c) := by
  match c, h with
  | 0, _ => rfl
  | 1, _ => rfl
  | 2, _ => rfl
  | 3, _ => rfl
  | 4, _ => rfl
  | 5, _ => rfl
  | 6, _ => rfl
  | 7, _ => rfl
  | 8, _ => rfl
  | 9, _ => rfl
  | 10, _ => rfl
  | 11, _ => rfl
  | 12, _ => rfl
  | n + 13, h => exact absurd h (by omega)
def zYk (m : Nat) : Bool := plainName (zY m).cls && decide ((zY m).cls = zCn (zO m)) && decide ((zY m).cls ≠ "java/lang/invoke/MethodHandle") && decide ((zY m).cls ≠ "java/lang/invoke/VarHandle") && decide ((parseMethodDescriptor (zY m).desc).map (fun d => d.parameters.length) = some (zA m))
theorem z_y : (List.range zNm).all zYk = true := by decide +kernel
theorem z_init2 : zMl.all (fun q => !(q.2.2.1 == 2 || q.2.2.1 == 3) || decide ((zY q.2.2.2).name = "<init>" ∧ zRt q.2.2.2 = none)) = true := by decide +kernel
theorem z_midlt : zMl.all (fun q => decide (q.2.2.2 < zNm) && !(q.2.2.2 == zNl)) = true := by decide +kernel
