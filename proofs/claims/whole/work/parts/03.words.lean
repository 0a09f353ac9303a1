/-- a word of the tables, by its place -/
theorem tm {w : Cond} (i : Nat) (h : lw_tbl[i]? = some w) : w ∈ lw_tbl := List.mem_of_getElem? h
theorem tm0 {w : Cond} (i : Nat) (h : (k2_sels lw_privs)[i]? = some w) : w ∈ lw_tbl := List.mem_append_left _ (List.mem_of_getElem? h)
theorem tm1 {w : Cond} (i : Nat) (h : tables_1_1[i]? = some w) : w ∈ lw_tbl := List.mem_append_right _ (List.mem_append_left _ (List.mem_of_getElem? h))
theorem tm2 {w : Cond} (i : Nat) (h : tables_1_2[i]? = some w) : w ∈ lw_tbl := List.mem_append_right _ (List.mem_append_right _ (List.mem_append_left _ (List.mem_of_getElem? h)))
theorem tm3 {w : Cond} (i : Nat) (h : tables_1_3[i]? = some w) : w ∈ lw_tbl := List.mem_append_right _ (List.mem_append_right _ (List.mem_append_right _ (List.mem_append_left _ (List.mem_of_getElem? h))))
theorem tm4 {w : Cond} (i : Nat) (h : tables_1_4[i]? = some w) : w ∈ lw_tbl := List.mem_append_right _ (List.mem_append_right _ (List.mem_append_right _ (List.mem_append_right _ (List.mem_append_left _ (List.mem_of_getElem? h)))))
theorem tm5 {w : Cond} (i : Nat) (h : tables_1_5[i]? = some w) : w ∈ lw_tbl := List.mem_append_right _ (List.mem_append_right _ (List.mem_append_right _ (List.mem_append_right _ (List.mem_append_right _ (List.mem_append_left _ (List.mem_of_getElem? h))))))
theorem tm6 {w : Cond} (i : Nat) (h : tables_1_6[i]? = some w) : w ∈ lw_tbl := List.mem_append_right _ (List.mem_append_right _ (List.mem_append_right _ (List.mem_append_right _ (List.mem_append_right _ (List.mem_append_right _ (List.mem_append_left _ (List.mem_of_getElem? h)))))))
theorem tm7 {w : Cond} (i : Nat) (h : tables_1_7[i]? = some w) : w ∈ lw_tbl := List.mem_append_right _ (List.mem_append_right _ (List.mem_append_right _ (List.mem_append_right _ (List.mem_append_right _ (List.mem_append_right _ (List.mem_append_right _ (List.mem_append_left _ (List.mem_of_getElem? h))))))))
theorem tm8 {w : Cond} (i : Nat) (h : tables_1_8[i]? = some w) : w ∈ lw_tbl := List.mem_append_right _ (List.mem_append_right _ (List.mem_append_right _ (List.mem_append_right _ (List.mem_append_right _ (List.mem_append_right _ (List.mem_append_right _ (List.mem_append_right _ (List.mem_of_getElem? h))))))))
theorem tms {ws : List Cond} (ps : List Nat) (h : ws = ps.filterMap (fun i => lw_tbl[i]?)) : ∀ w ∈ ws, w ∈ lw_tbl := by
  intro w hw
  rw [h] at hw
  obtain ⟨i, -, hi⟩ := List.mem_filterMap.mp hw
  exact tm i hi
def cnm (c : Nat) : String := (nth [RX0, RX1, RX2, RX3, RX4, RX5, RX6, RX7, RX8, RX9, RX10, RX11, RX12, RL, RJ7] c).getD ""
/-- the types of a class's fields: 0 int, 1 boolean, 2 long, 3 float, 4 a reference -/
def ftl : List (List Nat) := [[4, 0, 1], [4, 0, 4, 4, 4, 0, 0], [4, 4], [0, 0, 4, 1, 3, 3], [4, 4, 4, 4, 4, 4, 0, 0, 0, 0, 2, 4, 4, 4], [4, 4], [4, 0, 4, 4], [4, 4, 4, 4, 4, 4, 4, 4, 4, 4, 4], [4, 4, 4, 4, 4, 4, 4, 0, 0, 0], [4, 4, 4, 4, 4, 4, 4, 4, 4, 4, 4, 4, 4, 4, 4, 4, 4, 4, 0, 0], [4, 4, 4, 4, 4, 4, 4, 4, 4, 4, 4, 4, 4, 4, 0, 0, 0, 0], [4, 4, 4, 4, 4, 4, 4, 4, 4, 4, 0, 0], [0, 0, 4, 4, 4, 4, 4, 0, 4, 4, 4, 0, 4, 4, 4, 4, 4, 4, 4, 4, 4, 4, 0, 4, 4, 4, 1, 0, 0, 0, 4, 0, 4, 4, 0, 4, 4, 1, 0, 0, 4, 4, 4, 4, 4, 4, 0, 0, 1, 1, 0, 4, 4, 4, 4, 2]]
def ftAt (c k : Nat) : Nat := ((nth ftl c).bind (fun l => nth l k)).getD 9
def tyc (t : FieldType) : Nat := match t with
  | .int => 0
  | .boolean => 1
  | .long => 2
  | .float => 3
  | .object _ => 4
  | .array _ => 4
  | _ => 9
/-- what is known of class c -/
def ClsI (c : Nat) (C : String) (T : u_T) (N : Nat) (ty : Nat → FieldType) : Prop :=
  vwCl[c]? = some (C, T, N) ∧ cnm c = C ∧ (nth nfl c).getD 0 = (N : Int) ∧ (∀ w ∈ u_ws C T N, w ∈ lw_tbl) ∧ (∀ k, k < N → parseFieldDescriptor (T k).2.2.1 = some (ty k)) ∧ (∀ a, a < N → ∀ b, b < N → a ≠ b → (T a).2.1 ≠ (T b).2.1) ∧
  Cond.instantiable C N ∈ lw_tbl ∧ Cond.initialized C ∈ lw_tbl ∧ (∀ k, k < N → tyc (ty k) = ftAt c k) ∧ (∀ k, k < N → (T k).1 = C) ∧ N ≤ 64
theorem cls_0 : ClsI 0 RX0 TX0 3 tyX0 := ⟨rfl, rfl, rfl, tms [370, 372, 374] (by decide +kernel), tyX0_ok, nmX0, tm2 26 (by decide +kernel), tm1 9 (by decide +kernel), by decide +kernel, by decide +kernel, by decide⟩
theorem cls_1 : ClsI 1 RX1 TX1 7 tyX1 := ⟨rfl, rfl, rfl, tms [136, 138, 140, 142, 144, 146, 148] (by decide +kernel), tyX1_ok, nmX1, tm1 27 (by decide +kernel), tm1 2 (by decide +kernel), by decide +kernel, by decide +kernel, by decide⟩
theorem cls_2 : ClsI 2 RX2 TX2 2 tyX2 := ⟨rfl, rfl, rfl, tms [175, 177] (by decide +kernel), tyX2_ok, nmX2, tm1 64 (by decide +kernel), tm1 4 (by decide +kernel), by decide +kernel, by decide +kernel, by decide⟩
theorem cls_3 : ClsI 3 RX3 TX3 6 tyX3 := ⟨rfl, rfl, rfl, tms [925, 927, 929, 931, 933, 935] (by decide +kernel), tyX3_ok, nmX3, tm4 71 (by decide +kernel), tm1 16 (by decide +kernel), by decide +kernel, by decide +kernel, by decide⟩
theorem cls_4 : ClsI 4 RX4 TX4 14 tyX4 := ⟨rfl, rfl, rfl, tms [477, 479, 481, 483, 485, 487, 489, 491, 493, 495, 497, 499, 501, 503] (by decide +kernel), tyX4_ok, nmX4, tm2 123 (by decide +kernel), tm1 12 (by decide +kernel), by decide +kernel, by decide +kernel, by decide⟩
theorem cls_5 : ClsI 5 RX5 TX5 2 tyX5 := ⟨rfl, rfl, rfl, tms [236, 238] (by decide +kernel), tyX5_ok, nmX5, tm1 134 (by decide +kernel), tm1 7 (by decide +kernel), by decide +kernel, by decide +kernel, by decide⟩
theorem cls_6 : ClsI 6 RX6 TX6 4 tyX6 := ⟨rfl, rfl, rfl, tms [393, 395, 397, 399] (by decide +kernel), tyX6_ok, nmX6, tm2 49 (by decide +kernel), tm1 11 (by decide +kernel), by decide +kernel, by decide +kernel, by decide⟩
theorem cls_7 : ClsI 7 RX7 TX7 11 tyX7 := ⟨rfl, rfl, rfl, tms [337, 339, 341, 343, 345, 347, 349, 351, 353, 355, 357] (by decide +kernel), tyX7_ok, nmX7, tm1 222 (by decide +kernel), tm1 8 (by decide +kernel), by decide +kernel, by decide +kernel, by decide⟩
theorem cls_8 : ClsI 8 RX8 TX8 10 tyX8 := ⟨rfl, rfl, rfl, tms [201, 203, 205, 207, 209, 211, 213, 215, 217, 219] (by decide +kernel), tyX8_ok, nmX8, tm1 58 (by decide +kernel), tm1 3 (by decide +kernel), by decide +kernel, by decide +kernel, by decide⟩
theorem cls_9 : ClsI 9 RX9 TX9 20 tyX9 := ⟨rfl, rfl, rfl, tms [275, 277, 279, 281, 283, 285, 287, 289, 291, 293, 295, 297, 299, 301, 303, 305, 307, 309, 311, 313] (by decide +kernel), tyX9_ok, nmX9, tm1 128 (by decide +kernel), tm1 6 (by decide +kernel), by decide +kernel, by decide +kernel, by decide⟩
theorem cls_10 : ClsI 10 RX10 TX10 18 tyX10 := ⟨rfl, rfl, rfl, tms [420, 422, 424, 426, 428, 430, 432, 434, 436, 438, 440, 442, 444, 446, 448, 450, 452, 454] (by decide +kernel), tyX10_ok, nmX10, tm2 43 (by decide +kernel), tm1 10 (by decide +kernel), by decide +kernel, by decide +kernel, by decide⟩
theorem cls_11 : ClsI 11 RX11 TX11 12 tyX11 := ⟨rfl, rfl, rfl, tms [520, 522, 524, 526, 528, 530, 532, 534, 536, 538, 540, 542] (by decide +kernel), tyX11_ok, nmX11, tm1 19 (by decide +kernel), tm1 1 (by decide +kernel), by decide +kernel, by decide +kernel, by decide⟩
theorem cls_12 : ClsI 12 RX12 TX12 56 tyX12 := ⟨rfl, rfl, rfl, tms [1417, 1419, 1421, 1423, 1425, 1427, 1429, 1431, 1433, 1435, 1437, 1439, 1441, 1443, 1445, 1447, 1449, 1451, 1453, 1455, 1457, 1459, 1461, 1463, 1465, 1467, 1469, 1471, 1473, 1475, 1477, 1479, 1481, 1483, 1485, 1487, 1489, 1491, 1493, 1495, 1497, 1499, 1501, 1503, 1505, 1507, 1509, 1511, 1513, 1515, 1517, 1519, 1521, 1523, 1525, 1527] (by decide +kernel), tyX12_ok, nmX12, tm6 59 (by decide +kernel), tm1 13 (by decide +kernel), by decide +kernel, by decide +kernel, by decide⟩
theorem cls_ok (c : Nat) (h : c < 13) : ∃ C T N ty, ClsI c C T N ty := by
  rcases (show c = 0 ∨ c = 1 ∨ c = 2 ∨ c = 3 ∨ c = 4 ∨ c = 5 ∨ c = 6 ∨ c = 7 ∨ c = 8 ∨ c = 9 ∨ c = 10 ∨ c = 11 ∨ c = 12 by omega) with rfl | rfl | rfl | rfl | rfl | rfl | rfl | rfl | rfl | rfl | rfl | rfl | rfl
  · exact ⟨_, _, _, _, cls_0⟩
  · exact ⟨_, _, _, _, cls_1⟩
  · exact ⟨_, _, _, _, cls_2⟩
  · exact ⟨_, _, _, _, cls_3⟩
  · exact ⟨_, _, _, _, cls_4⟩
  · exact ⟨_, _, _, _, cls_5⟩
  · exact ⟨_, _, _, _, cls_6⟩
  · exact ⟨_, _, _, _, cls_7⟩
  · exact ⟨_, _, _, _, cls_8⟩
  · exact ⟨_, _, _, _, cls_9⟩
  · exact ⟨_, _, _, _, cls_10⟩
  · exact ⟨_, _, _, _, cls_11⟩
  · exact ⟨_, _, _, _, cls_12⟩
def mYl : List MethodName := [yX0_init, yX0_bodyAt, yX0_give, yX0_answer, yX0_thickness, yX0_shared, yX0_traysLent, yX0_margin, yX0_sign, yX1_init, yX1_acts, yX1_edition, yX1_isFull, yX1_remember, yX1_grow, yX1_enter, yX1_goBack, yX2_init, yX2_put, yX2_restore, yX3_init, yX3_numberAt, yX3_sum, yX3_withSherds, yX3_lettersOf, yX3_withLetters, yX3_plainBits, yX3_isFinite, yX3_isBelowZero, yX3_floatOf, yX4_init, yX4_refresh, yX4_isAtHand, yX4_nameAt, yX4_begin, yX4_complete, yX4_leastFrom, yX4_step, yX4_howMany, yX4_countParts, yX4_hangingWith, yX4_layOut, yX4_countPart, yX4_spread, yX5_init, yX5_clear, yX5_has, yX5_add, yX5_addAll, yX6_init, yX6_clear, yX6_length, yX6_relationAt, yX6_stepsFrom, yX6_measure, yX6_walk, yX6_firstTowards, yX7_init, yX7_size, yX7_has, yX7_areFull, yX7_ownedBy, yX7_add, yX7_isLost, yX7_giveUp, yX7_slotsOf, yX7_look, yX7_lookForSome, yX7_lookFor, yX7_lookForMore, yX7_findAt, yX7_putNew, yX7_putSame, yX7_empty, yX7_barrierToCopy, yX7_holdsBag, yX7_setPlace, yX7_unplace, yX7_holderOf, yX7_isWithin, yX7_unitOf, yX7_joinsMade, yX7_addJoin, yX7_joinsOf, yX7_sherdsIn, yX7_sherdsOfTray, yX7_digestOn, yX7_digestOfSlot, yX8_init, yX8_size, yX8_has, yX8_areFull, yX8_add, yX8_tie, yX8_blockOf, yX8_blocks, yX8_nameBlocks, yX8_isCut, yX8_suit, yX9_init, yX9_size, yX9_has, yX9_isFull, yX9_add, yX9_leads, yX9_rowOf, yX9_isNeedless, yX9_chartSize, yX9_chartAt, yX9_refresh, yX9_group, yX9_follow, yX9_judge, yX10_init, yX10_beginOf, yX10_endOf, yX10_refresh, yX10_boundByTray, yX10_mayHaveParts, yX10_roundedDown, yX10_roundedUp, yX10_boundBelow, yX10_boundAbove, yX10_chooseForBlocks, yX10_isQuarrel, yX10_seekQuarrel, yX10_quarrelLength, yX10_quarrelPart, yX11_init, yX11_counted, yX11_refused, yX11_done, yX11_leftOut, yX11_tell, yX11_areYears, yX11_unit, yX11_asks, yX11_asked, yX11_trace, yX11_above, yX11_cut, yX11_fill, yX11_relate, yX11_ringed, yX11_bond, yX11_ring, yX11_relation, yX11_later, yX11_block, yX11_chart, yX11_row, yX11_tray, yX11_lose, yX11_coin, yX11_sample, yX11_barrierToNew, yX11_sherds, yX11_note, yX11_bag, yX11_take, yX11_move, yX11_kind, yX11_sherd, yX11_letter, yX11_bagged, yX11_numberOf, yX11_lookInto, yX11_year, yX11_grain, yX11_tellNumberOf, yX11_mark, yX11_copy, yX11_join, yX11_joins, yX11_total, yX11_share, yX11_span, yX11_drawn, yX11_quarrel, yX11_because, yX11_orders, yX11_first, yX11_next, yX11_place, yX11_undo, yX11_count, yX11_status, yX11_digest, yX12_init, yX12_in, yX12_isYear, yX12_found, yX12_isUnit, yX12_isTray, yX12_body, yX12_isCut, yX12_thickness, yX12_traysAsk, yX12_margin, yX12_sign, yX12_bothAsk, yX12_asks, yX12_asked, yX12_trace, yX12_quietMargin, yX12_quietTrays, yX12_layers, yX12_isLater, yX12_follow, yX12_closes, yX12_isNeedless, yX12_later, yX12_block, yX12_chart, yX12_chartSize, yX12_row, yX12_relation, yX12_ring, yX12_doUnit, yX12_doRelation, yX12_doBond, yX12_newTray, yX12_empty, yX12_doTray, yX12_doLose, yX12_letGo, yX12_slotFault, yX12_heldFault, yX12_place, yX12_doSherds, yX12_doNote, yX12_doBag, yX12_doTake, yX12_lay, yX12_liesIn, yX12_doMove, yX12_doMark, yX12_doCopy, yX12_unitOf, yX12_doJoin, yX12_does, yX12_act, yX12_undo, yX12_status, yX12_unit, yX12_above, yX12_cut, yX12_fill, yX12_bond, yX12_tray, yX12_lose, yX12_coin, yX12_bitsOf, yX12_sample, yX12_sherds, yX12_areLetters, yX12_note, yX12_bag, yX12_take, yX12_move, yX12_mark, yX12_copy, yX12_join, yX12_span, yX12_kind, yX12_sherd, yX12_tells, yX12_year, yX12_grain, yX12_letter, yX12_bagged, yX12_joins, yX12_counted, yX12_total, yX12_share, yX12_down, yX12_up, yX12_bind, yX12_isPlain, yX12_bindBy, yX12_dates, yX12_bounder, yX12_drawn, yX12_quarrels, yX12_quarrel, yX12_because, yX12_listed, yX12_readBefore, yX12_orders, yX12_goOn, yX12_first, yX12_next, yX12_place_, yX12_count, yX12_tellOn, yX12_digestSlot, yX12_digest, yJ7_fill_53178, yJ7_copyOf_59c91, yL_law]
def mCl : List ByteArray := [cX0_init, cX0_bodyAt, cX0_give, cX0_answer, cX0_thickness, cX0_shared, cX0_traysLent, cX0_margin, cX0_sign, cX1_init, cX1_acts, cX1_edition, cX1_isFull, cX1_remember, cX1_grow, cX1_enter, cX1_goBack, cX2_init, cX2_put, cX2_restore, cX3_init, cX3_numberAt, cX3_sum, cX3_withSherds, cX3_lettersOf, cX3_withLetters, cX3_plainBits, cX3_isFinite, cX3_isBelowZero, cX3_floatOf, cX4_init, cX4_refresh, cX4_isAtHand, cX4_nameAt, cX4_begin, cX4_complete, cX4_leastFrom, cX4_step, cX4_howMany, cX4_countParts, cX4_hangingWith, cX4_layOut, cX4_countPart, cX4_spread, cX5_init, cX5_clear, cX5_has, cX5_add, cX5_addAll, cX6_init, cX6_clear, cX6_length, cX6_relationAt, cX6_stepsFrom, cX6_measure, cX6_walk, cX6_firstTowards, cX7_init, cX7_size, cX7_has, cX7_areFull, cX7_ownedBy, cX7_add, cX7_isLost, cX7_giveUp, cX7_slotsOf, cX7_look, cX7_lookForSome, cX7_lookFor, cX7_lookForMore, cX7_findAt, cX7_putNew, cX7_putSame, cX7_empty, cX7_barrierToCopy, cX7_holdsBag, cX7_setPlace, cX7_unplace, cX7_holderOf, cX7_isWithin, cX7_unitOf, cX7_joinsMade, cX7_addJoin, cX7_joinsOf, cX7_sherdsIn, cX7_sherdsOfTray, cX7_digestOn, cX7_digestOfSlot, cX8_init, cX8_size, cX8_has, cX8_areFull, cX8_add, cX8_tie, cX8_blockOf, cX8_blocks, cX8_nameBlocks, cX8_isCut, cX8_suit, cX9_init, cX9_size, cX9_has, cX9_isFull, cX9_add, cX9_leads, cX9_rowOf, cX9_isNeedless, cX9_chartSize, cX9_chartAt, cX9_refresh, cX9_group, cX9_follow, cX9_judge, cX10_init, cX10_beginOf, cX10_endOf, cX10_refresh, cX10_boundByTray, cX10_mayHaveParts, cX10_roundedDown, cX10_roundedUp, cX10_boundBelow, cX10_boundAbove, cX10_chooseForBlocks, cX10_isQuarrel, cX10_seekQuarrel, cX10_quarrelLength, cX10_quarrelPart, cX11_init, cX11_counted, cX11_refused, cX11_done, cX11_leftOut, cX11_tell, cX11_areYears, cX11_unit, cX11_asks, cX11_asked, cX11_trace, cX11_above, cX11_cut, cX11_fill, cX11_relate, cX11_ringed, cX11_bond, cX11_ring, cX11_relation, cX11_later, cX11_block, cX11_chart, cX11_row, cX11_tray, cX11_lose, cX11_coin, cX11_sample, cX11_barrierToNew, cX11_sherds, cX11_note, cX11_bag, cX11_take, cX11_move, cX11_kind, cX11_sherd, cX11_letter, cX11_bagged, cX11_numberOf, cX11_lookInto, cX11_year, cX11_grain, cX11_tellNumberOf, cX11_mark, cX11_copy, cX11_join, cX11_joins, cX11_total, cX11_share, cX11_span, cX11_drawn, cX11_quarrel, cX11_because, cX11_orders, cX11_first, cX11_next, cX11_place, cX11_undo, cX11_count, cX11_status, cX11_digest, cX12_init, cX12_in, cX12_isYear, cX12_found, cX12_isUnit, cX12_isTray, cX12_body, cX12_isCut, cX12_thickness, cX12_traysAsk, cX12_margin, cX12_sign, cX12_bothAsk, cX12_asks, cX12_asked, cX12_trace, cX12_quietMargin, cX12_quietTrays, cX12_layers, cX12_isLater, cX12_follow, cX12_closes, cX12_isNeedless, cX12_later, cX12_block, cX12_chart, cX12_chartSize, cX12_row, cX12_relation, cX12_ring, cX12_doUnit, cX12_doRelation, cX12_doBond, cX12_newTray, cX12_empty, cX12_doTray, cX12_doLose, cX12_letGo, cX12_slotFault, cX12_heldFault, cX12_place, cX12_doSherds, cX12_doNote, cX12_doBag, cX12_doTake, cX12_lay, cX12_liesIn, cX12_doMove, cX12_doMark, cX12_doCopy, cX12_unitOf, cX12_doJoin, cX12_does, cX12_act, cX12_undo, cX12_status, cX12_unit, cX12_above, cX12_cut, cX12_fill, cX12_bond, cX12_tray, cX12_lose, cX12_coin, cX12_bitsOf, cX12_sample, cX12_sherds, cX12_areLetters, cX12_note, cX12_bag, cX12_take, cX12_move, cX12_mark, cX12_copy, cX12_join, cX12_span, cX12_kind, cX12_sherd, cX12_tells, cX12_year, cX12_grain, cX12_letter, cX12_bagged, cX12_joins, cX12_counted, cX12_total, cX12_share, cX12_down, cX12_up, cX12_bind, cX12_isPlain, cX12_bindBy, cX12_dates, cX12_bounder, cX12_drawn, cX12_quarrels, cX12_quarrel, cX12_because, cX12_listed, cX12_readBefore, cX12_orders, cX12_goOn, cX12_first, cX12_next, cX12_place_, cX12_count, cX12_tellOn, cX12_digestSlot, cX12_digest, cJ7_fill_53178, cJ7_copyOf_59c91, cL_law]
def mRl : List (Option FieldType) := [none, (some .int), (some .int), (some .int), (some .int), (some .int), (some .int), (some .int), (some .int), none, (some .int), (some .int), (some .boolean), none, none, none, none, none, none, none, none, (some .int), (some .int), (some (.object "DigHouse$Find")), (some .int), (some (.object "DigHouse$Find")), (some .int), (some .boolean), (some .boolean), (some .float), none, none, (some .boolean), (some .int), (some .int), none, (some .int), (some .boolean), (some .long), (some .long), (some .int), (some .int), (some .long), none, none, none, (some .boolean), none, none, none, none, (some .int), (some .int), (some .int), none, none, (some .int), none, (some .int), (some .boolean), (some .boolean), (some .int), (some .int), (some .boolean), none, (some .int), (some .int), (some .int), (some .int), (some .int), (some (.object "DigHouse$Find")), none, none, none, (some .int), (some .boolean), none, none, (some .int), (some .boolean), (some .int), (some .int), (some .int), (some .int), (some .int), (some .int), (some .long), (some .long), none, (some .int), (some .boolean), (some .boolean), (some .int), none, (some .int), (some .int), none, (some .boolean), (some .boolean), none, (some .int), (some .boolean), (some .boolean), (some .int), (some .boolean), (some .int), (some .boolean), (some .int), (some .int), none, none, none, none, none, (some .int), (some .int), none, none, (some .boolean), (some .int), (some .int), none, none, none, (some .boolean), none, (some .int), (some .int), none, (some .int), (some .int), (some .int), (some .int), (some .int), (some .boolean), (some .int), (some .int), (some .int), (some .int), (some .int), (some .int), (some .int), (some .int), (some .int), (some .int), (some .int), (some .int), (some .int), (some .int), (some .int), (some .int), (some .int), (some .int), (some .int), (some .int), (some .int), (some .int), (some .int), (some .int), (some .int), (some .int), (some .int), (some .int), (some .int), (some .int), (some .int), (some .int), (some .int), (some .int), (some .int), (some .int), (some .int), (some .int), (some .int), (some .int), (some .int), (some .int), (some .int), (some .int), (some .int), (some .long), (some .int), (some .int), (some .int), (some .int), (some .int), (some .int), (some .long), none, (some .boolean), (some .boolean), (some .int), (some .boolean), (some .boolean), (some .int), (some .boolean), (some .int), (some .int), (some .int), (some .int), (some .int), (some .int), (some .int), (some .int), (some .int), (some .int), none, (some .boolean), none, (some .int), (some .boolean), (some .int), (some .int), (some .int), (some .int), (some .int), (some .int), (some .int), (some .int), (some .int), (some .int), (some .int), none, (some .int), (some .int), none, (some .int), (some .int), (some .int), (some .int), (some .int), (some .int), (some .int), none, (some .boolean), (some .int), (some .int), (some .int), (some .int), (some .int), (some .int), (some .int), (some .int), (some .int), (some .int), (some .int), (some .int), (some .int), (some .int), (some .int), (some .int), (some .int), (some .int), (some .int), (some .int), (some .boolean), (some .int), (some .int), (some .int), (some .int), (some .int), (some .int), (some .int), (some .int), (some .int), (some .int), (some .int), (some .int), (some .int), (some .int), (some .int), (some .int), (some .int), (some .int), (some .int), (some .int), (some .int), none, (some .boolean), none, none, (some .int), (some .int), (some .boolean), (some .int), (some .int), (some .int), none, (some .long), none, (some .int), (some .int), (some .int), (some .int), none, none, (some .long), none, (some (.array .int)), (some .boolean)]
/-- the class, the kind (1 a method of an object, 2 a constructor, 3 static), the room: frames, locals -/
def mIl : List (Nat × Nat × Nat × Nat) := [(0, 2, 1, 22), (0, 1, 0, 0), (0, 1, 0, 0), (0, 1, 2, 44), (0, 1, 1, 22), (0, 1, 0, 0), (0, 1, 1, 22), (0, 1, 1, 22), (0, 1, 1, 22), (1, 2, 1, 22), (1, 1, 0, 0), (1, 1, 0, 0), (1, 1, 0, 0), (1, 1, 3, 92), (1, 1, 2, 70), (1, 1, 0, 0), (1, 1, 1, 22), (2, 2, 1, 23), (2, 1, 4, 115), (2, 1, 0, 0), (3, 2, 2, 48), (3, 1, 0, 0), (3, 1, 0, 0), (3, 3, 3, 72), (3, 3, 0, 0), (3, 3, 3, 72), (3, 3, 0, 0), (3, 3, 0, 0), (3, 3, 0, 0), (3, 3, 1, 22), (4, 2, 1, 22), (4, 1, 4, 84), (4, 1, 0, 0), (4, 1, 1, 20), (4, 1, 5, 107), (4, 1, 1, 23), (4, 1, 0, 0), (4, 1, 2, 48), (4, 1, 5, 107), (4, 1, 2, 46), (4, 1, 0, 0), (4, 1, 0, 0), (4, 1, 1, 23), (4, 1, 0, 0), (5, 2, 1, 22), (5, 1, 0, 0), (5, 1, 0, 0), (5, 1, 0, 0), (5, 1, 0, 0), (6, 2, 1, 22), (6, 1, 0, 0), (6, 1, 0, 0), (6, 1, 0, 0), (6, 1, 0, 0), (6, 1, 1, 23), (6, 1, 2, 50), (6, 1, 0, 0), (7, 2, 2, 46), (7, 1, 0, 0), (7, 1, 1, 20), (7, 1, 1, 20), (7, 1, 1, 20), (7, 1, 5, 137), (7, 1, 0, 0), (7, 1, 5, 137), (7, 1, 1, 21), (7, 1, 1, 21), (7, 1, 3, 65), (7, 1, 3, 65), (7, 1, 3, 65), (7, 1, 2, 42), (7, 1, 5, 137), (7, 1, 5, 137), (7, 1, 5, 137), (7, 1, 4, 88), (7, 1, 3, 65), (7, 1, 5, 137), (7, 1, 5, 137), (7, 1, 1, 21), (7, 1, 2, 43), (7, 1, 2, 43), (7, 1, 0, 0), (7, 1, 5, 137), (7, 1, 1, 20), (7, 1, 4, 90), (7, 1, 3, 65), (7, 1, 3, 65), (7, 3, 0, 0), (8, 2, 2, 46), (8, 1, 0, 0), (8, 1, 1, 20), (8, 1, 1, 20), (8, 1, 5, 137), (8, 1, 5, 137), (8, 1, 2, 42), (8, 1, 2, 42), (8, 1, 1, 20), (8, 1, 0, 0), (8, 1, 1, 21), (9, 2, 2, 46), (9, 1, 0, 0), (9, 1, 1, 20), (9, 1, 1, 20), (9, 1, 5, 137), (9, 1, 4, 84), (9, 1, 4, 84), (9, 1, 4, 84), (9, 1, 4, 84), (9, 1, 4, 84), (9, 1, 3, 63), (9, 1, 1, 20), (9, 1, 1, 23), (9, 1, 1, 24), (10, 2, 2, 42), (10, 1, 5, 118), (10, 1, 5, 118), (10, 1, 4, 96), (10, 1, 3, 69), (10, 3, 0, 0), (10, 3, 1, 20), (10, 3, 1, 20), (10, 1, 0, 0), (10, 1, 0, 0), (10, 1, 3, 63), (10, 1, 5, 118), (10, 1, 4, 84), (10, 1, 1, 20), (10, 1, 1, 22), (11, 2, 3, 68), (11, 1, 0, 0), (11, 1, 1, 22), (11, 1, 1, 20), (11, 1, 0, 0), (11, 1, 0, 0), (11, 3, 0, 0), (11, 1, 6, 160), (11, 1, 3, 69), (11, 1, 0, 0), (11, 1, 1, 21), (11, 1, 7, 186), (11, 1, 7, 186), (11, 1, 7, 186), (11, 1, 6, 161), (11, 1, 4, 84), (11, 1, 6, 159), (11, 1, 1, 21), (11, 1, 5, 105), (11, 1, 5, 106), (11, 1, 3, 63), (11, 1, 5, 105), (11, 1, 5, 105), (11, 1, 6, 160), (11, 1, 6, 158), (11, 1, 6, 161), (11, 1, 6, 161), (11, 1, 3, 65), (11, 1, 6, 161), (11, 1, 6, 161), (11, 1, 6, 161), (11, 1, 6, 159), (11, 1, 6, 162), (11, 1, 3, 65), (11, 1, 6, 139), (11, 1, 6, 139), (11, 1, 6, 139), (11, 1, 5, 113), (11, 1, 4, 90), (11, 1, 6, 139), (11, 1, 6, 139), (11, 1, 5, 113), (11, 1, 6, 161), (11, 1, 6, 162), (11, 1, 6, 160), (11, 1, 2, 46), (11, 1, 5, 115), (11, 1, 5, 115), (11, 1, 5, 137), (11, 1, 6, 142), (11, 1, 6, 138), (11, 1, 6, 138), (11, 1, 6, 127), (11, 1, 6, 127), (11, 1, 3, 71), (11, 1, 2, 41), (11, 1, 2, 45), (11, 1, 5, 104), (11, 1, 0, 0), (11, 1, 4, 91), (12, 2, 1, 22), (12, 3, 0, 0), (12, 3, 1, 22), (12, 1, 0, 0), (12, 1, 1, 22), (12, 1, 1, 22), (12, 1, 0, 0), (12, 1, 0, 0), (12, 1, 1, 22), (12, 1, 1, 22), (12, 1, 1, 22), (12, 1, 1, 22), (12, 1, 1, 22), (12, 1, 2, 46), (12, 1, 0, 0), (12, 1, 1, 22), (12, 1, 2, 44), (12, 1, 2, 44), (12, 1, 0, 0), (12, 1, 1, 25), (12, 1, 0, 0), (12, 1, 1, 25), (12, 1, 1, 25), (12, 1, 2, 47), (12, 1, 2, 43), (12, 1, 2, 51), (12, 1, 2, 51), (12, 1, 2, 43), (12, 1, 2, 51), (12, 1, 1, 22), (12, 1, 0, 0), (12, 1, 2, 48), (12, 1, 2, 48), (12, 1, 1, 22), (12, 1, 0, 0), (12, 1, 3, 69), (12, 1, 2, 43), (12, 1, 1, 22), (12, 1, 1, 22), (12, 1, 2, 44), (12, 1, 2, 44), (12, 1, 2, 44), (12, 1, 2, 44), (12, 1, 2, 45), (12, 1, 3, 69), (12, 1, 0, 0), (12, 1, 0, 0), (12, 1, 3, 69), (12, 1, 3, 69), (12, 1, 1, 23), (12, 1, 0, 0), (12, 1, 3, 69), (12, 1, 4, 97), (12, 1, 5, 125), (12, 1, 5, 125), (12, 1, 0, 0), (12, 1, 6, 155), (12, 1, 6, 155), (12, 1, 6, 155), (12, 1, 6, 155), (12, 1, 6, 155), (12, 1, 6, 155), (12, 1, 6, 155), (12, 1, 6, 155), (12, 3, 0, 0), (12, 1, 6, 155), (12, 1, 6, 155), (12, 3, 0, 0), (12, 1, 6, 155), (12, 1, 6, 155), (12, 1, 6, 155), (12, 1, 6, 155), (12, 1, 6, 155), (12, 1, 6, 155), (12, 1, 6, 155), (12, 1, 6, 155), (12, 1, 2, 44), (12, 1, 3, 69), (12, 1, 3, 69), (12, 1, 4, 94), (12, 1, 4, 94), (12, 1, 3, 69), (12, 1, 3, 69), (12, 1, 2, 43), (12, 1, 1, 22), (12, 1, 2, 50), (12, 1, 2, 50), (12, 3, 0, 0), (12, 3, 0, 0), (12, 1, 0, 0), (12, 3, 0, 0), (12, 1, 3, 69), (12, 1, 4, 98), (12, 1, 0, 0), (12, 1, 5, 121), (12, 1, 5, 121), (12, 1, 6, 148), (12, 1, 6, 148), (12, 1, 0, 0), (12, 1, 1, 25), (12, 1, 2, 47), (12, 1, 0, 0), (12, 1, 2, 47), (12, 1, 2, 47), (12, 1, 1, 22), (12, 1, 3, 73), (12, 1, 0, 0), (12, 1, 1, 22), (12, 1, 2, 44), (14, 3, 0, 0), (14, 3, 1, 48), (13, 3, 8, 208)]
def mY (i : Nat) : MethodName := (nth mYl i).getD yX0_init
def mC (i : Nat) : ByteArray := (nth mCl i).getD cX0_init
def mR (i : Nat) : Option FieldType := (nth mRl i).getD none
def mI (i : Nat) : Nat × Nat × Nat × Nat := (nth mIl i).getD (0, 0, 0, 0)
def MOK (i : Nat) : Prop := (mY i).cls = cnm (mI i).1 ∧ Cond.code (mY i) (mC i) (mMl i) (mR i) ∈ lw_tbl ∧ Cond.initialized (mY i).cls ∈ lw_tbl ∧ plainName (mY i).cls = true ∧ ((mY i).cls ≠ "java/lang/invoke/MethodHandle" ∧ (mY i).cls ≠ "java/lang/invoke/VarHandle") ∧
  (parseMethodDescriptor (mY i).desc).map (fun d => d.parameters.length + (if (mI i).2.1 = 3 then 0 else 1)) = some (mNa i) ∧
  (((mI i).2.1 = 1 ∧ mRc i = 10 + (mI i).1 ∧ (mI i).1 < 13 ∧ Cond.instanceMethod (mY i) ∈ lw_tbl ∧ Cond.selects (mY i).cls (mY i) (mY i) ∈ lw_tbl) ∨ ((mI i).2.1 = 2 ∧ mRc i = 10 + (mI i).1 ∧ (mI i).1 < 13 ∧ (mY i).name = "<init>" ∧ mR i = none ∧ Cond.instanceMethod (mY i) ∈ lw_tbl) ∨ ((mI i).2.1 = 3 ∧ mRc i = 0 ∧ Cond.static (mY i) ∈ lw_tbl))
theorem mok_0 : MOK 0 := ⟨rfl, tm2 29 (by decide +kernel), tm1 9 (by decide +kernel), by decide +kernel, ⟨by decide +kernel, by decide +kernel⟩, by decide +kernel, Or.inr (Or.inl ⟨rfl, rfl, by decide, rfl, rfl, tm2 28 (by decide +kernel)⟩)⟩
theorem mok_1 : MOK 1 := ⟨rfl, tm3 85 (by decide +kernel), tm1 9 (by decide +kernel), by decide +kernel, ⟨by decide +kernel, by decide +kernel⟩, by decide +kernel, Or.inl ⟨rfl, rfl, by decide, tm3 83 (by decide +kernel), tm3 84 (by decide +kernel)⟩⟩
theorem mok_2 : MOK 2 := ⟨rfl, tm3 53 (by decide +kernel), tm1 9 (by decide +kernel), by decide +kernel, ⟨by decide +kernel, by decide +kernel⟩, by decide +kernel, Or.inl ⟨rfl, rfl, by decide, tm3 52 (by decide +kernel), tm0 5 (by decide +kernel)⟩⟩
theorem mok_3 : MOK 3 := ⟨rfl, tm3 45 (by decide +kernel), tm1 9 (by decide +kernel), by decide +kernel, ⟨by decide +kernel, by decide +kernel⟩, by decide +kernel, Or.inl ⟨rfl, rfl, by decide, tm3 43 (by decide +kernel), tm3 44 (by decide +kernel)⟩⟩
theorem mok_4 : MOK 4 := ⟨rfl, tm3 49 (by decide +kernel), tm1 9 (by decide +kernel), by decide +kernel, ⟨by decide +kernel, by decide +kernel⟩, by decide +kernel, Or.inl ⟨rfl, rfl, by decide, tm3 48 (by decide +kernel), tm0 4 (by decide +kernel)⟩⟩
theorem mok_5 : MOK 5 := ⟨rfl, tm3 57 (by decide +kernel), tm1 9 (by decide +kernel), by decide +kernel, ⟨by decide +kernel, by decide +kernel⟩, by decide +kernel, Or.inl ⟨rfl, rfl, by decide, tm3 56 (by decide +kernel), tm0 6 (by decide +kernel)⟩⟩
theorem mok_6 : MOK 6 := ⟨rfl, tm3 61 (by decide +kernel), tm1 9 (by decide +kernel), by decide +kernel, ⟨by decide +kernel, by decide +kernel⟩, by decide +kernel, Or.inl ⟨rfl, rfl, by decide, tm3 60 (by decide +kernel), tm0 7 (by decide +kernel)⟩⟩
theorem mok_7 : MOK 7 := ⟨rfl, tm3 65 (by decide +kernel), tm1 9 (by decide +kernel), by decide +kernel, ⟨by decide +kernel, by decide +kernel⟩, by decide +kernel, Or.inl ⟨rfl, rfl, by decide, tm3 64 (by decide +kernel), tm0 8 (by decide +kernel)⟩⟩
theorem mok_8 : MOK 8 := ⟨rfl, tm3 69 (by decide +kernel), tm1 9 (by decide +kernel), by decide +kernel, ⟨by decide +kernel, by decide +kernel⟩, by decide +kernel, Or.inl ⟨rfl, rfl, by decide, tm3 68 (by decide +kernel), tm0 9 (by decide +kernel)⟩⟩
theorem mok_9 : MOK 9 := ⟨rfl, tm1 30 (by decide +kernel), tm1 2 (by decide +kernel), by decide +kernel, ⟨by decide +kernel, by decide +kernel⟩, by decide +kernel, Or.inr (Or.inl ⟨rfl, rfl, by decide, rfl, rfl, tm1 29 (by decide +kernel)⟩)⟩
theorem mok_10 : MOK 10 := ⟨rfl, tm6 15 (by decide +kernel), tm1 2 (by decide +kernel), by decide +kernel, ⟨by decide +kernel, by decide +kernel⟩, by decide +kernel, Or.inl ⟨rfl, rfl, by decide, tm6 13 (by decide +kernel), tm6 14 (by decide +kernel)⟩⟩
theorem mok_11 : MOK 11 := ⟨rfl, tm5 90 (by decide +kernel), tm1 2 (by decide +kernel), by decide +kernel, ⟨by decide +kernel, by decide +kernel⟩, by decide +kernel, Or.inl ⟨rfl, rfl, by decide, tm5 88 (by decide +kernel), tm5 89 (by decide +kernel)⟩⟩
theorem mok_12 : MOK 12 := ⟨rfl, tm2 225 (by decide +kernel), tm1 2 (by decide +kernel), by decide +kernel, ⟨by decide +kernel, by decide +kernel⟩, by decide +kernel, Or.inl ⟨rfl, rfl, by decide, tm2 223 (by decide +kernel), tm2 224 (by decide +kernel)⟩⟩
theorem mok_13 : MOK 13 := ⟨rfl, tm3 5 (by decide +kernel), tm1 2 (by decide +kernel), by decide +kernel, ⟨by decide +kernel, by decide +kernel⟩, by decide +kernel, Or.inl ⟨rfl, rfl, by decide, tm3 3 (by decide +kernel), tm3 4 (by decide +kernel)⟩⟩
theorem mok_14 : MOK 14 := ⟨rfl, tm3 9 (by decide +kernel), tm1 2 (by decide +kernel), by decide +kernel, ⟨by decide +kernel, by decide +kernel⟩, by decide +kernel, Or.inl ⟨rfl, rfl, by decide, tm3 8 (by decide +kernel), tm0 2 (by decide +kernel)⟩⟩
theorem mok_15 : MOK 15 := ⟨rfl, tm3 33 (by decide +kernel), tm1 2 (by decide +kernel), by decide +kernel, ⟨by decide +kernel, by decide +kernel⟩, by decide +kernel, Or.inl ⟨rfl, rfl, by decide, tm3 31 (by decide +kernel), tm3 32 (by decide +kernel)⟩⟩
theorem mok_16 : MOK 16 := ⟨rfl, tm6 19 (by decide +kernel), tm1 2 (by decide +kernel), by decide +kernel, ⟨by decide +kernel, by decide +kernel⟩, by decide +kernel, Or.inl ⟨rfl, rfl, by decide, tm6 17 (by decide +kernel), tm6 18 (by decide +kernel)⟩⟩
theorem mok_17 : MOK 17 := ⟨rfl, tm1 67 (by decide +kernel), tm1 4 (by decide +kernel), by decide +kernel, ⟨by decide +kernel, by decide +kernel⟩, by decide +kernel, Or.inr (Or.inl ⟨rfl, rfl, by decide, rfl, rfl, tm1 66 (by decide +kernel)⟩)⟩
theorem mok_18 : MOK 18 := ⟨rfl, tm3 1 (by decide +kernel), tm1 4 (by decide +kernel), by decide +kernel, ⟨by decide +kernel, by decide +kernel⟩, by decide +kernel, Or.inl ⟨rfl, rfl, by decide, tm2 239 (by decide +kernel), tm3 0 (by decide +kernel)⟩⟩
theorem mok_19 : MOK 19 := ⟨rfl, tm6 23 (by decide +kernel), tm1 4 (by decide +kernel), by decide +kernel, ⟨by decide +kernel, by decide +kernel⟩, by decide +kernel, Or.inl ⟨rfl, rfl, by decide, tm6 21 (by decide +kernel), tm6 22 (by decide +kernel)⟩⟩
theorem mok_20 : MOK 20 := ⟨rfl, tm4 74 (by decide +kernel), tm1 16 (by decide +kernel), by decide +kernel, ⟨by decide +kernel, by decide +kernel⟩, by decide +kernel, Or.inr (Or.inl ⟨rfl, rfl, by decide, rfl, rfl, tm4 73 (by decide +kernel)⟩)⟩
theorem mok_21 : MOK 21 := ⟨rfl, tm4 148 (by decide +kernel), tm1 16 (by decide +kernel), by decide +kernel, ⟨by decide +kernel, by decide +kernel⟩, by decide +kernel, Or.inl ⟨rfl, rfl, by decide, tm4 146 (by decide +kernel), tm4 147 (by decide +kernel)⟩⟩
theorem mok_22 : MOK 22 := ⟨rfl, tm5 64 (by decide +kernel), tm1 16 (by decide +kernel), by decide +kernel, ⟨by decide +kernel, by decide +kernel⟩, by decide +kernel, Or.inl ⟨rfl, rfl, by decide, tm5 62 (by decide +kernel), tm5 63 (by decide +kernel)⟩⟩
theorem mok_23 : MOK 23 := ⟨rfl, tm4 151 (by decide +kernel), tm1 16 (by decide +kernel), by decide +kernel, ⟨by decide +kernel, by decide +kernel⟩, by decide +kernel, Or.inr (Or.inr ⟨rfl, rfl, tm4 150 (by decide +kernel)⟩)⟩
theorem mok_24 : MOK 24 := ⟨rfl, tm4 162 (by decide +kernel), tm1 16 (by decide +kernel), by decide +kernel, ⟨by decide +kernel, by decide +kernel⟩, by decide +kernel, Or.inr (Or.inr ⟨rfl, rfl, tm4 161 (by decide +kernel)⟩)⟩
theorem mok_25 : MOK 25 := ⟨rfl, tm4 166 (by decide +kernel), tm1 16 (by decide +kernel), by decide +kernel, ⟨by decide +kernel, by decide +kernel⟩, by decide +kernel, Or.inr (Or.inr ⟨rfl, rfl, tm4 165 (by decide +kernel)⟩)⟩
theorem mok_26 : MOK 26 := ⟨rfl, tm4 133 (by decide +kernel), tm1 16 (by decide +kernel), by decide +kernel, ⟨by decide +kernel, by decide +kernel⟩, by decide +kernel, Or.inr (Or.inr ⟨rfl, rfl, tm4 132 (by decide +kernel)⟩)⟩
theorem mok_27 : MOK 27 := ⟨rfl, tm4 78 (by decide +kernel), tm1 16 (by decide +kernel), by decide +kernel, ⟨by decide +kernel, by decide +kernel⟩, by decide +kernel, Or.inr (Or.inr ⟨rfl, rfl, tm4 77 (by decide +kernel)⟩)⟩
theorem mok_28 : MOK 28 := ⟨rfl, tm4 82 (by decide +kernel), tm1 16 (by decide +kernel), by decide +kernel, ⟨by decide +kernel, by decide +kernel⟩, by decide +kernel, Or.inr (Or.inr ⟨rfl, rfl, tm4 81 (by decide +kernel)⟩)⟩
theorem mok_29 : MOK 29 := ⟨rfl, tm4 86 (by decide +kernel), tm1 16 (by decide +kernel), by decide +kernel, ⟨by decide +kernel, by decide +kernel⟩, by decide +kernel, Or.inr (Or.inr ⟨rfl, rfl, tm4 85 (by decide +kernel)⟩)⟩
theorem mok_30 : MOK 30 := ⟨rfl, tm2 126 (by decide +kernel), tm1 12 (by decide +kernel), by decide +kernel, ⟨by decide +kernel, by decide +kernel⟩, by decide +kernel, Or.inr (Or.inl ⟨rfl, rfl, by decide, rfl, rfl, tm2 125 (by decide +kernel)⟩)⟩
theorem mok_31 : MOK 31 := ⟨rfl, tm5 185 (by decide +kernel), tm1 12 (by decide +kernel), by decide +kernel, ⟨by decide +kernel, by decide +kernel⟩, by decide +kernel, Or.inl ⟨rfl, rfl, by decide, tm5 184 (by decide +kernel), tm0 33 (by decide +kernel)⟩⟩
theorem mok_32 : MOK 32 := ⟨rfl, tm5 234 (by decide +kernel), tm1 12 (by decide +kernel), by decide +kernel, ⟨by decide +kernel, by decide +kernel⟩, by decide +kernel, Or.inl ⟨rfl, rfl, by decide, tm5 232 (by decide +kernel), tm5 233 (by decide +kernel)⟩⟩
theorem mok_33 : MOK 33 := ⟨rfl, tm6 6 (by decide +kernel), tm1 12 (by decide +kernel), by decide +kernel, ⟨by decide +kernel, by decide +kernel⟩, by decide +kernel, Or.inl ⟨rfl, rfl, by decide, tm6 4 (by decide +kernel), tm6 5 (by decide +kernel)⟩⟩
theorem mok_34 : MOK 34 := ⟨rfl, tm5 218 (by decide +kernel), tm1 12 (by decide +kernel), by decide +kernel, ⟨by decide +kernel, by decide +kernel⟩, by decide +kernel, Or.inl ⟨rfl, rfl, by decide, tm5 216 (by decide +kernel), tm5 217 (by decide +kernel)⟩⟩
theorem mok_35 : MOK 35 := ⟨rfl, tm5 222 (by decide +kernel), tm1 12 (by decide +kernel), by decide +kernel, ⟨by decide +kernel, by decide +kernel⟩, by decide +kernel, Or.inl ⟨rfl, rfl, by decide, tm5 221 (by decide +kernel), tm0 39 (by decide +kernel)⟩⟩
theorem mok_36 : MOK 36 := ⟨rfl, tm5 226 (by decide +kernel), tm1 12 (by decide +kernel), by decide +kernel, ⟨by decide +kernel, by decide +kernel⟩, by decide +kernel, Or.inl ⟨rfl, rfl, by decide, tm5 225 (by decide +kernel), tm0 40 (by decide +kernel)⟩⟩
theorem mok_37 : MOK 37 := ⟨rfl, tm5 238 (by decide +kernel), tm1 12 (by decide +kernel), by decide +kernel, ⟨by decide +kernel, by decide +kernel⟩, by decide +kernel, Or.inl ⟨rfl, rfl, by decide, tm5 236 (by decide +kernel), tm5 237 (by decide +kernel)⟩⟩
theorem mok_38 : MOK 38 := ⟨rfl, tm5 181 (by decide +kernel), tm1 12 (by decide +kernel), by decide +kernel, ⟨by decide +kernel, by decide +kernel⟩, by decide +kernel, Or.inl ⟨rfl, rfl, by decide, tm5 179 (by decide +kernel), tm5 180 (by decide +kernel)⟩⟩
theorem mok_39 : MOK 39 := ⟨rfl, tm5 194 (by decide +kernel), tm1 12 (by decide +kernel), by decide +kernel, ⟨by decide +kernel, by decide +kernel⟩, by decide +kernel, Or.inl ⟨rfl, rfl, by decide, tm5 193 (by decide +kernel), tm0 34 (by decide +kernel)⟩⟩
theorem mok_40 : MOK 40 := ⟨rfl, tm5 198 (by decide +kernel), tm1 12 (by decide +kernel), by decide +kernel, ⟨by decide +kernel, by decide +kernel⟩, by decide +kernel, Or.inl ⟨rfl, rfl, by decide, tm5 197 (by decide +kernel), tm0 35 (by decide +kernel)⟩⟩
theorem mok_41 : MOK 41 := ⟨rfl, tm5 202 (by decide +kernel), tm1 12 (by decide +kernel), by decide +kernel, ⟨by decide +kernel, by decide +kernel⟩, by decide +kernel, Or.inl ⟨rfl, rfl, by decide, tm5 201 (by decide +kernel), tm0 36 (by decide +kernel)⟩⟩
theorem mok_42 : MOK 42 := ⟨rfl, tm5 206 (by decide +kernel), tm1 12 (by decide +kernel), by decide +kernel, ⟨by decide +kernel, by decide +kernel⟩, by decide +kernel, Or.inl ⟨rfl, rfl, by decide, tm5 205 (by decide +kernel), tm0 37 (by decide +kernel)⟩⟩
theorem mok_43 : MOK 43 := ⟨rfl, tm5 210 (by decide +kernel), tm1 12 (by decide +kernel), by decide +kernel, ⟨by decide +kernel, by decide +kernel⟩, by decide +kernel, Or.inl ⟨rfl, rfl, by decide, tm5 209 (by decide +kernel), tm0 38 (by decide +kernel)⟩⟩
theorem mok_44 : MOK 44 := ⟨rfl, tm1 137 (by decide +kernel), tm1 7 (by decide +kernel), by decide +kernel, ⟨by decide +kernel, by decide +kernel⟩, by decide +kernel, Or.inr (Or.inl ⟨rfl, rfl, by decide, rfl, rfl, tm1 136 (by decide +kernel)⟩)⟩
theorem mok_45 : MOK 45 := ⟨rfl, tm3 139 (by decide +kernel), tm1 7 (by decide +kernel), by decide +kernel, ⟨by decide +kernel, by decide +kernel⟩, by decide +kernel, Or.inl ⟨rfl, rfl, by decide, tm3 137 (by decide +kernel), tm3 138 (by decide +kernel)⟩⟩
theorem mok_46 : MOK 46 := ⟨rfl, tm3 158 (by decide +kernel), tm1 7 (by decide +kernel), by decide +kernel, ⟨by decide +kernel, by decide +kernel⟩, by decide +kernel, Or.inl ⟨rfl, rfl, by decide, tm3 156 (by decide +kernel), tm3 157 (by decide +kernel)⟩⟩
theorem mok_47 : MOK 47 := ⟨rfl, tm3 147 (by decide +kernel), tm1 7 (by decide +kernel), by decide +kernel, ⟨by decide +kernel, by decide +kernel⟩, by decide +kernel, Or.inl ⟨rfl, rfl, by decide, tm3 145 (by decide +kernel), tm3 146 (by decide +kernel)⟩⟩
theorem mok_48 : MOK 48 := ⟨rfl, tm3 143 (by decide +kernel), tm1 7 (by decide +kernel), by decide +kernel, ⟨by decide +kernel, by decide +kernel⟩, by decide +kernel, Or.inl ⟨rfl, rfl, by decide, tm3 141 (by decide +kernel), tm3 142 (by decide +kernel)⟩⟩
theorem mok_49 : MOK 49 := ⟨rfl, tm2 52 (by decide +kernel), tm1 11 (by decide +kernel), by decide +kernel, ⟨by decide +kernel, by decide +kernel⟩, by decide +kernel, Or.inr (Or.inl ⟨rfl, rfl, by decide, rfl, rfl, tm2 51 (by decide +kernel)⟩)⟩
theorem mok_50 : MOK 50 := ⟨rfl, tm6 27 (by decide +kernel), tm1 11 (by decide +kernel), by decide +kernel, ⟨by decide +kernel, by decide +kernel⟩, by decide +kernel, Or.inl ⟨rfl, rfl, by decide, tm6 25 (by decide +kernel), tm6 26 (by decide +kernel)⟩⟩
theorem mok_51 : MOK 51 := ⟨rfl, tm5 158 (by decide +kernel), tm1 11 (by decide +kernel), by decide +kernel, ⟨by decide +kernel, by decide +kernel⟩, by decide +kernel, Or.inl ⟨rfl, rfl, by decide, tm5 156 (by decide +kernel), tm5 157 (by decide +kernel)⟩⟩
theorem mok_52 : MOK 52 := ⟨rfl, tm3 211 (by decide +kernel), tm1 11 (by decide +kernel), by decide +kernel, ⟨by decide +kernel, by decide +kernel⟩, by decide +kernel, Or.inl ⟨rfl, rfl, by decide, tm3 209 (by decide +kernel), tm3 210 (by decide +kernel)⟩⟩
theorem mok_53 : MOK 53 := ⟨rfl, tm5 149 (by decide +kernel), tm1 11 (by decide +kernel), by decide +kernel, ⟨by decide +kernel, by decide +kernel⟩, by decide +kernel, Or.inl ⟨rfl, rfl, by decide, tm5 147 (by decide +kernel), tm5 148 (by decide +kernel)⟩⟩
theorem mok_54 : MOK 54 := ⟨rfl, tm3 171 (by decide +kernel), tm1 11 (by decide +kernel), by decide +kernel, ⟨by decide +kernel, by decide +kernel⟩, by decide +kernel, Or.inl ⟨rfl, rfl, by decide, tm3 169 (by decide +kernel), tm3 170 (by decide +kernel)⟩⟩
theorem mok_55 : MOK 55 := ⟨rfl, tm3 167 (by decide +kernel), tm1 11 (by decide +kernel), by decide +kernel, ⟨by decide +kernel, by decide +kernel⟩, by decide +kernel, Or.inl ⟨rfl, rfl, by decide, tm3 165 (by decide +kernel), tm3 166 (by decide +kernel)⟩⟩
theorem mok_56 : MOK 56 := ⟨rfl, tm3 176 (by decide +kernel), tm1 11 (by decide +kernel), by decide +kernel, ⟨by decide +kernel, by decide +kernel⟩, by decide +kernel, Or.inl ⟨rfl, rfl, by decide, tm3 175 (by decide +kernel), tm0 18 (by decide +kernel)⟩⟩
theorem mok_57 : MOK 57 := ⟨rfl, tm1 225 (by decide +kernel), tm1 8 (by decide +kernel), by decide +kernel, ⟨by decide +kernel, by decide +kernel⟩, by decide +kernel, Or.inr (Or.inl ⟨rfl, rfl, by decide, rfl, rfl, tm1 224 (by decide +kernel)⟩)⟩
theorem mok_58 : MOK 58 := ⟨rfl, tm4 19 (by decide +kernel), tm1 8 (by decide +kernel), by decide +kernel, ⟨by decide +kernel, by decide +kernel⟩, by decide +kernel, Or.inl ⟨rfl, rfl, by decide, tm4 17 (by decide +kernel), tm4 18 (by decide +kernel)⟩⟩
theorem mok_59 : MOK 59 := ⟨rfl, tm4 36 (by decide +kernel), tm1 8 (by decide +kernel), by decide +kernel, ⟨by decide +kernel, by decide +kernel⟩, by decide +kernel, Or.inl ⟨rfl, rfl, by decide, tm4 34 (by decide +kernel), tm4 35 (by decide +kernel)⟩⟩
theorem mok_60 : MOK 60 := ⟨rfl, tm4 15 (by decide +kernel), tm1 8 (by decide +kernel), by decide +kernel, ⟨by decide +kernel, by decide +kernel⟩, by decide +kernel, Or.inl ⟨rfl, rfl, by decide, tm4 13 (by decide +kernel), tm4 14 (by decide +kernel)⟩⟩
theorem mok_61 : MOK 61 := ⟨rfl, tm4 23 (by decide +kernel), tm1 8 (by decide +kernel), by decide +kernel, ⟨by decide +kernel, by decide +kernel⟩, by decide +kernel, Or.inl ⟨rfl, rfl, by decide, tm4 21 (by decide +kernel), tm4 22 (by decide +kernel)⟩⟩
theorem mok_62 : MOK 62 := ⟨rfl, tm4 27 (by decide +kernel), tm1 8 (by decide +kernel), by decide +kernel, ⟨by decide +kernel, by decide +kernel⟩, by decide +kernel, Or.inl ⟨rfl, rfl, by decide, tm4 25 (by decide +kernel), tm4 26 (by decide +kernel)⟩⟩
theorem mok_63 : MOK 63 := ⟨rfl, tm4 40 (by decide +kernel), tm1 8 (by decide +kernel), by decide +kernel, ⟨by decide +kernel, by decide +kernel⟩, by decide +kernel, Or.inl ⟨rfl, rfl, by decide, tm4 38 (by decide +kernel), tm4 39 (by decide +kernel)⟩⟩
theorem mok_64 : MOK 64 := ⟨rfl, tm4 44 (by decide +kernel), tm1 8 (by decide +kernel), by decide +kernel, ⟨by decide +kernel, by decide +kernel⟩, by decide +kernel, Or.inl ⟨rfl, rfl, by decide, tm4 42 (by decide +kernel), tm4 43 (by decide +kernel)⟩⟩
theorem mok_65 : MOK 65 := ⟨rfl, tm4 69 (by decide +kernel), tm1 8 (by decide +kernel), by decide +kernel, ⟨by decide +kernel, by decide +kernel⟩, by decide +kernel, Or.inl ⟨rfl, rfl, by decide, tm4 67 (by decide +kernel), tm4 68 (by decide +kernel)⟩⟩
theorem mok_66 : MOK 66 := ⟨rfl, tm4 59 (by decide +kernel), tm1 8 (by decide +kernel), by decide +kernel, ⟨by decide +kernel, by decide +kernel⟩, by decide +kernel, Or.inl ⟨rfl, rfl, by decide, tm4 57 (by decide +kernel), tm4 58 (by decide +kernel)⟩⟩
theorem mok_67 : MOK 67 := ⟨rfl, tm4 182 (by decide +kernel), tm1 8 (by decide +kernel), by decide +kernel, ⟨by decide +kernel, by decide +kernel⟩, by decide +kernel, Or.inl ⟨rfl, rfl, by decide, tm4 180 (by decide +kernel), tm4 181 (by decide +kernel)⟩⟩
theorem mok_68 : MOK 68 := ⟨rfl, tm4 226 (by decide +kernel), tm1 8 (by decide +kernel), by decide +kernel, ⟨by decide +kernel, by decide +kernel⟩, by decide +kernel, Or.inl ⟨rfl, rfl, by decide, tm4 224 (by decide +kernel), tm4 225 (by decide +kernel)⟩⟩
theorem mok_69 : MOK 69 := ⟨rfl, tm4 142 (by decide +kernel), tm1 8 (by decide +kernel), by decide +kernel, ⟨by decide +kernel, by decide +kernel⟩, by decide +kernel, Or.inl ⟨rfl, rfl, by decide, tm4 140 (by decide +kernel), tm4 141 (by decide +kernel)⟩⟩
theorem mok_70 : MOK 70 := ⟨rfl, tm4 64 (by decide +kernel), tm1 8 (by decide +kernel), by decide +kernel, ⟨by decide +kernel, by decide +kernel⟩, by decide +kernel, Or.inl ⟨rfl, rfl, by decide, tm4 62 (by decide +kernel), tm4 63 (by decide +kernel)⟩⟩
theorem mok_71 : MOK 71 := ⟨rfl, tm4 126 (by decide +kernel), tm1 8 (by decide +kernel), by decide +kernel, ⟨by decide +kernel, by decide +kernel⟩, by decide +kernel, Or.inl ⟨rfl, rfl, by decide, tm4 124 (by decide +kernel), tm4 125 (by decide +kernel)⟩⟩
theorem mok_72 : MOK 72 := ⟨rfl, tm4 206 (by decide +kernel), tm1 8 (by decide +kernel), by decide +kernel, ⟨by decide +kernel, by decide +kernel⟩, by decide +kernel, Or.inl ⟨rfl, rfl, by decide, tm4 204 (by decide +kernel), tm4 205 (by decide +kernel)⟩⟩
theorem mok_73 : MOK 73 := ⟨rfl, tm4 186 (by decide +kernel), tm1 8 (by decide +kernel), by decide +kernel, ⟨by decide +kernel, by decide +kernel⟩, by decide +kernel, Or.inl ⟨rfl, rfl, by decide, tm4 184 (by decide +kernel), tm4 185 (by decide +kernel)⟩⟩
theorem mok_74 : MOK 74 := ⟨rfl, tm5 18 (by decide +kernel), tm1 8 (by decide +kernel), by decide +kernel, ⟨by decide +kernel, by decide +kernel⟩, by decide +kernel, Or.inl ⟨rfl, rfl, by decide, tm5 16 (by decide +kernel), tm5 17 (by decide +kernel)⟩⟩
theorem mok_75 : MOK 75 := ⟨rfl, tm5 22 (by decide +kernel), tm1 8 (by decide +kernel), by decide +kernel, ⟨by decide +kernel, by decide +kernel⟩, by decide +kernel, Or.inl ⟨rfl, rfl, by decide, tm5 21 (by decide +kernel), tm0 25 (by decide +kernel)⟩⟩
theorem mok_76 : MOK 76 := ⟨rfl, tm4 174 (by decide +kernel), tm1 8 (by decide +kernel), by decide +kernel, ⟨by decide +kernel, by decide +kernel⟩, by decide +kernel, Or.inl ⟨rfl, rfl, by decide, tm4 172 (by decide +kernel), tm4 173 (by decide +kernel)⟩⟩
theorem mok_77 : MOK 77 := ⟨rfl, tm4 190 (by decide +kernel), tm1 8 (by decide +kernel), by decide +kernel, ⟨by decide +kernel, by decide +kernel⟩, by decide +kernel, Or.inl ⟨rfl, rfl, by decide, tm4 188 (by decide +kernel), tm4 189 (by decide +kernel)⟩⟩
theorem mok_78 : MOK 78 := ⟨rfl, tm4 202 (by decide +kernel), tm1 8 (by decide +kernel), by decide +kernel, ⟨by decide +kernel, by decide +kernel⟩, by decide +kernel, Or.inl ⟨rfl, rfl, by decide, tm4 201 (by decide +kernel), tm0 21 (by decide +kernel)⟩⟩
theorem mok_79 : MOK 79 := ⟨rfl, tm4 198 (by decide +kernel), tm1 8 (by decide +kernel), by decide +kernel, ⟨by decide +kernel, by decide +kernel⟩, by decide +kernel, Or.inl ⟨rfl, rfl, by decide, tm4 196 (by decide +kernel), tm4 197 (by decide +kernel)⟩⟩
theorem mok_80 : MOK 80 := ⟨rfl, tm5 34 (by decide +kernel), tm1 8 (by decide +kernel), by decide +kernel, ⟨by decide +kernel, by decide +kernel⟩, by decide +kernel, Or.inl ⟨rfl, rfl, by decide, tm5 32 (by decide +kernel), tm5 33 (by decide +kernel)⟩⟩
theorem mok_81 : MOK 81 := ⟨rfl, tm5 30 (by decide +kernel), tm1 8 (by decide +kernel), by decide +kernel, ⟨by decide +kernel, by decide +kernel⟩, by decide +kernel, Or.inl ⟨rfl, rfl, by decide, tm5 28 (by decide +kernel), tm5 29 (by decide +kernel)⟩⟩
theorem mok_82 : MOK 82 := ⟨rfl, tm5 38 (by decide +kernel), tm1 8 (by decide +kernel), by decide +kernel, ⟨by decide +kernel, by decide +kernel⟩, by decide +kernel, Or.inl ⟨rfl, rfl, by decide, tm5 36 (by decide +kernel), tm5 37 (by decide +kernel)⟩⟩
theorem mok_83 : MOK 83 := ⟨rfl, tm5 47 (by decide +kernel), tm1 8 (by decide +kernel), by decide +kernel, ⟨by decide +kernel, by decide +kernel⟩, by decide +kernel, Or.inl ⟨rfl, rfl, by decide, tm5 45 (by decide +kernel), tm5 46 (by decide +kernel)⟩⟩
theorem mok_84 : MOK 84 := ⟨rfl, tm5 55 (by decide +kernel), tm1 8 (by decide +kernel), by decide +kernel, ⟨by decide +kernel, by decide +kernel⟩, by decide +kernel, Or.inl ⟨rfl, rfl, by decide, tm5 53 (by decide +kernel), tm5 54 (by decide +kernel)⟩⟩
theorem mok_85 : MOK 85 := ⟨rfl, tm5 60 (by decide +kernel), tm1 8 (by decide +kernel), by decide +kernel, ⟨by decide +kernel, by decide +kernel⟩, by decide +kernel, Or.inl ⟨rfl, rfl, by decide, tm5 59 (by decide +kernel), tm0 26 (by decide +kernel)⟩⟩
theorem mok_86 : MOK 86 := ⟨rfl, tm6 52 (by decide +kernel), tm1 8 (by decide +kernel), by decide +kernel, ⟨by decide +kernel, by decide +kernel⟩, by decide +kernel, Or.inl ⟨rfl, rfl, by decide, tm6 50 (by decide +kernel), tm6 51 (by decide +kernel)⟩⟩
theorem mok_87 : MOK 87 := ⟨rfl, tm6 56 (by decide +kernel), tm1 8 (by decide +kernel), by decide +kernel, ⟨by decide +kernel, by decide +kernel⟩, by decide +kernel, Or.inr (Or.inr ⟨rfl, rfl, tm6 55 (by decide +kernel)⟩)⟩
theorem mok_88 : MOK 88 := ⟨rfl, tm1 61 (by decide +kernel), tm1 3 (by decide +kernel), by decide +kernel, ⟨by decide +kernel, by decide +kernel⟩, by decide +kernel, Or.inr (Or.inl ⟨rfl, rfl, by decide, rfl, rfl, tm1 60 (by decide +kernel)⟩)⟩
theorem mok_89 : MOK 89 := ⟨rfl, tm2 233 (by decide +kernel), tm1 3 (by decide +kernel), by decide +kernel, ⟨by decide +kernel, by decide +kernel⟩, by decide +kernel, Or.inl ⟨rfl, rfl, by decide, tm2 231 (by decide +kernel), tm2 232 (by decide +kernel)⟩⟩
theorem mok_90 : MOK 90 := ⟨rfl, tm3 41 (by decide +kernel), tm1 3 (by decide +kernel), by decide +kernel, ⟨by decide +kernel, by decide +kernel⟩, by decide +kernel, Or.inl ⟨rfl, rfl, by decide, tm3 39 (by decide +kernel), tm3 40 (by decide +kernel)⟩⟩
theorem mok_91 : MOK 91 := ⟨rfl, tm2 229 (by decide +kernel), tm1 3 (by decide +kernel), by decide +kernel, ⟨by decide +kernel, by decide +kernel⟩, by decide +kernel, Or.inl ⟨rfl, rfl, by decide, tm2 227 (by decide +kernel), tm2 228 (by decide +kernel)⟩⟩
theorem mok_92 : MOK 92 := ⟨rfl, tm2 237 (by decide +kernel), tm1 3 (by decide +kernel), by decide +kernel, ⟨by decide +kernel, by decide +kernel⟩, by decide +kernel, Or.inl ⟨rfl, rfl, by decide, tm2 235 (by decide +kernel), tm2 236 (by decide +kernel)⟩⟩
theorem mok_93 : MOK 93 := ⟨rfl, tm3 201 (by decide +kernel), tm1 3 (by decide +kernel), by decide +kernel, ⟨by decide +kernel, by decide +kernel⟩, by decide +kernel, Or.inl ⟨rfl, rfl, by decide, tm3 199 (by decide +kernel), tm3 200 (by decide +kernel)⟩⟩
theorem mok_94 : MOK 94 := ⟨rfl, tm3 113 (by decide +kernel), tm1 3 (by decide +kernel), by decide +kernel, ⟨by decide +kernel, by decide +kernel⟩, by decide +kernel, Or.inl ⟨rfl, rfl, by decide, tm3 111 (by decide +kernel), tm3 112 (by decide +kernel)⟩⟩
theorem mok_95 : MOK 95 := ⟨rfl, tm5 176 (by decide +kernel), tm1 3 (by decide +kernel), by decide +kernel, ⟨by decide +kernel, by decide +kernel⟩, by decide +kernel, Or.inl ⟨rfl, rfl, by decide, tm5 174 (by decide +kernel), tm5 175 (by decide +kernel)⟩⟩
theorem mok_96 : MOK 96 := ⟨rfl, tm3 117 (by decide +kernel), tm1 3 (by decide +kernel), by decide +kernel, ⟨by decide +kernel, by decide +kernel⟩, by decide +kernel, Or.inl ⟨rfl, rfl, by decide, tm3 116 (by decide +kernel), tm0 13 (by decide +kernel)⟩⟩
theorem mok_97 : MOK 97 := ⟨rfl, tm3 109 (by decide +kernel), tm1 3 (by decide +kernel), by decide +kernel, ⟨by decide +kernel, by decide +kernel⟩, by decide +kernel, Or.inl ⟨rfl, rfl, by decide, tm3 108 (by decide +kernel), tm0 12 (by decide +kernel)⟩⟩
theorem mok_98 : MOK 98 := ⟨rfl, tm3 105 (by decide +kernel), tm1 3 (by decide +kernel), by decide +kernel, ⟨by decide +kernel, by decide +kernel⟩, by decide +kernel, Or.inl ⟨rfl, rfl, by decide, tm3 103 (by decide +kernel), tm3 104 (by decide +kernel)⟩⟩
theorem mok_99 : MOK 99 := ⟨rfl, tm1 131 (by decide +kernel), tm1 6 (by decide +kernel), by decide +kernel, ⟨by decide +kernel, by decide +kernel⟩, by decide +kernel, Or.inr (Or.inl ⟨rfl, rfl, by decide, rfl, rfl, tm1 130 (by decide +kernel)⟩)⟩
theorem mok_100 : MOK 100 := ⟨rfl, tm3 101 (by decide +kernel), tm1 6 (by decide +kernel), by decide +kernel, ⟨by decide +kernel, by decide +kernel⟩, by decide +kernel, Or.inl ⟨rfl, rfl, by decide, tm3 99 (by decide +kernel), tm3 100 (by decide +kernel)⟩⟩
theorem mok_101 : MOK 101 := ⟨rfl, tm3 219 (by decide +kernel), tm1 6 (by decide +kernel), by decide +kernel, ⟨by decide +kernel, by decide +kernel⟩, by decide +kernel, Or.inl ⟨rfl, rfl, by decide, tm3 217 (by decide +kernel), tm3 218 (by decide +kernel)⟩⟩
theorem mok_102 : MOK 102 := ⟨rfl, tm3 97 (by decide +kernel), tm1 6 (by decide +kernel), by decide +kernel, ⟨by decide +kernel, by decide +kernel⟩, by decide +kernel, Or.inl ⟨rfl, rfl, by decide, tm3 95 (by decide +kernel), tm3 96 (by decide +kernel)⟩⟩
theorem mok_103 : MOK 103 := ⟨rfl, tm3 180 (by decide +kernel), tm1 6 (by decide +kernel), by decide +kernel, ⟨by decide +kernel, by decide +kernel⟩, by decide +kernel, Or.inl ⟨rfl, rfl, by decide, tm3 178 (by decide +kernel), tm3 179 (by decide +kernel)⟩⟩
theorem mok_104 : MOK 104 := ⟨rfl, tm3 121 (by decide +kernel), tm1 6 (by decide +kernel), by decide +kernel, ⟨by decide +kernel, by decide +kernel⟩, by decide +kernel, Or.inl ⟨rfl, rfl, by decide, tm3 119 (by decide +kernel), tm3 120 (by decide +kernel)⟩⟩
theorem mok_105 : MOK 105 := ⟨rfl, tm4 7 (by decide +kernel), tm1 6 (by decide +kernel), by decide +kernel, ⟨by decide +kernel, by decide +kernel⟩, by decide +kernel, Or.inl ⟨rfl, rfl, by decide, tm4 5 (by decide +kernel), tm4 6 (by decide +kernel)⟩⟩
theorem mok_106 : MOK 106 := ⟨rfl, tm3 223 (by decide +kernel), tm1 6 (by decide +kernel), by decide +kernel, ⟨by decide +kernel, by decide +kernel⟩, by decide +kernel, Or.inl ⟨rfl, rfl, by decide, tm3 221 (by decide +kernel), tm3 222 (by decide +kernel)⟩⟩
theorem mok_107 : MOK 107 := ⟨rfl, tm6 38 (by decide +kernel), tm1 6 (by decide +kernel), by decide +kernel, ⟨by decide +kernel, by decide +kernel⟩, by decide +kernel, Or.inl ⟨rfl, rfl, by decide, tm6 36 (by decide +kernel), tm6 37 (by decide +kernel)⟩⟩
theorem mok_108 : MOK 108 := ⟨rfl, tm3 239 (by decide +kernel), tm1 6 (by decide +kernel), by decide +kernel, ⟨by decide +kernel, by decide +kernel⟩, by decide +kernel, Or.inl ⟨rfl, rfl, by decide, tm3 237 (by decide +kernel), tm3 238 (by decide +kernel)⟩⟩
theorem mok_109 : MOK 109 := ⟨rfl, tm3 125 (by decide +kernel), tm1 6 (by decide +kernel), by decide +kernel, ⟨by decide +kernel, by decide +kernel⟩, by decide +kernel, Or.inl ⟨rfl, rfl, by decide, tm3 123 (by decide +kernel), tm3 124 (by decide +kernel)⟩⟩
theorem mok_110 : MOK 110 := ⟨rfl, tm3 130 (by decide +kernel), tm1 6 (by decide +kernel), by decide +kernel, ⟨by decide +kernel, by decide +kernel⟩, by decide +kernel, Or.inl ⟨rfl, rfl, by decide, tm3 129 (by decide +kernel), tm0 14 (by decide +kernel)⟩⟩
theorem mok_111 : MOK 111 := ⟨rfl, tm3 135 (by decide +kernel), tm1 6 (by decide +kernel), by decide +kernel, ⟨by decide +kernel, by decide +kernel⟩, by decide +kernel, Or.inl ⟨rfl, rfl, by decide, tm3 134 (by decide +kernel), tm0 15 (by decide +kernel)⟩⟩
theorem mok_112 : MOK 112 := ⟨rfl, tm3 154 (by decide +kernel), tm1 6 (by decide +kernel), by decide +kernel, ⟨by decide +kernel, by decide +kernel⟩, by decide +kernel, Or.inl ⟨rfl, rfl, by decide, tm3 153 (by decide +kernel), tm0 16 (by decide +kernel)⟩⟩
theorem mok_113 : MOK 113 := ⟨rfl, tm2 46 (by decide +kernel), tm1 10 (by decide +kernel), by decide +kernel, ⟨by decide +kernel, by decide +kernel⟩, by decide +kernel, Or.inr (Or.inl ⟨rfl, rfl, by decide, rfl, rfl, tm2 45 (by decide +kernel)⟩)⟩
theorem mok_114 : MOK 114 := ⟨rfl, tm5 82 (by decide +kernel), tm1 10 (by decide +kernel), by decide +kernel, ⟨by decide +kernel, by decide +kernel⟩, by decide +kernel, Or.inl ⟨rfl, rfl, by decide, tm5 80 (by decide +kernel), tm5 81 (by decide +kernel)⟩⟩
theorem mok_115 : MOK 115 := ⟨rfl, tm5 131 (by decide +kernel), tm1 10 (by decide +kernel), by decide +kernel, ⟨by decide +kernel, by decide +kernel⟩, by decide +kernel, Or.inl ⟨rfl, rfl, by decide, tm5 129 (by decide +kernel), tm5 130 (by decide +kernel)⟩⟩
theorem mok_116 : MOK 116 := ⟨rfl, tm5 86 (by decide +kernel), tm1 10 (by decide +kernel), by decide +kernel, ⟨by decide +kernel, by decide +kernel⟩, by decide +kernel, Or.inl ⟨rfl, rfl, by decide, tm5 85 (by decide +kernel), tm0 27 (by decide +kernel)⟩⟩
theorem mok_117 : MOK 117 := ⟨rfl, tm5 98 (by decide +kernel), tm1 10 (by decide +kernel), by decide +kernel, ⟨by decide +kernel, by decide +kernel⟩, by decide +kernel, Or.inl ⟨rfl, rfl, by decide, tm5 97 (by decide +kernel), tm0 28 (by decide +kernel)⟩⟩
theorem mok_118 : MOK 118 := ⟨rfl, tm5 116 (by decide +kernel), tm1 10 (by decide +kernel), by decide +kernel, ⟨by decide +kernel, by decide +kernel⟩, by decide +kernel, Or.inr (Or.inr ⟨rfl, rfl, tm5 115 (by decide +kernel)⟩)⟩
theorem mok_119 : MOK 119 := ⟨rfl, tm5 113 (by decide +kernel), tm1 10 (by decide +kernel), by decide +kernel, ⟨by decide +kernel, by decide +kernel⟩, by decide +kernel, Or.inr (Or.inr ⟨rfl, rfl, tm5 112 (by decide +kernel)⟩)⟩
theorem mok_120 : MOK 120 := ⟨rfl, tm5 121 (by decide +kernel), tm1 10 (by decide +kernel), by decide +kernel, ⟨by decide +kernel, by decide +kernel⟩, by decide +kernel, Or.inr (Or.inr ⟨rfl, rfl, tm5 120 (by decide +kernel)⟩)⟩
theorem mok_121 : MOK 121 := ⟨rfl, tm5 106 (by decide +kernel), tm1 10 (by decide +kernel), by decide +kernel, ⟨by decide +kernel, by decide +kernel⟩, by decide +kernel, Or.inl ⟨rfl, rfl, by decide, tm5 105 (by decide +kernel), tm0 29 (by decide +kernel)⟩⟩
theorem mok_122 : MOK 122 := ⟨rfl, tm5 110 (by decide +kernel), tm1 10 (by decide +kernel), by decide +kernel, ⟨by decide +kernel, by decide +kernel⟩, by decide +kernel, Or.inl ⟨rfl, rfl, by decide, tm5 109 (by decide +kernel), tm0 30 (by decide +kernel)⟩⟩
theorem mok_123 : MOK 123 := ⟨rfl, tm5 125 (by decide +kernel), tm1 10 (by decide +kernel), by decide +kernel, ⟨by decide +kernel, by decide +kernel⟩, by decide +kernel, Or.inl ⟨rfl, rfl, by decide, tm5 124 (by decide +kernel), tm0 31 (by decide +kernel)⟩⟩
theorem mok_124 : MOK 124 := ⟨rfl, tm5 139 (by decide +kernel), tm1 10 (by decide +kernel), by decide +kernel, ⟨by decide +kernel, by decide +kernel⟩, by decide +kernel, Or.inl ⟨rfl, rfl, by decide, tm5 137 (by decide +kernel), tm5 138 (by decide +kernel)⟩⟩
theorem mok_125 : MOK 125 := ⟨rfl, tm5 143 (by decide +kernel), tm1 10 (by decide +kernel), by decide +kernel, ⟨by decide +kernel, by decide +kernel⟩, by decide +kernel, Or.inl ⟨rfl, rfl, by decide, tm5 142 (by decide +kernel), tm0 32 (by decide +kernel)⟩⟩
theorem mok_126 : MOK 126 := ⟨rfl, tm5 154 (by decide +kernel), tm1 10 (by decide +kernel), by decide +kernel, ⟨by decide +kernel, by decide +kernel⟩, by decide +kernel, Or.inl ⟨rfl, rfl, by decide, tm5 152 (by decide +kernel), tm5 153 (by decide +kernel)⟩⟩
theorem mok_127 : MOK 127 := ⟨rfl, tm5 166 (by decide +kernel), tm1 10 (by decide +kernel), by decide +kernel, ⟨by decide +kernel, by decide +kernel⟩, by decide +kernel, Or.inl ⟨rfl, rfl, by decide, tm5 164 (by decide +kernel), tm5 165 (by decide +kernel)⟩⟩
theorem mok_128 : MOK 128 := ⟨rfl, tm1 22 (by decide +kernel), tm1 1 (by decide +kernel), by decide +kernel, ⟨by decide +kernel, by decide +kernel⟩, by decide +kernel, Or.inr (Or.inl ⟨rfl, rfl, by decide, rfl, rfl, tm1 21 (by decide +kernel)⟩)⟩
theorem mok_129 : MOK 129 := ⟨rfl, tm2 221 (by decide +kernel), tm1 1 (by decide +kernel), by decide +kernel, ⟨by decide +kernel, by decide +kernel⟩, by decide +kernel, Or.inl ⟨rfl, rfl, by decide, tm2 220 (by decide +kernel), tm0 1 (by decide +kernel)⟩⟩
theorem mok_130 : MOK 130 := ⟨rfl, tm2 217 (by decide +kernel), tm1 1 (by decide +kernel), by decide +kernel, ⟨by decide +kernel, by decide +kernel⟩, by decide +kernel, Or.inl ⟨rfl, rfl, by decide, tm2 216 (by decide +kernel), tm0 0 (by decide +kernel)⟩⟩
theorem mok_131 : MOK 131 := ⟨rfl, tm3 29 (by decide +kernel), tm1 1 (by decide +kernel), by decide +kernel, ⟨by decide +kernel, by decide +kernel⟩, by decide +kernel, Or.inl ⟨rfl, rfl, by decide, tm3 28 (by decide +kernel), tm0 3 (by decide +kernel)⟩⟩
theorem mok_132 : MOK 132 := ⟨rfl, tm3 197 (by decide +kernel), tm1 1 (by decide +kernel), by decide +kernel, ⟨by decide +kernel, by decide +kernel⟩, by decide +kernel, Or.inl ⟨rfl, rfl, by decide, tm3 196 (by decide +kernel), tm0 19 (by decide +kernel)⟩⟩
theorem mok_133 : MOK 133 := ⟨rfl, tm3 73 (by decide +kernel), tm1 1 (by decide +kernel), by decide +kernel, ⟨by decide +kernel, by decide +kernel⟩, by decide +kernel, Or.inl ⟨rfl, rfl, by decide, tm3 72 (by decide +kernel), tm0 10 (by decide +kernel)⟩⟩
theorem mok_134 : MOK 134 := ⟨rfl, tm4 51 (by decide +kernel), tm1 1 (by decide +kernel), by decide +kernel, ⟨by decide +kernel, by decide +kernel⟩, by decide +kernel, Or.inr (Or.inr ⟨rfl, rfl, tm4 50 (by decide +kernel)⟩)⟩
theorem mok_135 : MOK 135 := ⟨rfl, tm2 213 (by decide +kernel), tm1 1 (by decide +kernel), by decide +kernel, ⟨by decide +kernel, by decide +kernel⟩, by decide +kernel, Or.inl ⟨rfl, rfl, by decide, tm2 211 (by decide +kernel), tm2 212 (by decide +kernel)⟩⟩
theorem mok_136 : MOK 136 := ⟨rfl, tm3 37 (by decide +kernel), tm1 1 (by decide +kernel), by decide +kernel, ⟨by decide +kernel, by decide +kernel⟩, by decide +kernel, Or.inl ⟨rfl, rfl, by decide, tm3 35 (by decide +kernel), tm3 36 (by decide +kernel)⟩⟩
theorem mok_137 : MOK 137 := ⟨rfl, tm3 77 (by decide +kernel), tm1 1 (by decide +kernel), by decide +kernel, ⟨by decide +kernel, by decide +kernel⟩, by decide +kernel, Or.inl ⟨rfl, rfl, by decide, tm3 75 (by decide +kernel), tm3 76 (by decide +kernel)⟩⟩
theorem mok_138 : MOK 138 := ⟨rfl, tm3 81 (by decide +kernel), tm1 1 (by decide +kernel), by decide +kernel, ⟨by decide +kernel, by decide +kernel⟩, by decide +kernel, Or.inl ⟨rfl, rfl, by decide, tm3 79 (by decide +kernel), tm3 80 (by decide +kernel)⟩⟩
theorem mok_139 : MOK 139 := ⟨rfl, tm3 89 (by decide +kernel), tm1 1 (by decide +kernel), by decide +kernel, ⟨by decide +kernel, by decide +kernel⟩, by decide +kernel, Or.inl ⟨rfl, rfl, by decide, tm3 87 (by decide +kernel), tm3 88 (by decide +kernel)⟩⟩
theorem mok_140 : MOK 140 := ⟨rfl, tm3 185 (by decide +kernel), tm1 1 (by decide +kernel), by decide +kernel, ⟨by decide +kernel, by decide +kernel⟩, by decide +kernel, Or.inl ⟨rfl, rfl, by decide, tm3 183 (by decide +kernel), tm3 184 (by decide +kernel)⟩⟩
theorem mok_141 : MOK 141 := ⟨rfl, tm3 189 (by decide +kernel), tm1 1 (by decide +kernel), by decide +kernel, ⟨by decide +kernel, by decide +kernel⟩, by decide +kernel, Or.inl ⟨rfl, rfl, by decide, tm3 187 (by decide +kernel), tm3 188 (by decide +kernel)⟩⟩
theorem mok_142 : MOK 142 := ⟨rfl, tm3 93 (by decide +kernel), tm1 1 (by decide +kernel), by decide +kernel, ⟨by decide +kernel, by decide +kernel⟩, by decide +kernel, Or.inl ⟨rfl, rfl, by decide, tm3 92 (by decide +kernel), tm0 11 (by decide +kernel)⟩⟩
theorem mok_143 : MOK 143 := ⟨rfl, tm3 162 (by decide +kernel), tm1 1 (by decide +kernel), by decide +kernel, ⟨by decide +kernel, by decide +kernel⟩, by decide +kernel, Or.inl ⟨rfl, rfl, by decide, tm3 161 (by decide +kernel), tm0 17 (by decide +kernel)⟩⟩
theorem mok_144 : MOK 144 := ⟨rfl, tm3 193 (by decide +kernel), tm1 1 (by decide +kernel), by decide +kernel, ⟨by decide +kernel, by decide +kernel⟩, by decide +kernel, Or.inl ⟨rfl, rfl, by decide, tm3 191 (by decide +kernel), tm3 192 (by decide +kernel)⟩⟩
theorem mok_145 : MOK 145 := ⟨rfl, tm3 207 (by decide +kernel), tm1 1 (by decide +kernel), by decide +kernel, ⟨by decide +kernel, by decide +kernel⟩, by decide +kernel, Or.inl ⟨rfl, rfl, by decide, tm3 205 (by decide +kernel), tm3 206 (by decide +kernel)⟩⟩
theorem mok_146 : MOK 146 := ⟨rfl, tm3 215 (by decide +kernel), tm1 1 (by decide +kernel), by decide +kernel, ⟨by decide +kernel, by decide +kernel⟩, by decide +kernel, Or.inl ⟨rfl, rfl, by decide, tm3 213 (by decide +kernel), tm3 214 (by decide +kernel)⟩⟩
theorem mok_147 : MOK 147 := ⟨rfl, tm3 227 (by decide +kernel), tm1 1 (by decide +kernel), by decide +kernel, ⟨by decide +kernel, by decide +kernel⟩, by decide +kernel, Or.inl ⟨rfl, rfl, by decide, tm3 225 (by decide +kernel), tm3 226 (by decide +kernel)⟩⟩
theorem mok_148 : MOK 148 := ⟨rfl, tm3 231 (by decide +kernel), tm1 1 (by decide +kernel), by decide +kernel, ⟨by decide +kernel, by decide +kernel⟩, by decide +kernel, Or.inl ⟨rfl, rfl, by decide, tm3 229 (by decide +kernel), tm3 230 (by decide +kernel)⟩⟩
theorem mok_149 : MOK 149 := ⟨rfl, tm3 235 (by decide +kernel), tm1 1 (by decide +kernel), by decide +kernel, ⟨by decide +kernel, by decide +kernel⟩, by decide +kernel, Or.inl ⟨rfl, rfl, by decide, tm3 233 (by decide +kernel), tm3 234 (by decide +kernel)⟩⟩
theorem mok_150 : MOK 150 := ⟨rfl, tm4 3 (by decide +kernel), tm1 1 (by decide +kernel), by decide +kernel, ⟨by decide +kernel, by decide +kernel⟩, by decide +kernel, Or.inl ⟨rfl, rfl, by decide, tm4 1 (by decide +kernel), tm4 2 (by decide +kernel)⟩⟩
theorem mok_151 : MOK 151 := ⟨rfl, tm4 11 (by decide +kernel), tm1 1 (by decide +kernel), by decide +kernel, ⟨by decide +kernel, by decide +kernel⟩, by decide +kernel, Or.inl ⟨rfl, rfl, by decide, tm4 9 (by decide +kernel), tm4 10 (by decide +kernel)⟩⟩
theorem mok_152 : MOK 152 := ⟨rfl, tm4 32 (by decide +kernel), tm1 1 (by decide +kernel), by decide +kernel, ⟨by decide +kernel, by decide +kernel⟩, by decide +kernel, Or.inl ⟨rfl, rfl, by decide, tm4 30 (by decide +kernel), tm4 31 (by decide +kernel)⟩⟩
theorem mok_153 : MOK 153 := ⟨rfl, tm4 48 (by decide +kernel), tm1 1 (by decide +kernel), by decide +kernel, ⟨by decide +kernel, by decide +kernel⟩, by decide +kernel, Or.inl ⟨rfl, rfl, by decide, tm4 46 (by decide +kernel), tm4 47 (by decide +kernel)⟩⟩
theorem mok_154 : MOK 154 := ⟨rfl, tm4 130 (by decide +kernel), tm1 1 (by decide +kernel), by decide +kernel, ⟨by decide +kernel, by decide +kernel⟩, by decide +kernel, Or.inl ⟨rfl, rfl, by decide, tm4 128 (by decide +kernel), tm4 129 (by decide +kernel)⟩⟩
theorem mok_155 : MOK 155 := ⟨rfl, tm4 55 (by decide +kernel), tm1 1 (by decide +kernel), by decide +kernel, ⟨by decide +kernel, by decide +kernel⟩, by decide +kernel, Or.inl ⟨rfl, rfl, by decide, tm4 54 (by decide +kernel), tm0 20 (by decide +kernel)⟩⟩
theorem mok_156 : MOK 156 := ⟨rfl, tm4 138 (by decide +kernel), tm1 1 (by decide +kernel), by decide +kernel, ⟨by decide +kernel, by decide +kernel⟩, by decide +kernel, Or.inl ⟨rfl, rfl, by decide, tm4 136 (by decide +kernel), tm4 137 (by decide +kernel)⟩⟩
theorem mok_157 : MOK 157 := ⟨rfl, tm4 159 (by decide +kernel), tm1 1 (by decide +kernel), by decide +kernel, ⟨by decide +kernel, by decide +kernel⟩, by decide +kernel, Or.inl ⟨rfl, rfl, by decide, tm4 157 (by decide +kernel), tm4 158 (by decide +kernel)⟩⟩
theorem mok_158 : MOK 158 := ⟨rfl, tm4 170 (by decide +kernel), tm1 1 (by decide +kernel), by decide +kernel, ⟨by decide +kernel, by decide +kernel⟩, by decide +kernel, Or.inl ⟨rfl, rfl, by decide, tm4 168 (by decide +kernel), tm4 169 (by decide +kernel)⟩⟩
theorem mok_159 : MOK 159 := ⟨rfl, tm4 178 (by decide +kernel), tm1 1 (by decide +kernel), by decide +kernel, ⟨by decide +kernel, by decide +kernel⟩, by decide +kernel, Or.inl ⟨rfl, rfl, by decide, tm4 176 (by decide +kernel), tm4 177 (by decide +kernel)⟩⟩
theorem mok_160 : MOK 160 := ⟨rfl, tm4 194 (by decide +kernel), tm1 1 (by decide +kernel), by decide +kernel, ⟨by decide +kernel, by decide +kernel⟩, by decide +kernel, Or.inl ⟨rfl, rfl, by decide, tm4 192 (by decide +kernel), tm4 193 (by decide +kernel)⟩⟩
theorem mok_161 : MOK 161 := ⟨rfl, tm4 210 (by decide +kernel), tm1 1 (by decide +kernel), by decide +kernel, ⟨by decide +kernel, by decide +kernel⟩, by decide +kernel, Or.inl ⟨rfl, rfl, by decide, tm4 208 (by decide +kernel), tm4 209 (by decide +kernel)⟩⟩
theorem mok_162 : MOK 162 := ⟨rfl, tm4 214 (by decide +kernel), tm1 1 (by decide +kernel), by decide +kernel, ⟨by decide +kernel, by decide +kernel⟩, by decide +kernel, Or.inl ⟨rfl, rfl, by decide, tm4 212 (by decide +kernel), tm4 213 (by decide +kernel)⟩⟩
theorem mok_163 : MOK 163 := ⟨rfl, tm4 230 (by decide +kernel), tm1 1 (by decide +kernel), by decide +kernel, ⟨by decide +kernel, by decide +kernel⟩, by decide +kernel, Or.inl ⟨rfl, rfl, by decide, tm4 228 (by decide +kernel), tm4 229 (by decide +kernel)⟩⟩
theorem mok_164 : MOK 164 := ⟨rfl, tm4 234 (by decide +kernel), tm1 1 (by decide +kernel), by decide +kernel, ⟨by decide +kernel, by decide +kernel⟩, by decide +kernel, Or.inl ⟨rfl, rfl, by decide, tm4 232 (by decide +kernel), tm4 233 (by decide +kernel)⟩⟩
theorem mok_165 : MOK 165 := ⟨rfl, tm4 218 (by decide +kernel), tm1 1 (by decide +kernel), by decide +kernel, ⟨by decide +kernel, by decide +kernel⟩, by decide +kernel, Or.inl ⟨rfl, rfl, by decide, tm4 217 (by decide +kernel), tm0 22 (by decide +kernel)⟩⟩
theorem mok_166 : MOK 166 := ⟨rfl, tm4 222 (by decide +kernel), tm1 1 (by decide +kernel), by decide +kernel, ⟨by decide +kernel, by decide +kernel⟩, by decide +kernel, Or.inl ⟨rfl, rfl, by decide, tm4 221 (by decide +kernel), tm0 23 (by decide +kernel)⟩⟩
theorem mok_167 : MOK 167 := ⟨rfl, tm4 238 (by decide +kernel), tm1 1 (by decide +kernel), by decide +kernel, ⟨by decide +kernel, by decide +kernel⟩, by decide +kernel, Or.inl ⟨rfl, rfl, by decide, tm4 236 (by decide +kernel), tm4 237 (by decide +kernel)⟩⟩
theorem mok_168 : MOK 168 := ⟨rfl, tm5 6 (by decide +kernel), tm1 1 (by decide +kernel), by decide +kernel, ⟨by decide +kernel, by decide +kernel⟩, by decide +kernel, Or.inl ⟨rfl, rfl, by decide, tm5 4 (by decide +kernel), tm5 5 (by decide +kernel)⟩⟩
theorem mok_169 : MOK 169 := ⟨rfl, tm5 2 (by decide +kernel), tm1 1 (by decide +kernel), by decide +kernel, ⟨by decide +kernel, by decide +kernel⟩, by decide +kernel, Or.inl ⟨rfl, rfl, by decide, tm5 1 (by decide +kernel), tm0 24 (by decide +kernel)⟩⟩
theorem mok_170 : MOK 170 := ⟨rfl, tm5 10 (by decide +kernel), tm1 1 (by decide +kernel), by decide +kernel, ⟨by decide +kernel, by decide +kernel⟩, by decide +kernel, Or.inl ⟨rfl, rfl, by decide, tm5 8 (by decide +kernel), tm5 9 (by decide +kernel)⟩⟩
theorem mok_171 : MOK 171 := ⟨rfl, tm5 14 (by decide +kernel), tm1 1 (by decide +kernel), by decide +kernel, ⟨by decide +kernel, by decide +kernel⟩, by decide +kernel, Or.inl ⟨rfl, rfl, by decide, tm5 12 (by decide +kernel), tm5 13 (by decide +kernel)⟩⟩
theorem mok_172 : MOK 172 := ⟨rfl, tm5 26 (by decide +kernel), tm1 1 (by decide +kernel), by decide +kernel, ⟨by decide +kernel, by decide +kernel⟩, by decide +kernel, Or.inl ⟨rfl, rfl, by decide, tm5 24 (by decide +kernel), tm5 25 (by decide +kernel)⟩⟩
theorem mok_173 : MOK 173 := ⟨rfl, tm5 43 (by decide +kernel), tm1 1 (by decide +kernel), by decide +kernel, ⟨by decide +kernel, by decide +kernel⟩, by decide +kernel, Or.inl ⟨rfl, rfl, by decide, tm5 41 (by decide +kernel), tm5 42 (by decide +kernel)⟩⟩
theorem mok_174 : MOK 174 := ⟨rfl, tm5 51 (by decide +kernel), tm1 1 (by decide +kernel), by decide +kernel, ⟨by decide +kernel, by decide +kernel⟩, by decide +kernel, Or.inl ⟨rfl, rfl, by decide, tm5 49 (by decide +kernel), tm5 50 (by decide +kernel)⟩⟩
theorem mok_175 : MOK 175 := ⟨rfl, tm5 69 (by decide +kernel), tm1 1 (by decide +kernel), by decide +kernel, ⟨by decide +kernel, by decide +kernel⟩, by decide +kernel, Or.inl ⟨rfl, rfl, by decide, tm5 67 (by decide +kernel), tm5 68 (by decide +kernel)⟩⟩
theorem mok_176 : MOK 176 := ⟨rfl, tm5 73 (by decide +kernel), tm1 1 (by decide +kernel), by decide +kernel, ⟨by decide +kernel, by decide +kernel⟩, by decide +kernel, Or.inl ⟨rfl, rfl, by decide, tm5 71 (by decide +kernel), tm5 72 (by decide +kernel)⟩⟩
theorem mok_177 : MOK 177 := ⟨rfl, tm5 78 (by decide +kernel), tm1 1 (by decide +kernel), by decide +kernel, ⟨by decide +kernel, by decide +kernel⟩, by decide +kernel, Or.inl ⟨rfl, rfl, by decide, tm5 76 (by decide +kernel), tm5 77 (by decide +kernel)⟩⟩
theorem mok_178 : MOK 178 := ⟨rfl, tm5 135 (by decide +kernel), tm1 1 (by decide +kernel), by decide +kernel, ⟨by decide +kernel, by decide +kernel⟩, by decide +kernel, Or.inl ⟨rfl, rfl, by decide, tm5 133 (by decide +kernel), tm5 134 (by decide +kernel)⟩⟩
theorem mok_179 : MOK 179 := ⟨rfl, tm5 162 (by decide +kernel), tm1 1 (by decide +kernel), by decide +kernel, ⟨by decide +kernel, by decide +kernel⟩, by decide +kernel, Or.inl ⟨rfl, rfl, by decide, tm5 160 (by decide +kernel), tm5 161 (by decide +kernel)⟩⟩
theorem mok_180 : MOK 180 := ⟨rfl, tm5 172 (by decide +kernel), tm1 1 (by decide +kernel), by decide +kernel, ⟨by decide +kernel, by decide +kernel⟩, by decide +kernel, Or.inl ⟨rfl, rfl, by decide, tm5 170 (by decide +kernel), tm5 171 (by decide +kernel)⟩⟩
theorem mok_181 : MOK 181 := ⟨rfl, tm5 214 (by decide +kernel), tm1 1 (by decide +kernel), by decide +kernel, ⟨by decide +kernel, by decide +kernel⟩, by decide +kernel, Or.inl ⟨rfl, rfl, by decide, tm5 212 (by decide +kernel), tm5 213 (by decide +kernel)⟩⟩
theorem mok_182 : MOK 182 := ⟨rfl, tm5 230 (by decide +kernel), tm1 1 (by decide +kernel), by decide +kernel, ⟨by decide +kernel, by decide +kernel⟩, by decide +kernel, Or.inl ⟨rfl, rfl, by decide, tm5 228 (by decide +kernel), tm5 229 (by decide +kernel)⟩⟩
theorem mok_183 : MOK 183 := ⟨rfl, tm6 2 (by decide +kernel), tm1 1 (by decide +kernel), by decide +kernel, ⟨by decide +kernel, by decide +kernel⟩, by decide +kernel, Or.inl ⟨rfl, rfl, by decide, tm6 0 (by decide +kernel), tm6 1 (by decide +kernel)⟩⟩
theorem mok_184 : MOK 184 := ⟨rfl, tm6 11 (by decide +kernel), tm1 1 (by decide +kernel), by decide +kernel, ⟨by decide +kernel, by decide +kernel⟩, by decide +kernel, Or.inl ⟨rfl, rfl, by decide, tm6 9 (by decide +kernel), tm6 10 (by decide +kernel)⟩⟩
theorem mok_185 : MOK 185 := ⟨rfl, tm6 31 (by decide +kernel), tm1 1 (by decide +kernel), by decide +kernel, ⟨by decide +kernel, by decide +kernel⟩, by decide +kernel, Or.inl ⟨rfl, rfl, by decide, tm6 29 (by decide +kernel), tm6 30 (by decide +kernel)⟩⟩
theorem mok_186 : MOK 186 := ⟨rfl, tm6 42 (by decide +kernel), tm1 1 (by decide +kernel), by decide +kernel, ⟨by decide +kernel, by decide +kernel⟩, by decide +kernel, Or.inl ⟨rfl, rfl, by decide, tm6 40 (by decide +kernel), tm6 41 (by decide +kernel)⟩⟩
theorem mok_187 : MOK 187 := ⟨rfl, tm6 46 (by decide +kernel), tm1 1 (by decide +kernel), by decide +kernel, ⟨by decide +kernel, by decide +kernel⟩, by decide +kernel, Or.inl ⟨rfl, rfl, by decide, tm6 44 (by decide +kernel), tm6 45 (by decide +kernel)⟩⟩
theorem mok_188 : MOK 188 := ⟨rfl, tm6 62 (by decide +kernel), tm1 13 (by decide +kernel), by decide +kernel, ⟨by decide +kernel, by decide +kernel⟩, by decide +kernel, Or.inr (Or.inl ⟨rfl, rfl, by decide, rfl, rfl, tm6 61 (by decide +kernel)⟩)⟩
theorem mok_189 : MOK 189 := ⟨rfl, tm7 6 (by decide +kernel), tm1 13 (by decide +kernel), by decide +kernel, ⟨by decide +kernel, by decide +kernel⟩, by decide +kernel, Or.inr (Or.inr ⟨rfl, rfl, tm7 5 (by decide +kernel)⟩)⟩
theorem mok_190 : MOK 190 := ⟨rfl, tm7 238 (by decide +kernel), tm1 13 (by decide +kernel), by decide +kernel, ⟨by decide +kernel, by decide +kernel⟩, by decide +kernel, Or.inr (Or.inr ⟨rfl, rfl, tm7 237 (by decide +kernel)⟩)⟩
theorem mok_191 : MOK 191 := ⟨rfl, tm7 18 (by decide +kernel), tm1 13 (by decide +kernel), by decide +kernel, ⟨by decide +kernel, by decide +kernel⟩, by decide +kernel, Or.inl ⟨rfl, rfl, by decide, tm7 17 (by decide +kernel), tm0 44 (by decide +kernel)⟩⟩
theorem mok_192 : MOK 192 := ⟨rfl, tm7 3 (by decide +kernel), tm1 13 (by decide +kernel), by decide +kernel, ⟨by decide +kernel, by decide +kernel⟩, by decide +kernel, Or.inl ⟨rfl, rfl, by decide, tm7 2 (by decide +kernel), tm0 41 (by decide +kernel)⟩⟩
theorem mok_193 : MOK 193 := ⟨rfl, tm7 231 (by decide +kernel), tm1 13 (by decide +kernel), by decide +kernel, ⟨by decide +kernel, by decide +kernel⟩, by decide +kernel, Or.inl ⟨rfl, rfl, by decide, tm7 230 (by decide +kernel), tm0 80 (by decide +kernel)⟩⟩
theorem mok_194 : MOK 194 := ⟨rfl, tm7 14 (by decide +kernel), tm1 13 (by decide +kernel), by decide +kernel, ⟨by decide +kernel, by decide +kernel⟩, by decide +kernel, Or.inl ⟨rfl, rfl, by decide, tm7 13 (by decide +kernel), tm0 43 (by decide +kernel)⟩⟩
theorem mok_195 : MOK 195 := ⟨rfl, tm7 98 (by decide +kernel), tm1 13 (by decide +kernel), by decide +kernel, ⟨by decide +kernel, by decide +kernel⟩, by decide +kernel, Or.inl ⟨rfl, rfl, by decide, tm7 97 (by decide +kernel), tm0 55 (by decide +kernel)⟩⟩
theorem mok_196 : MOK 196 := ⟨rfl, tm7 10 (by decide +kernel), tm1 13 (by decide +kernel), by decide +kernel, ⟨by decide +kernel, by decide +kernel⟩, by decide +kernel, Or.inl ⟨rfl, rfl, by decide, tm7 9 (by decide +kernel), tm0 42 (by decide +kernel)⟩⟩
theorem mok_197 : MOK 197 := ⟨rfl, tm7 22 (by decide +kernel), tm1 13 (by decide +kernel), by decide +kernel, ⟨by decide +kernel, by decide +kernel⟩, by decide +kernel, Or.inl ⟨rfl, rfl, by decide, tm7 21 (by decide +kernel), tm0 45 (by decide +kernel)⟩⟩
theorem mok_198 : MOK 198 := ⟨rfl, tm7 26 (by decide +kernel), tm1 13 (by decide +kernel), by decide +kernel, ⟨by decide +kernel, by decide +kernel⟩, by decide +kernel, Or.inl ⟨rfl, rfl, by decide, tm7 25 (by decide +kernel), tm0 46 (by decide +kernel)⟩⟩
theorem mok_199 : MOK 199 := ⟨rfl, tm7 30 (by decide +kernel), tm1 13 (by decide +kernel), by decide +kernel, ⟨by decide +kernel, by decide +kernel⟩, by decide +kernel, Or.inl ⟨rfl, rfl, by decide, tm7 29 (by decide +kernel), tm0 47 (by decide +kernel)⟩⟩
theorem mok_200 : MOK 200 := ⟨rfl, tm7 34 (by decide +kernel), tm1 13 (by decide +kernel), by decide +kernel, ⟨by decide +kernel, by decide +kernel⟩, by decide +kernel, Or.inl ⟨rfl, rfl, by decide, tm7 33 (by decide +kernel), tm0 48 (by decide +kernel)⟩⟩
theorem mok_201 : MOK 201 := ⟨rfl, tm6 239 (by decide +kernel), tm1 13 (by decide +kernel), by decide +kernel, ⟨by decide +kernel, by decide +kernel⟩, by decide +kernel, Or.inl ⟨rfl, rfl, by decide, tm6 237 (by decide +kernel), tm6 238 (by decide +kernel)⟩⟩
theorem mok_202 : MOK 202 := ⟨rfl, tm7 38 (by decide +kernel), tm1 13 (by decide +kernel), by decide +kernel, ⟨by decide +kernel, by decide +kernel⟩, by decide +kernel, Or.inl ⟨rfl, rfl, by decide, tm7 36 (by decide +kernel), tm7 37 (by decide +kernel)⟩⟩
theorem mok_203 : MOK 203 := ⟨rfl, tm7 42 (by decide +kernel), tm1 13 (by decide +kernel), by decide +kernel, ⟨by decide +kernel, by decide +kernel⟩, by decide +kernel, Or.inl ⟨rfl, rfl, by decide, tm7 40 (by decide +kernel), tm7 41 (by decide +kernel)⟩⟩
theorem mok_204 : MOK 204 := ⟨rfl, tm8 115 (by decide +kernel), tm1 13 (by decide +kernel), by decide +kernel, ⟨by decide +kernel, by decide +kernel⟩, by decide +kernel, Or.inl ⟨rfl, rfl, by decide, tm8 114 (by decide +kernel), tm0 85 (by decide +kernel)⟩⟩
theorem mok_205 : MOK 205 := ⟨rfl, tm7 118 (by decide +kernel), tm1 13 (by decide +kernel), by decide +kernel, ⟨by decide +kernel, by decide +kernel⟩, by decide +kernel, Or.inl ⟨rfl, rfl, by decide, tm7 117 (by decide +kernel), tm0 60 (by decide +kernel)⟩⟩
theorem mok_206 : MOK 206 := ⟨rfl, tm7 54 (by decide +kernel), tm1 13 (by decide +kernel), by decide +kernel, ⟨by decide +kernel, by decide +kernel⟩, by decide +kernel, Or.inl ⟨rfl, rfl, by decide, tm7 53 (by decide +kernel), tm0 50 (by decide +kernel)⟩⟩
theorem mok_207 : MOK 207 := ⟨rfl, tm7 50 (by decide +kernel), tm1 13 (by decide +kernel), by decide +kernel, ⟨by decide +kernel, by decide +kernel⟩, by decide +kernel, Or.inl ⟨rfl, rfl, by decide, tm7 49 (by decide +kernel), tm0 49 (by decide +kernel)⟩⟩
theorem mok_208 : MOK 208 := ⟨rfl, tm7 106 (by decide +kernel), tm1 13 (by decide +kernel), by decide +kernel, ⟨by decide +kernel, by decide +kernel⟩, by decide +kernel, Or.inl ⟨rfl, rfl, by decide, tm7 105 (by decide +kernel), tm0 57 (by decide +kernel)⟩⟩
theorem mok_209 : MOK 209 := ⟨rfl, tm7 102 (by decide +kernel), tm1 13 (by decide +kernel), by decide +kernel, ⟨by decide +kernel, by decide +kernel⟩, by decide +kernel, Or.inl ⟨rfl, rfl, by decide, tm7 101 (by decide +kernel), tm0 56 (by decide +kernel)⟩⟩
theorem mok_210 : MOK 210 := ⟨rfl, tm7 66 (by decide +kernel), tm1 13 (by decide +kernel), by decide +kernel, ⟨by decide +kernel, by decide +kernel⟩, by decide +kernel, Or.inl ⟨rfl, rfl, by decide, tm7 65 (by decide +kernel), tm0 51 (by decide +kernel)⟩⟩
theorem mok_211 : MOK 211 := ⟨rfl, tm7 46 (by decide +kernel), tm1 13 (by decide +kernel), by decide +kernel, ⟨by decide +kernel, by decide +kernel⟩, by decide +kernel, Or.inl ⟨rfl, rfl, by decide, tm7 44 (by decide +kernel), tm7 45 (by decide +kernel)⟩⟩
theorem mok_212 : MOK 212 := ⟨rfl, tm7 58 (by decide +kernel), tm1 13 (by decide +kernel), by decide +kernel, ⟨by decide +kernel, by decide +kernel⟩, by decide +kernel, Or.inl ⟨rfl, rfl, by decide, tm7 56 (by decide +kernel), tm7 57 (by decide +kernel)⟩⟩
theorem mok_213 : MOK 213 := ⟨rfl, tm7 62 (by decide +kernel), tm1 13 (by decide +kernel), by decide +kernel, ⟨by decide +kernel, by decide +kernel⟩, by decide +kernel, Or.inl ⟨rfl, rfl, by decide, tm7 60 (by decide +kernel), tm7 61 (by decide +kernel)⟩⟩
theorem mok_214 : MOK 214 := ⟨rfl, tm8 180 (by decide +kernel), tm1 13 (by decide +kernel), by decide +kernel, ⟨by decide +kernel, by decide +kernel⟩, by decide +kernel, Or.inl ⟨rfl, rfl, by decide, tm8 179 (by decide +kernel), tm0 92 (by decide +kernel)⟩⟩
theorem mok_215 : MOK 215 := ⟨rfl, tm7 70 (by decide +kernel), tm1 13 (by decide +kernel), by decide +kernel, ⟨by decide +kernel, by decide +kernel⟩, by decide +kernel, Or.inl ⟨rfl, rfl, by decide, tm7 68 (by decide +kernel), tm7 69 (by decide +kernel)⟩⟩
theorem mok_216 : MOK 216 := ⟨rfl, tm7 74 (by decide +kernel), tm1 13 (by decide +kernel), by decide +kernel, ⟨by decide +kernel, by decide +kernel⟩, by decide +kernel, Or.inl ⟨rfl, rfl, by decide, tm7 72 (by decide +kernel), tm7 73 (by decide +kernel)⟩⟩
theorem mok_217 : MOK 217 := ⟨rfl, tm7 78 (by decide +kernel), tm1 13 (by decide +kernel), by decide +kernel, ⟨by decide +kernel, by decide +kernel⟩, by decide +kernel, Or.inl ⟨rfl, rfl, by decide, tm7 76 (by decide +kernel), tm7 77 (by decide +kernel)⟩⟩
theorem mok_218 : MOK 218 := ⟨rfl, tm7 90 (by decide +kernel), tm1 13 (by decide +kernel), by decide +kernel, ⟨by decide +kernel, by decide +kernel⟩, by decide +kernel, Or.inl ⟨rfl, rfl, by decide, tm7 89 (by decide +kernel), tm0 53 (by decide +kernel)⟩⟩
theorem mok_219 : MOK 219 := ⟨rfl, tm7 94 (by decide +kernel), tm1 13 (by decide +kernel), by decide +kernel, ⟨by decide +kernel, by decide +kernel⟩, by decide +kernel, Or.inl ⟨rfl, rfl, by decide, tm7 93 (by decide +kernel), tm0 54 (by decide +kernel)⟩⟩
theorem mok_220 : MOK 220 := ⟨rfl, tm7 110 (by decide +kernel), tm1 13 (by decide +kernel), by decide +kernel, ⟨by decide +kernel, by decide +kernel⟩, by decide +kernel, Or.inl ⟨rfl, rfl, by decide, tm7 109 (by decide +kernel), tm0 58 (by decide +kernel)⟩⟩
theorem mok_221 : MOK 221 := ⟨rfl, tm7 122 (by decide +kernel), tm1 13 (by decide +kernel), by decide +kernel, ⟨by decide +kernel, by decide +kernel⟩, by decide +kernel, Or.inl ⟨rfl, rfl, by decide, tm7 121 (by decide +kernel), tm0 61 (by decide +kernel)⟩⟩
theorem mok_222 : MOK 222 := ⟨rfl, tm7 126 (by decide +kernel), tm1 13 (by decide +kernel), by decide +kernel, ⟨by decide +kernel, by decide +kernel⟩, by decide +kernel, Or.inl ⟨rfl, rfl, by decide, tm7 125 (by decide +kernel), tm0 62 (by decide +kernel)⟩⟩
theorem mok_223 : MOK 223 := ⟨rfl, tm7 114 (by decide +kernel), tm1 13 (by decide +kernel), by decide +kernel, ⟨by decide +kernel, by decide +kernel⟩, by decide +kernel, Or.inl ⟨rfl, rfl, by decide, tm7 113 (by decide +kernel), tm0 59 (by decide +kernel)⟩⟩
theorem mok_224 : MOK 224 := ⟨rfl, tm7 130 (by decide +kernel), tm1 13 (by decide +kernel), by decide +kernel, ⟨by decide +kernel, by decide +kernel⟩, by decide +kernel, Or.inl ⟨rfl, rfl, by decide, tm7 129 (by decide +kernel), tm0 63 (by decide +kernel)⟩⟩
theorem mok_225 : MOK 225 := ⟨rfl, tm7 134 (by decide +kernel), tm1 13 (by decide +kernel), by decide +kernel, ⟨by decide +kernel, by decide +kernel⟩, by decide +kernel, Or.inl ⟨rfl, rfl, by decide, tm7 133 (by decide +kernel), tm0 64 (by decide +kernel)⟩⟩
theorem mok_226 : MOK 226 := ⟨rfl, tm7 142 (by decide +kernel), tm1 13 (by decide +kernel), by decide +kernel, ⟨by decide +kernel, by decide +kernel⟩, by decide +kernel, Or.inl ⟨rfl, rfl, by decide, tm7 141 (by decide +kernel), tm0 66 (by decide +kernel)⟩⟩
theorem mok_227 : MOK 227 := ⟨rfl, tm7 163 (by decide +kernel), tm1 13 (by decide +kernel), by decide +kernel, ⟨by decide +kernel, by decide +kernel⟩, by decide +kernel, Or.inl ⟨rfl, rfl, by decide, tm7 162 (by decide +kernel), tm0 71 (by decide +kernel)⟩⟩
theorem mok_228 : MOK 228 := ⟨rfl, tm7 138 (by decide +kernel), tm1 13 (by decide +kernel), by decide +kernel, ⟨by decide +kernel, by decide +kernel⟩, by decide +kernel, Or.inl ⟨rfl, rfl, by decide, tm7 137 (by decide +kernel), tm0 65 (by decide +kernel)⟩⟩
theorem mok_229 : MOK 229 := ⟨rfl, tm7 146 (by decide +kernel), tm1 13 (by decide +kernel), by decide +kernel, ⟨by decide +kernel, by decide +kernel⟩, by decide +kernel, Or.inl ⟨rfl, rfl, by decide, tm7 145 (by decide +kernel), tm0 67 (by decide +kernel)⟩⟩
theorem mok_230 : MOK 230 := ⟨rfl, tm7 150 (by decide +kernel), tm1 13 (by decide +kernel), by decide +kernel, ⟨by decide +kernel, by decide +kernel⟩, by decide +kernel, Or.inl ⟨rfl, rfl, by decide, tm7 149 (by decide +kernel), tm0 68 (by decide +kernel)⟩⟩
theorem mok_231 : MOK 231 := ⟨rfl, tm7 155 (by decide +kernel), tm1 13 (by decide +kernel), by decide +kernel, ⟨by decide +kernel, by decide +kernel⟩, by decide +kernel, Or.inl ⟨rfl, rfl, by decide, tm7 154 (by decide +kernel), tm0 69 (by decide +kernel)⟩⟩
theorem mok_232 : MOK 232 := ⟨rfl, tm7 159 (by decide +kernel), tm1 13 (by decide +kernel), by decide +kernel, ⟨by decide +kernel, by decide +kernel⟩, by decide +kernel, Or.inl ⟨rfl, rfl, by decide, tm7 158 (by decide +kernel), tm0 70 (by decide +kernel)⟩⟩
theorem mok_233 : MOK 233 := ⟨rfl, tm7 175 (by decide +kernel), tm1 13 (by decide +kernel), by decide +kernel, ⟨by decide +kernel, by decide +kernel⟩, by decide +kernel, Or.inl ⟨rfl, rfl, by decide, tm7 174 (by decide +kernel), tm0 74 (by decide +kernel)⟩⟩
theorem mok_234 : MOK 234 := ⟨rfl, tm7 171 (by decide +kernel), tm1 13 (by decide +kernel), by decide +kernel, ⟨by decide +kernel, by decide +kernel⟩, by decide +kernel, Or.inl ⟨rfl, rfl, by decide, tm7 170 (by decide +kernel), tm0 73 (by decide +kernel)⟩⟩
theorem mok_235 : MOK 235 := ⟨rfl, tm7 167 (by decide +kernel), tm1 13 (by decide +kernel), by decide +kernel, ⟨by decide +kernel, by decide +kernel⟩, by decide +kernel, Or.inl ⟨rfl, rfl, by decide, tm7 166 (by decide +kernel), tm0 72 (by decide +kernel)⟩⟩
theorem mok_236 : MOK 236 := ⟨rfl, tm7 179 (by decide +kernel), tm1 13 (by decide +kernel), by decide +kernel, ⟨by decide +kernel, by decide +kernel⟩, by decide +kernel, Or.inl ⟨rfl, rfl, by decide, tm7 178 (by decide +kernel), tm0 75 (by decide +kernel)⟩⟩
theorem mok_237 : MOK 237 := ⟨rfl, tm7 183 (by decide +kernel), tm1 13 (by decide +kernel), by decide +kernel, ⟨by decide +kernel, by decide +kernel⟩, by decide +kernel, Or.inl ⟨rfl, rfl, by decide, tm7 182 (by decide +kernel), tm0 76 (by decide +kernel)⟩⟩
theorem mok_238 : MOK 238 := ⟨rfl, tm7 191 (by decide +kernel), tm1 13 (by decide +kernel), by decide +kernel, ⟨by decide +kernel, by decide +kernel⟩, by decide +kernel, Or.inl ⟨rfl, rfl, by decide, tm7 190 (by decide +kernel), tm0 78 (by decide +kernel)⟩⟩
theorem mok_239 : MOK 239 := ⟨rfl, tm7 187 (by decide +kernel), tm1 13 (by decide +kernel), by decide +kernel, ⟨by decide +kernel, by decide +kernel⟩, by decide +kernel, Or.inl ⟨rfl, rfl, by decide, tm7 186 (by decide +kernel), tm0 77 (by decide +kernel)⟩⟩
theorem mok_240 : MOK 240 := ⟨rfl, tm7 86 (by decide +kernel), tm1 13 (by decide +kernel), by decide +kernel, ⟨by decide +kernel, by decide +kernel⟩, by decide +kernel, Or.inl ⟨rfl, rfl, by decide, tm7 85 (by decide +kernel), tm0 52 (by decide +kernel)⟩⟩
theorem mok_241 : MOK 241 := ⟨rfl, tm7 203 (by decide +kernel), tm1 13 (by decide +kernel), by decide +kernel, ⟨by decide +kernel, by decide +kernel⟩, by decide +kernel, Or.inl ⟨rfl, rfl, by decide, tm7 202 (by decide +kernel), tm0 79 (by decide +kernel)⟩⟩
theorem mok_242 : MOK 242 := ⟨rfl, tm7 82 (by decide +kernel), tm1 13 (by decide +kernel), by decide +kernel, ⟨by decide +kernel, by decide +kernel⟩, by decide +kernel, Or.inl ⟨rfl, rfl, by decide, tm7 80 (by decide +kernel), tm7 81 (by decide +kernel)⟩⟩
theorem mok_243 : MOK 243 := ⟨rfl, tm7 195 (by decide +kernel), tm1 13 (by decide +kernel), by decide +kernel, ⟨by decide +kernel, by decide +kernel⟩, by decide +kernel, Or.inl ⟨rfl, rfl, by decide, tm7 193 (by decide +kernel), tm7 194 (by decide +kernel)⟩⟩
theorem mok_244 : MOK 244 := ⟨rfl, tm7 199 (by decide +kernel), tm1 13 (by decide +kernel), by decide +kernel, ⟨by decide +kernel, by decide +kernel⟩, by decide +kernel, Or.inl ⟨rfl, rfl, by decide, tm7 197 (by decide +kernel), tm7 198 (by decide +kernel)⟩⟩
theorem mok_245 : MOK 245 := ⟨rfl, tm7 207 (by decide +kernel), tm1 13 (by decide +kernel), by decide +kernel, ⟨by decide +kernel, by decide +kernel⟩, by decide +kernel, Or.inl ⟨rfl, rfl, by decide, tm7 205 (by decide +kernel), tm7 206 (by decide +kernel)⟩⟩
theorem mok_246 : MOK 246 := ⟨rfl, tm7 211 (by decide +kernel), tm1 13 (by decide +kernel), by decide +kernel, ⟨by decide +kernel, by decide +kernel⟩, by decide +kernel, Or.inl ⟨rfl, rfl, by decide, tm7 209 (by decide +kernel), tm7 210 (by decide +kernel)⟩⟩
theorem mok_247 : MOK 247 := ⟨rfl, tm7 215 (by decide +kernel), tm1 13 (by decide +kernel), by decide +kernel, ⟨by decide +kernel, by decide +kernel⟩, by decide +kernel, Or.inl ⟨rfl, rfl, by decide, tm7 213 (by decide +kernel), tm7 214 (by decide +kernel)⟩⟩
theorem mok_248 : MOK 248 := ⟨rfl, tm7 219 (by decide +kernel), tm1 13 (by decide +kernel), by decide +kernel, ⟨by decide +kernel, by decide +kernel⟩, by decide +kernel, Or.inl ⟨rfl, rfl, by decide, tm7 217 (by decide +kernel), tm7 218 (by decide +kernel)⟩⟩
theorem mok_249 : MOK 249 := ⟨rfl, tm7 223 (by decide +kernel), tm1 13 (by decide +kernel), by decide +kernel, ⟨by decide +kernel, by decide +kernel⟩, by decide +kernel, Or.inl ⟨rfl, rfl, by decide, tm7 221 (by decide +kernel), tm7 222 (by decide +kernel)⟩⟩
theorem mok_250 : MOK 250 := ⟨rfl, tm7 227 (by decide +kernel), tm1 13 (by decide +kernel), by decide +kernel, ⟨by decide +kernel, by decide +kernel⟩, by decide +kernel, Or.inl ⟨rfl, rfl, by decide, tm7 225 (by decide +kernel), tm7 226 (by decide +kernel)⟩⟩
theorem mok_251 : MOK 251 := ⟨rfl, tm7 235 (by decide +kernel), tm1 13 (by decide +kernel), by decide +kernel, ⟨by decide +kernel, by decide +kernel⟩, by decide +kernel, Or.inl ⟨rfl, rfl, by decide, tm7 233 (by decide +kernel), tm7 234 (by decide +kernel)⟩⟩
theorem mok_252 : MOK 252 := ⟨rfl, tm8 5 (by decide +kernel), tm1 13 (by decide +kernel), by decide +kernel, ⟨by decide +kernel, by decide +kernel⟩, by decide +kernel, Or.inr (Or.inr ⟨rfl, rfl, tm8 4 (by decide +kernel)⟩)⟩
theorem mok_253 : MOK 253 := ⟨rfl, tm8 2 (by decide +kernel), tm1 13 (by decide +kernel), by decide +kernel, ⟨by decide +kernel, by decide +kernel⟩, by decide +kernel, Or.inl ⟨rfl, rfl, by decide, tm8 0 (by decide +kernel), tm8 1 (by decide +kernel)⟩⟩
theorem mok_254 : MOK 254 := ⟨rfl, tm8 12 (by decide +kernel), tm1 13 (by decide +kernel), by decide +kernel, ⟨by decide +kernel, by decide +kernel⟩, by decide +kernel, Or.inl ⟨rfl, rfl, by decide, tm8 10 (by decide +kernel), tm8 11 (by decide +kernel)⟩⟩
theorem mok_255 : MOK 255 := ⟨rfl, tm8 19 (by decide +kernel), tm1 13 (by decide +kernel), by decide +kernel, ⟨by decide +kernel, by decide +kernel⟩, by decide +kernel, Or.inr (Or.inr ⟨rfl, rfl, tm8 18 (by decide +kernel)⟩)⟩
theorem mok_256 : MOK 256 := ⟨rfl, tm8 16 (by decide +kernel), tm1 13 (by decide +kernel), by decide +kernel, ⟨by decide +kernel, by decide +kernel⟩, by decide +kernel, Or.inl ⟨rfl, rfl, by decide, tm8 14 (by decide +kernel), tm8 15 (by decide +kernel)⟩⟩
theorem mok_257 : MOK 257 := ⟨rfl, tm8 25 (by decide +kernel), tm1 13 (by decide +kernel), by decide +kernel, ⟨by decide +kernel, by decide +kernel⟩, by decide +kernel, Or.inl ⟨rfl, rfl, by decide, tm8 23 (by decide +kernel), tm8 24 (by decide +kernel)⟩⟩
theorem mok_258 : MOK 258 := ⟨rfl, tm8 29 (by decide +kernel), tm1 13 (by decide +kernel), by decide +kernel, ⟨by decide +kernel, by decide +kernel⟩, by decide +kernel, Or.inl ⟨rfl, rfl, by decide, tm8 27 (by decide +kernel), tm8 28 (by decide +kernel)⟩⟩
theorem mok_259 : MOK 259 := ⟨rfl, tm8 33 (by decide +kernel), tm1 13 (by decide +kernel), by decide +kernel, ⟨by decide +kernel, by decide +kernel⟩, by decide +kernel, Or.inl ⟨rfl, rfl, by decide, tm8 31 (by decide +kernel), tm8 32 (by decide +kernel)⟩⟩
theorem mok_260 : MOK 260 := ⟨rfl, tm8 37 (by decide +kernel), tm1 13 (by decide +kernel), by decide +kernel, ⟨by decide +kernel, by decide +kernel⟩, by decide +kernel, Or.inl ⟨rfl, rfl, by decide, tm8 35 (by decide +kernel), tm8 36 (by decide +kernel)⟩⟩
theorem mok_261 : MOK 261 := ⟨rfl, tm8 41 (by decide +kernel), tm1 13 (by decide +kernel), by decide +kernel, ⟨by decide +kernel, by decide +kernel⟩, by decide +kernel, Or.inl ⟨rfl, rfl, by decide, tm8 39 (by decide +kernel), tm8 40 (by decide +kernel)⟩⟩
theorem mok_262 : MOK 262 := ⟨rfl, tm8 45 (by decide +kernel), tm1 13 (by decide +kernel), by decide +kernel, ⟨by decide +kernel, by decide +kernel⟩, by decide +kernel, Or.inl ⟨rfl, rfl, by decide, tm8 43 (by decide +kernel), tm8 44 (by decide +kernel)⟩⟩
theorem mok_263 : MOK 263 := ⟨rfl, tm8 49 (by decide +kernel), tm1 13 (by decide +kernel), by decide +kernel, ⟨by decide +kernel, by decide +kernel⟩, by decide +kernel, Or.inl ⟨rfl, rfl, by decide, tm8 47 (by decide +kernel), tm8 48 (by decide +kernel)⟩⟩
theorem mok_264 : MOK 264 := ⟨rfl, tm8 53 (by decide +kernel), tm1 13 (by decide +kernel), by decide +kernel, ⟨by decide +kernel, by decide +kernel⟩, by decide +kernel, Or.inl ⟨rfl, rfl, by decide, tm8 51 (by decide +kernel), tm8 52 (by decide +kernel)⟩⟩
theorem mok_265 : MOK 265 := ⟨rfl, tm8 57 (by decide +kernel), tm1 13 (by decide +kernel), by decide +kernel, ⟨by decide +kernel, by decide +kernel⟩, by decide +kernel, Or.inl ⟨rfl, rfl, by decide, tm8 55 (by decide +kernel), tm8 56 (by decide +kernel)⟩⟩
theorem mok_266 : MOK 266 := ⟨rfl, tm8 65 (by decide +kernel), tm1 13 (by decide +kernel), by decide +kernel, ⟨by decide +kernel, by decide +kernel⟩, by decide +kernel, Or.inl ⟨rfl, rfl, by decide, tm8 64 (by decide +kernel), tm0 81 (by decide +kernel)⟩⟩
theorem mok_267 : MOK 267 := ⟨rfl, tm8 61 (by decide +kernel), tm1 13 (by decide +kernel), by decide +kernel, ⟨by decide +kernel, by decide +kernel⟩, by decide +kernel, Or.inl ⟨rfl, rfl, by decide, tm8 59 (by decide +kernel), tm8 60 (by decide +kernel)⟩⟩
theorem mok_268 : MOK 268 := ⟨rfl, tm8 69 (by decide +kernel), tm1 13 (by decide +kernel), by decide +kernel, ⟨by decide +kernel, by decide +kernel⟩, by decide +kernel, Or.inl ⟨rfl, rfl, by decide, tm8 67 (by decide +kernel), tm8 68 (by decide +kernel)⟩⟩
theorem mok_269 : MOK 269 := ⟨rfl, tm8 73 (by decide +kernel), tm1 13 (by decide +kernel), by decide +kernel, ⟨by decide +kernel, by decide +kernel⟩, by decide +kernel, Or.inl ⟨rfl, rfl, by decide, tm8 71 (by decide +kernel), tm8 72 (by decide +kernel)⟩⟩
theorem mok_270 : MOK 270 := ⟨rfl, tm8 77 (by decide +kernel), tm1 13 (by decide +kernel), by decide +kernel, ⟨by decide +kernel, by decide +kernel⟩, by decide +kernel, Or.inl ⟨rfl, rfl, by decide, tm8 75 (by decide +kernel), tm8 76 (by decide +kernel)⟩⟩
theorem mok_271 : MOK 271 := ⟨rfl, tm8 81 (by decide +kernel), tm1 13 (by decide +kernel), by decide +kernel, ⟨by decide +kernel, by decide +kernel⟩, by decide +kernel, Or.inl ⟨rfl, rfl, by decide, tm8 79 (by decide +kernel), tm8 80 (by decide +kernel)⟩⟩
theorem mok_272 : MOK 272 := ⟨rfl, tm8 89 (by decide +kernel), tm1 13 (by decide +kernel), by decide +kernel, ⟨by decide +kernel, by decide +kernel⟩, by decide +kernel, Or.inl ⟨rfl, rfl, by decide, tm8 88 (by decide +kernel), tm0 82 (by decide +kernel)⟩⟩
theorem mok_273 : MOK 273 := ⟨rfl, tm8 85 (by decide +kernel), tm1 13 (by decide +kernel), by decide +kernel, ⟨by decide +kernel, by decide +kernel⟩, by decide +kernel, Or.inl ⟨rfl, rfl, by decide, tm8 83 (by decide +kernel), tm8 84 (by decide +kernel)⟩⟩
theorem mok_274 : MOK 274 := ⟨rfl, tm8 93 (by decide +kernel), tm1 13 (by decide +kernel), by decide +kernel, ⟨by decide +kernel, by decide +kernel⟩, by decide +kernel, Or.inl ⟨rfl, rfl, by decide, tm8 91 (by decide +kernel), tm8 92 (by decide +kernel)⟩⟩
theorem mok_275 : MOK 275 := ⟨rfl, tm8 118 (by decide +kernel), tm1 13 (by decide +kernel), by decide +kernel, ⟨by decide +kernel, by decide +kernel⟩, by decide +kernel, Or.inr (Or.inr ⟨rfl, rfl, tm8 117 (by decide +kernel)⟩)⟩
theorem mok_276 : MOK 276 := ⟨rfl, tm8 122 (by decide +kernel), tm1 13 (by decide +kernel), by decide +kernel, ⟨by decide +kernel, by decide +kernel⟩, by decide +kernel, Or.inr (Or.inr ⟨rfl, rfl, tm8 121 (by decide +kernel)⟩)⟩
theorem mok_277 : MOK 277 := ⟨rfl, tm8 127 (by decide +kernel), tm1 13 (by decide +kernel), by decide +kernel, ⟨by decide +kernel, by decide +kernel⟩, by decide +kernel, Or.inl ⟨rfl, rfl, by decide, tm8 126 (by decide +kernel), tm0 86 (by decide +kernel)⟩⟩
theorem mok_278 : MOK 278 := ⟨rfl, tm8 108 (by decide +kernel), tm1 13 (by decide +kernel), by decide +kernel, ⟨by decide +kernel, by decide +kernel⟩, by decide +kernel, Or.inr (Or.inr ⟨rfl, rfl, tm8 107 (by decide +kernel)⟩)⟩
theorem mok_279 : MOK 279 := ⟨rfl, tm8 105 (by decide +kernel), tm1 13 (by decide +kernel), by decide +kernel, ⟨by decide +kernel, by decide +kernel⟩, by decide +kernel, Or.inl ⟨rfl, rfl, by decide, tm8 104 (by decide +kernel), tm0 84 (by decide +kernel)⟩⟩
theorem mok_280 : MOK 280 := ⟨rfl, tm8 101 (by decide +kernel), tm1 13 (by decide +kernel), by decide +kernel, ⟨by decide +kernel, by decide +kernel⟩, by decide +kernel, Or.inl ⟨rfl, rfl, by decide, tm8 100 (by decide +kernel), tm0 83 (by decide +kernel)⟩⟩
theorem mok_281 : MOK 281 := ⟨rfl, tm8 131 (by decide +kernel), tm1 13 (by decide +kernel), by decide +kernel, ⟨by decide +kernel, by decide +kernel⟩, by decide +kernel, Or.inl ⟨rfl, rfl, by decide, tm8 130 (by decide +kernel), tm0 87 (by decide +kernel)⟩⟩
theorem mok_282 : MOK 282 := ⟨rfl, tm8 97 (by decide +kernel), tm1 13 (by decide +kernel), by decide +kernel, ⟨by decide +kernel, by decide +kernel⟩, by decide +kernel, Or.inl ⟨rfl, rfl, by decide, tm8 95 (by decide +kernel), tm8 96 (by decide +kernel)⟩⟩
theorem mok_283 : MOK 283 := ⟨rfl, tm8 139 (by decide +kernel), tm1 13 (by decide +kernel), by decide +kernel, ⟨by decide +kernel, by decide +kernel⟩, by decide +kernel, Or.inl ⟨rfl, rfl, by decide, tm8 138 (by decide +kernel), tm0 88 (by decide +kernel)⟩⟩
theorem mok_284 : MOK 284 := ⟨rfl, tm8 135 (by decide +kernel), tm1 13 (by decide +kernel), by decide +kernel, ⟨by decide +kernel, by decide +kernel⟩, by decide +kernel, Or.inl ⟨rfl, rfl, by decide, tm8 133 (by decide +kernel), tm8 134 (by decide +kernel)⟩⟩
theorem mok_285 : MOK 285 := ⟨rfl, tm8 143 (by decide +kernel), tm1 13 (by decide +kernel), by decide +kernel, ⟨by decide +kernel, by decide +kernel⟩, by decide +kernel, Or.inl ⟨rfl, rfl, by decide, tm8 141 (by decide +kernel), tm8 142 (by decide +kernel)⟩⟩
theorem mok_286 : MOK 286 := ⟨rfl, tm8 151 (by decide +kernel), tm1 13 (by decide +kernel), by decide +kernel, ⟨by decide +kernel, by decide +kernel⟩, by decide +kernel, Or.inl ⟨rfl, rfl, by decide, tm8 150 (by decide +kernel), tm0 89 (by decide +kernel)⟩⟩
theorem mok_287 : MOK 287 := ⟨rfl, tm8 156 (by decide +kernel), tm1 13 (by decide +kernel), by decide +kernel, ⟨by decide +kernel, by decide +kernel⟩, by decide +kernel, Or.inl ⟨rfl, rfl, by decide, tm8 155 (by decide +kernel), tm0 90 (by decide +kernel)⟩⟩
theorem mok_288 : MOK 288 := ⟨rfl, tm8 147 (by decide +kernel), tm1 13 (by decide +kernel), by decide +kernel, ⟨by decide +kernel, by decide +kernel⟩, by decide +kernel, Or.inl ⟨rfl, rfl, by decide, tm8 145 (by decide +kernel), tm8 146 (by decide +kernel)⟩⟩
theorem mok_289 : MOK 289 := ⟨rfl, tm8 164 (by decide +kernel), tm1 13 (by decide +kernel), by decide +kernel, ⟨by decide +kernel, by decide +kernel⟩, by decide +kernel, Or.inl ⟨rfl, rfl, by decide, tm8 163 (by decide +kernel), tm0 91 (by decide +kernel)⟩⟩
theorem mok_290 : MOK 290 := ⟨rfl, tm8 160 (by decide +kernel), tm1 13 (by decide +kernel), by decide +kernel, ⟨by decide +kernel, by decide +kernel⟩, by decide +kernel, Or.inl ⟨rfl, rfl, by decide, tm8 158 (by decide +kernel), tm8 159 (by decide +kernel)⟩⟩
theorem mok_291 : MOK 291 := ⟨rfl, tm8 168 (by decide +kernel), tm1 13 (by decide +kernel), by decide +kernel, ⟨by decide +kernel, by decide +kernel⟩, by decide +kernel, Or.inl ⟨rfl, rfl, by decide, tm8 166 (by decide +kernel), tm8 167 (by decide +kernel)⟩⟩
theorem mok_292 : MOK 292 := ⟨rfl, tm8 172 (by decide +kernel), tm1 13 (by decide +kernel), by decide +kernel, ⟨by decide +kernel, by decide +kernel⟩, by decide +kernel, Or.inl ⟨rfl, rfl, by decide, tm8 170 (by decide +kernel), tm8 171 (by decide +kernel)⟩⟩
theorem mok_293 : MOK 293 := ⟨rfl, tm8 176 (by decide +kernel), tm1 13 (by decide +kernel), by decide +kernel, ⟨by decide +kernel, by decide +kernel⟩, by decide +kernel, Or.inl ⟨rfl, rfl, by decide, tm8 174 (by decide +kernel), tm8 175 (by decide +kernel)⟩⟩
theorem mok_294 : MOK 294 := ⟨rfl, tm8 189 (by decide +kernel), tm1 13 (by decide +kernel), by decide +kernel, ⟨by decide +kernel, by decide +kernel⟩, by decide +kernel, Or.inl ⟨rfl, rfl, by decide, tm8 188 (by decide +kernel), tm0 93 (by decide +kernel)⟩⟩
theorem mok_295 : MOK 295 := ⟨rfl, tm8 194 (by decide +kernel), tm1 13 (by decide +kernel), by decide +kernel, ⟨by decide +kernel, by decide +kernel⟩, by decide +kernel, Or.inl ⟨rfl, rfl, by decide, tm8 193 (by decide +kernel), tm0 94 (by decide +kernel)⟩⟩
theorem mok_296 : MOK 296 := ⟨rfl, tm8 184 (by decide +kernel), tm1 13 (by decide +kernel), by decide +kernel, ⟨by decide +kernel, by decide +kernel⟩, by decide +kernel, Or.inl ⟨rfl, rfl, by decide, tm8 182 (by decide +kernel), tm8 183 (by decide +kernel)⟩⟩
theorem mok_297 : MOK 297 := ⟨rfl, tm1 71 (by decide +kernel), tm1 5 (by decide +kernel), by decide +kernel, ⟨by decide +kernel, by decide +kernel⟩, by decide +kernel, Or.inr (Or.inr ⟨rfl, rfl, tm1 70 (by decide +kernel)⟩)⟩
theorem mok_298 : MOK 298 := ⟨rfl, tm3 12 (by decide +kernel), tm1 5 (by decide +kernel), by decide +kernel, ⟨by decide +kernel, by decide +kernel⟩, by decide +kernel, Or.inr (Or.inr ⟨rfl, rfl, tm3 11 (by decide +kernel)⟩)⟩
theorem mokb_0 (i : Nat) (h1 : 0 ≤ i) (h2 : i < 13) : MOK i := by
  rcases (show i = 0 ∨ i = 1 ∨ i = 2 ∨ i = 3 ∨ i = 4 ∨ i = 5 ∨ i = 6 ∨ i = 7 ∨ i = 8 ∨ i = 9 ∨ i = 10 ∨ i = 11 ∨ i = 12 by omega) with rfl | rfl | rfl | rfl | rfl | rfl | rfl | rfl | rfl | rfl | rfl | rfl | rfl
  · exact mok_0
  · exact mok_1
  · exact mok_2
  · exact mok_3
  · exact mok_4
  · exact mok_5
  · exact mok_6
  · exact mok_7
  · exact mok_8
  · exact mok_9
  · exact mok_10
  · exact mok_11
  · exact mok_12
theorem mokb_13 (i : Nat) (h1 : 13 ≤ i) (h2 : i < 26) : MOK i := by
  rcases (show i = 13 ∨ i = 14 ∨ i = 15 ∨ i = 16 ∨ i = 17 ∨ i = 18 ∨ i = 19 ∨ i = 20 ∨ i = 21 ∨ i = 22 ∨ i = 23 ∨ i = 24 ∨ i = 25 by omega) with rfl | rfl | rfl | rfl | rfl | rfl | rfl | rfl | rfl | rfl | rfl | rfl | rfl
  · exact mok_13
  · exact mok_14
  · exact mok_15
  · exact mok_16
  · exact mok_17
  · exact mok_18
  · exact mok_19
  · exact mok_20
  · exact mok_21
  · exact mok_22
  · exact mok_23
  · exact mok_24
  · exact mok_25
theorem mokb_26 (i : Nat) (h1 : 26 ≤ i) (h2 : i < 39) : MOK i := by
  rcases (show i = 26 ∨ i = 27 ∨ i = 28 ∨ i = 29 ∨ i = 30 ∨ i = 31 ∨ i = 32 ∨ i = 33 ∨ i = 34 ∨ i = 35 ∨ i = 36 ∨ i = 37 ∨ i = 38 by omega) with rfl | rfl | rfl | rfl | rfl | rfl | rfl | rfl | rfl | rfl | rfl | rfl | rfl
  · exact mok_26
  · exact mok_27
  · exact mok_28
  · exact mok_29
  · exact mok_30
  · exact mok_31
  · exact mok_32
  · exact mok_33
  · exact mok_34
  · exact mok_35
  · exact mok_36
  · exact mok_37
  · exact mok_38
theorem mokb_39 (i : Nat) (h1 : 39 ≤ i) (h2 : i < 52) : MOK i := by
  rcases (show i = 39 ∨ i = 40 ∨ i = 41 ∨ i = 42 ∨ i = 43 ∨ i = 44 ∨ i = 45 ∨ i = 46 ∨ i = 47 ∨ i = 48 ∨ i = 49 ∨ i = 50 ∨ i = 51 by omega) with rfl | rfl | rfl | rfl | rfl | rfl | rfl | rfl | rfl | rfl | rfl | rfl | rfl
  · exact mok_39
  · exact mok_40
  · exact mok_41
  · exact mok_42
  · exact mok_43
  · exact mok_44
  · exact mok_45
  · exact mok_46
  · exact mok_47
  · exact mok_48
  · exact mok_49
  · exact mok_50
  · exact mok_51
theorem mokb_52 (i : Nat) (h1 : 52 ≤ i) (h2 : i < 65) : MOK i := by
  rcases (show i = 52 ∨ i = 53 ∨ i = 54 ∨ i = 55 ∨ i = 56 ∨ i = 57 ∨ i = 58 ∨ i = 59 ∨ i = 60 ∨ i = 61 ∨ i = 62 ∨ i = 63 ∨ i = 64 by omega) with rfl | rfl | rfl | rfl | rfl | rfl | rfl | rfl | rfl | rfl | rfl | rfl | rfl
  · exact mok_52
  · exact mok_53
  · exact mok_54
  · exact mok_55
  · exact mok_56
  · exact mok_57
  · exact mok_58
  · exact mok_59
  · exact mok_60
  · exact mok_61
  · exact mok_62
  · exact mok_63
  · exact mok_64
theorem mokb_65 (i : Nat) (h1 : 65 ≤ i) (h2 : i < 78) : MOK i := by
  rcases (show i = 65 ∨ i = 66 ∨ i = 67 ∨ i = 68 ∨ i = 69 ∨ i = 70 ∨ i = 71 ∨ i = 72 ∨ i = 73 ∨ i = 74 ∨ i = 75 ∨ i = 76 ∨ i = 77 by omega) with rfl | rfl | rfl | rfl | rfl | rfl | rfl | rfl | rfl | rfl | rfl | rfl | rfl
  · exact mok_65
  · exact mok_66
  · exact mok_67
  · exact mok_68
  · exact mok_69
  · exact mok_70
  · exact mok_71
  · exact mok_72
  · exact mok_73
  · exact mok_74
  · exact mok_75
  · exact mok_76
  · exact mok_77
theorem mokb_78 (i : Nat) (h1 : 78 ≤ i) (h2 : i < 91) : MOK i := by
  rcases (show i = 78 ∨ i = 79 ∨ i = 80 ∨ i = 81 ∨ i = 82 ∨ i = 83 ∨ i = 84 ∨ i = 85 ∨ i = 86 ∨ i = 87 ∨ i = 88 ∨ i = 89 ∨ i = 90 by omega) with rfl | rfl | rfl | rfl | rfl | rfl | rfl | rfl | rfl | rfl | rfl | rfl | rfl
  · exact mok_78
  · exact mok_79
  · exact mok_80
  · exact mok_81
  · exact mok_82
  · exact mok_83
  · exact mok_84
  · exact mok_85
  · exact mok_86
  · exact mok_87
  · exact mok_88
  · exact mok_89
  · exact mok_90
theorem mokb_91 (i : Nat) (h1 : 91 ≤ i) (h2 : i < 104) : MOK i := by
  rcases (show i = 91 ∨ i = 92 ∨ i = 93 ∨ i = 94 ∨ i = 95 ∨ i = 96 ∨ i = 97 ∨ i = 98 ∨ i = 99 ∨ i = 100 ∨ i = 101 ∨ i = 102 ∨ i = 103 by omega) with rfl | rfl | rfl | rfl | rfl | rfl | rfl | rfl | rfl | rfl | rfl | rfl | rfl
  · exact mok_91
  · exact mok_92
  · exact mok_93
  · exact mok_94
  · exact mok_95
  · exact mok_96
  · exact mok_97
  · exact mok_98
  · exact mok_99
  · exact mok_100
  · exact mok_101
  · exact mok_102
  · exact mok_103
theorem mokb_104 (i : Nat) (h1 : 104 ≤ i) (h2 : i < 117) : MOK i := by
  rcases (show i = 104 ∨ i = 105 ∨ i = 106 ∨ i = 107 ∨ i = 108 ∨ i = 109 ∨ i = 110 ∨ i = 111 ∨ i = 112 ∨ i = 113 ∨ i = 114 ∨ i = 115 ∨ i = 116 by omega) with rfl | rfl | rfl | rfl | rfl | rfl | rfl | rfl | rfl | rfl | rfl | rfl | rfl
  · exact mok_104
  · exact mok_105
  · exact mok_106
  · exact mok_107
  · exact mok_108
  · exact mok_109
  · exact mok_110
  · exact mok_111
  · exact mok_112
  · exact mok_113
  · exact mok_114
  · exact mok_115
  · exact mok_116
theorem mokb_117 (i : Nat) (h1 : 117 ≤ i) (h2 : i < 130) : MOK i := by
  rcases (show i = 117 ∨ i = 118 ∨ i = 119 ∨ i = 120 ∨ i = 121 ∨ i = 122 ∨ i = 123 ∨ i = 124 ∨ i = 125 ∨ i = 126 ∨ i = 127 ∨ i = 128 ∨ i = 129 by omega) with rfl | rfl | rfl | rfl | rfl | rfl | rfl | rfl | rfl | rfl | rfl | rfl | rfl
  · exact mok_117
  · exact mok_118
  · exact mok_119
  · exact mok_120
  · exact mok_121
  · exact mok_122
  · exact mok_123
  · exact mok_124
  · exact mok_125
  · exact mok_126
  · exact mok_127
  · exact mok_128
  · exact mok_129
theorem mokb_130 (i : Nat) (h1 : 130 ≤ i) (h2 : i < 143) : MOK i := by
  rcases (show i = 130 ∨ i = 131 ∨ i = 132 ∨ i = 133 ∨ i = 134 ∨ i = 135 ∨ i = 136 ∨ i = 137 ∨ i = 138 ∨ i = 139 ∨ i = 140 ∨ i = 141 ∨ i = 142 by omega) with rfl | rfl | rfl | rfl | rfl | rfl | rfl | rfl | rfl | rfl | rfl | rfl | rfl
  · exact mok_130
  · exact mok_131
  · exact mok_132
  · exact mok_133
  · exact mok_134
  · exact mok_135
  · exact mok_136
  · exact mok_137
  · exact mok_138
  · exact mok_139
  · exact mok_140
  · exact mok_141
  · exact mok_142
theorem mokb_143 (i : Nat) (h1 : 143 ≤ i) (h2 : i < 156) : MOK i := by
  rcases (show i = 143 ∨ i = 144 ∨ i = 145 ∨ i = 146 ∨ i = 147 ∨ i = 148 ∨ i = 149 ∨ i = 150 ∨ i = 151 ∨ i = 152 ∨ i = 153 ∨ i = 154 ∨ i = 155 by omega) with rfl | rfl | rfl | rfl | rfl | rfl | rfl | rfl | rfl | rfl | rfl | rfl | rfl
  · exact mok_143
  · exact mok_144
  · exact mok_145
  · exact mok_146
  · exact mok_147
  · exact mok_148
  · exact mok_149
  · exact mok_150
  · exact mok_151
  · exact mok_152
  · exact mok_153
  · exact mok_154
  · exact mok_155
theorem mokb_156 (i : Nat) (h1 : 156 ≤ i) (h2 : i < 169) : MOK i := by
  rcases (show i = 156 ∨ i = 157 ∨ i = 158 ∨ i = 159 ∨ i = 160 ∨ i = 161 ∨ i = 162 ∨ i = 163 ∨ i = 164 ∨ i = 165 ∨ i = 166 ∨ i = 167 ∨ i = 168 by omega) with rfl | rfl | rfl | rfl | rfl | rfl | rfl | rfl | rfl | rfl | rfl | rfl | rfl
  · exact mok_156
  · exact mok_157
  · exact mok_158
  · exact mok_159
  · exact mok_160
  · exact mok_161
  · exact mok_162
  · exact mok_163
  · exact mok_164
  · exact mok_165
  · exact mok_166
  · exact mok_167
  · exact mok_168
theorem mokb_169 (i : Nat) (h1 : 169 ≤ i) (h2 : i < 182) : MOK i := by
  rcases (show i = 169 ∨ i = 170 ∨ i = 171 ∨ i = 172 ∨ i = 173 ∨ i = 174 ∨ i = 175 ∨ i = 176 ∨ i = 177 ∨ i = 178 ∨ i = 179 ∨ i = 180 ∨ i = 181 by omega) with rfl | rfl | rfl | rfl | rfl | rfl | rfl | rfl | rfl | rfl | rfl | rfl | rfl
  · exact mok_169
  · exact mok_170
  · exact mok_171
  · exact mok_172
  · exact mok_173
  · exact mok_174
  · exact mok_175
  · exact mok_176
  · exact mok_177
  · exact mok_178
  · exact mok_179
  · exact mok_180
  · exact mok_181
theorem mokb_182 (i : Nat) (h1 : 182 ≤ i) (h2 : i < 195) : MOK i := by
  rcases (show i = 182 ∨ i = 183 ∨ i = 184 ∨ i = 185 ∨ i = 186 ∨ i = 187 ∨ i = 188 ∨ i = 189 ∨ i = 190 ∨ i = 191 ∨ i = 192 ∨ i = 193 ∨ i = 194 by omega) with rfl | rfl | rfl | rfl | rfl | rfl | rfl | rfl | rfl | rfl | rfl | rfl | rfl
  · exact mok_182
  · exact mok_183
  · exact mok_184
  · exact mok_185
  · exact mok_186
  · exact mok_187
  · exact mok_188
  · exact mok_189
  · exact mok_190
  · exact mok_191
  · exact mok_192
  · exact mok_193
  · exact mok_194
theorem mokb_195 (i : Nat) (h1 : 195 ≤ i) (h2 : i < 208) : MOK i := by
  rcases (show i = 195 ∨ i = 196 ∨ i = 197 ∨ i = 198 ∨ i = 199 ∨ i = 200 ∨ i = 201 ∨ i = 202 ∨ i = 203 ∨ i = 204 ∨ i = 205 ∨ i = 206 ∨ i = 207 by omega) with rfl | rfl | rfl | rfl | rfl | rfl | rfl | rfl | rfl | rfl | rfl | rfl | rfl
  · exact mok_195
  · exact mok_196
  · exact mok_197
  · exact mok_198
  · exact mok_199
  · exact mok_200
  · exact mok_201
  · exact mok_202
  · exact mok_203
  · exact mok_204
  · exact mok_205
  · exact mok_206
  · exact mok_207
theorem mokb_208 (i : Nat) (h1 : 208 ≤ i) (h2 : i < 221) : MOK i := by
  rcases (show i = 208 ∨ i = 209 ∨ i = 210 ∨ i = 211 ∨ i = 212 ∨ i = 213 ∨ i = 214 ∨ i = 215 ∨ i = 216 ∨ i = 217 ∨ i = 218 ∨ i = 219 ∨ i = 220 by omega) with rfl | rfl | rfl | rfl | rfl | rfl | rfl | rfl | rfl | rfl | rfl | rfl | rfl
  · exact mok_208
  · exact mok_209
  · exact mok_210
  · exact mok_211
  · exact mok_212
  · exact mok_213
  · exact mok_214
  · exact mok_215
  · exact mok_216
  · exact mok_217
  · exact mok_218
  · exact mok_219
  · exact mok_220
theorem mokb_221 (i : Nat) (h1 : 221 ≤ i) (h2 : i < 234) : MOK i := by
  rcases (show i = 221 ∨ i = 222 ∨ i = 223 ∨ i = 224 ∨ i = 225 ∨ i = 226 ∨ i = 227 ∨ i = 228 ∨ i = 229 ∨ i = 230 ∨ i = 231 ∨ i = 232 ∨ i = 233 by omega) with rfl | rfl | rfl | rfl | rfl | rfl | rfl | rfl | rfl | rfl | rfl | rfl | rfl
  · exact mok_221
  · exact mok_222
  · exact mok_223
  · exact mok_224
  · exact mok_225
  · exact mok_226
  · exact mok_227
  · exact mok_228
  · exact mok_229
  · exact mok_230
  · exact mok_231
  · exact mok_232
  · exact mok_233
theorem mokb_234 (i : Nat) (h1 : 234 ≤ i) (h2 : i < 247) : MOK i := by
  rcases (show i = 234 ∨ i = 235 ∨ i = 236 ∨ i = 237 ∨ i = 238 ∨ i = 239 ∨ i = 240 ∨ i = 241 ∨ i = 242 ∨ i = 243 ∨ i = 244 ∨ i = 245 ∨ i = 246 by omega) with rfl | rfl | rfl | rfl | rfl | rfl | rfl | rfl | rfl | rfl | rfl | rfl | rfl
  · exact mok_234
  · exact mok_235
  · exact mok_236
  · exact mok_237
  · exact mok_238
  · exact mok_239
  · exact mok_240
  · exact mok_241
  · exact mok_242
  · exact mok_243
  · exact mok_244
  · exact mok_245
  · exact mok_246
theorem mokb_247 (i : Nat) (h1 : 247 ≤ i) (h2 : i < 260) : MOK i := by
  rcases (show i = 247 ∨ i = 248 ∨ i = 249 ∨ i = 250 ∨ i = 251 ∨ i = 252 ∨ i = 253 ∨ i = 254 ∨ i = 255 ∨ i = 256 ∨ i = 257 ∨ i = 258 ∨ i = 259 by omega) with rfl | rfl | rfl | rfl | rfl | rfl | rfl | rfl | rfl | rfl | rfl | rfl | rfl
  · exact mok_247
  · exact mok_248
  · exact mok_249
  · exact mok_250
  · exact mok_251
  · exact mok_252
  · exact mok_253
  · exact mok_254
  · exact mok_255
  · exact mok_256
  · exact mok_257
  · exact mok_258
  · exact mok_259
theorem mokb_260 (i : Nat) (h1 : 260 ≤ i) (h2 : i < 273) : MOK i := by
  rcases (show i = 260 ∨ i = 261 ∨ i = 262 ∨ i = 263 ∨ i = 264 ∨ i = 265 ∨ i = 266 ∨ i = 267 ∨ i = 268 ∨ i = 269 ∨ i = 270 ∨ i = 271 ∨ i = 272 by omega) with rfl | rfl | rfl | rfl | rfl | rfl | rfl | rfl | rfl | rfl | rfl | rfl | rfl
  · exact mok_260
  · exact mok_261
  · exact mok_262
  · exact mok_263
  · exact mok_264
  · exact mok_265
  · exact mok_266
  · exact mok_267
  · exact mok_268
  · exact mok_269
  · exact mok_270
  · exact mok_271
  · exact mok_272
theorem mokb_273 (i : Nat) (h1 : 273 ≤ i) (h2 : i < 286) : MOK i := by
  rcases (show i = 273 ∨ i = 274 ∨ i = 275 ∨ i = 276 ∨ i = 277 ∨ i = 278 ∨ i = 279 ∨ i = 280 ∨ i = 281 ∨ i = 282 ∨ i = 283 ∨ i = 284 ∨ i = 285 by omega) with rfl | rfl | rfl | rfl | rfl | rfl | rfl | rfl | rfl | rfl | rfl | rfl | rfl
  · exact mok_273
  · exact mok_274
  · exact mok_275
  · exact mok_276
  · exact mok_277
  · exact mok_278
  · exact mok_279
  · exact mok_280
  · exact mok_281
  · exact mok_282
  · exact mok_283
  · exact mok_284
  · exact mok_285
theorem mokb_286 (i : Nat) (h1 : 286 ≤ i) (h2 : i < 299) : MOK i := by
  rcases (show i = 286 ∨ i = 287 ∨ i = 288 ∨ i = 289 ∨ i = 290 ∨ i = 291 ∨ i = 292 ∨ i = 293 ∨ i = 294 ∨ i = 295 ∨ i = 296 ∨ i = 297 ∨ i = 298 by omega) with rfl | rfl | rfl | rfl | rfl | rfl | rfl | rfl | rfl | rfl | rfl | rfl | rfl
  · exact mok_286
  · exact mok_287
  · exact mok_288
  · exact mok_289
  · exact mok_290
  · exact mok_291
  · exact mok_292
  · exact mok_293
  · exact mok_294
  · exact mok_295
  · exact mok_296
  · exact mok_297
  · exact mok_298
theorem mok_all (i : Nat) (h : i < 299) : MOK i := by
  by_cases h0 : i < 13
  · exact mokb_0 i (by omega) h0
  by_cases h13 : i < 26
  · exact mokb_13 i (by omega) h13
  by_cases h26 : i < 39
  · exact mokb_26 i (by omega) h26
  by_cases h39 : i < 52
  · exact mokb_39 i (by omega) h39
  by_cases h52 : i < 65
  · exact mokb_52 i (by omega) h52
  by_cases h65 : i < 78
  · exact mokb_65 i (by omega) h65
  by_cases h78 : i < 91
  · exact mokb_78 i (by omega) h78
  by_cases h91 : i < 104
  · exact mokb_91 i (by omega) h91
  by_cases h104 : i < 117
  · exact mokb_104 i (by omega) h104
  by_cases h117 : i < 130
  · exact mokb_117 i (by omega) h117
  by_cases h130 : i < 143
  · exact mokb_130 i (by omega) h130
  by_cases h143 : i < 156
  · exact mokb_143 i (by omega) h143
  by_cases h156 : i < 169
  · exact mokb_156 i (by omega) h156
  by_cases h169 : i < 182
  · exact mokb_169 i (by omega) h169
  by_cases h182 : i < 195
  · exact mokb_182 i (by omega) h182
  by_cases h195 : i < 208
  · exact mokb_195 i (by omega) h195
  by_cases h208 : i < 221
  · exact mokb_208 i (by omega) h208
  by_cases h221 : i < 234
  · exact mokb_221 i (by omega) h221
  by_cases h234 : i < 247
  · exact mokb_234 i (by omega) h234
  by_cases h247 : i < 260
  · exact mokb_247 i (by omega) h247
  by_cases h260 : i < 273
  · exact mokb_260 i (by omega) h260
  by_cases h273 : i < 286
  · exact mokb_273 i (by omega) h273
  exact mokb_286 i (by omega) h
def cpF : List (Nat × Nat × Nat) := [(11, 10, 5636), (11, 21, 5644), (11, 30, 5652), (11, 37, 5660), (11, 44, 5684), (11, 48, 5692), (11, 56, 5668), (11, 65, 5676), (11, 72, 5700), (11, 76, 5708), (11, 80, 5720), (11, 91, 5712), (11, 119, 17), (11, 169, 4612), (11, 173, 1028), (11, 178, 4620), (11, 181, 4628), (11, 245, 1556), (11, 262, 1536), (11, 289, 1544), (11, 310, 4116), (11, 316, 4124), (11, 361, 4160), (11, 379, 4100), (11, 382, 4108), (0, 9, 4), (0, 15, 8), (0, 19, 4100), (0, 25, 1028), (0, 30, 4108), (0, 33, 17), (1, 9, 516), (1, 17, 532), (1, 21, 540), (1, 24, 548), (1, 27, 520), (1, 31, 560), (1, 34, 552), (2, 7, 1036), (2, 13, 1028), (3, 9, 1536), (3, 15, 1544), (3, 18, 1556), (3, 29, 1561), (3, 37, 1571), (3, 41, 1579), (4, 9, 2068), (4, 15, 2076), (4, 18, 2084), (4, 21, 2092), (4, 24, 2104), (4, 28, 2112), (4, 31, 2120), (4, 34, 2140), (4, 37, 2148), (4, 40, 2156), (4, 44, 2052), (4, 48, 2060), (4, 58, 4160), (4, 66, 2096), (4, 77, 4652), (4, 80, 4660), (4, 100, 2130), (5, 9, 2564), (5, 15, 2572), (6, 9, 3076), (6, 15, 3092), (6, 18, 3100), (6, 21, 3080), (6, 31, 4692), (6, 36, 4652), (6, 39, 4684), (6, 50, 4660), (6, 53, 4676), (6, 56, 4668), (7, 11, 3668), (7, 22, 3588), (7, 26, 3596), (7, 29, 3604), (7, 32, 3612), (7, 35, 3620), (7, 38, 3628), (7, 41, 3636), (7, 44, 3644), (7, 47, 3652), (7, 50, 3660), (7, 53, 1028), (7, 77, 1536), (7, 118, 1544), (7, 121, 1556), (8, 9, 4148), (8, 15, 4168), (8, 24, 4100), (8, 28, 4108), (8, 31, 4116), (8, 34, 4124), (8, 37, 4132), (8, 40, 4140), (8, 43, 1028), (8, 53, 4160), (8, 68, 4152), (9, 9, 4652), (9, 15, 4660), (9, 18, 4668), (9, 21, 4676), (9, 24, 4684), (9, 27, 4692), (9, 30, 4700), (9, 33, 4708), (9, 36, 4716), (9, 42, 4724), (9, 46, 4732), (9, 49, 4740), (9, 52, 4748), (9, 55, 4760), (9, 59, 4644), (9, 68, 4612), (9, 72, 4620), (9, 75, 4628), (9, 78, 4636), (9, 81, 1028), (9, 91, 4160), (9, 103, 4752), (10, 9, 5164), (10, 15, 5172), (10, 18, 5180), (10, 21, 5188), (10, 24, 5196), (10, 27, 5204), (10, 30, 5212), (10, 33, 5220), (10, 39, 5228), (10, 43, 5232), (10, 47, 5240), (10, 50, 5124), (10, 54, 5132), (10, 58, 5140), (10, 62, 5148), (10, 66, 5156), (10, 94, 4116), (10, 98, 1028), (10, 103, 4124), (10, 136, 1536), (10, 151, 1561), (10, 155, 1579), (10, 159, 1571), (10, 175, 1544), (10, 181, 5248), (10, 185, 5256), (12, 7, 6164), (12, 13, 6172), (12, 16, 6180), (12, 19, 6188), (12, 22, 6196), (12, 25, 6212), (12, 28, 6220), (12, 31, 6228), (12, 34, 6244), (12, 37, 6252), (12, 40, 6260), (12, 43, 6268), (12, 46, 6276), (12, 49, 6284), (12, 52, 6292), (12, 55, 6300), (12, 58, 6308), (12, 62, 6316), (12, 66, 6332), (12, 69, 6340), (12, 72, 6348), (12, 75, 6388), (12, 78, 6404), (12, 81, 6412), (12, 84, 6428), (12, 87, 6436), (12, 90, 6468), (12, 93, 6476), (12, 96, 6484), (12, 100, 6492), (12, 103, 6500), (12, 106, 6508), (12, 109, 6556), (12, 112, 6564), (12, 115, 6572), (12, 119, 6580), (12, 122, 6144), (12, 130, 6353), (12, 134, 6152), (12, 137, 6232), (12, 140, 6376), (12, 170, 6368), (12, 173, 6200), (12, 180, 6416), (12, 186, 6392), (12, 196, 6441), (12, 233, 6448), (12, 236, 6320), (12, 287, 6456), (12, 294, 6360), (12, 297, 6529), (12, 300, 6537), (12, 369, 6512), (12, 372, 6520), (12, 379, 6544), (12, 399, 6586)]
def FOK (x : Nat × Nat × Nat) : Prop := x.2.2 / 512 < 13 ∧ x.2.2 / 8 % 64 < ((nth nfl (x.2.2 / 512)).getD 0).toNat ∧ ftAt (x.2.2 / 512) (x.2.2 / 8 % 64) = x.2.2 % 8 ∧ ∃ r : vw_C, vwCl[x.2.2 / 512]? = some r ∧
  (Cond.fieldLink (cnm x.1) x.2.1 r.1 (r.2.1 (x.2.2 / 8 % 64)).2.1 (r.2.1 (x.2.2 / 8 % 64)).2.2.1 ∈ lw_tbl ∨ ∃ host, Cond.fieldLinkNest (cnm x.1) x.2.1 r.1 (r.2.1 (x.2.2 / 8 % 64)).2.1 (r.2.1 (x.2.2 / 8 % 64)).2.2.1 host ∈ lw_tbl) ∧ (x.1 = x.2.2 / 512 → Cond.fieldLink (cnm x.1) x.2.1 r.1 (r.2.1 (x.2.2 / 8 % 64)).2.1 (r.2.1 (x.2.2 / 8 % 64)).2.2.1 ∈ lw_tbl)
theorem fok_0 : FOK (11, 10, 5636) := ⟨by decide +kernel, by decide +kernel, by decide +kernel, _, rfl, Or.inl (tm2 173 (by decide +kernel)), fun _ => tm2 173 (by decide +kernel)⟩
theorem fok_1 : FOK (11, 21, 5644) := ⟨by decide +kernel, by decide +kernel, by decide +kernel, _, rfl, Or.inl (tm2 174 (by decide +kernel)), fun _ => tm2 174 (by decide +kernel)⟩
theorem fok_2 : FOK (11, 30, 5652) := ⟨by decide +kernel, by decide +kernel, by decide +kernel, _, rfl, Or.inl (tm2 175 (by decide +kernel)), fun _ => tm2 175 (by decide +kernel)⟩
theorem fok_3 : FOK (11, 37, 5660) := ⟨by decide +kernel, by decide +kernel, by decide +kernel, _, rfl, Or.inl (tm2 176 (by decide +kernel)), fun _ => tm2 176 (by decide +kernel)⟩
theorem fok_4 : FOK (11, 44, 5684) := ⟨by decide +kernel, by decide +kernel, by decide +kernel, _, rfl, Or.inl (tm2 179 (by decide +kernel)), fun _ => tm2 179 (by decide +kernel)⟩
theorem fok_5 : FOK (11, 48, 5692) := ⟨by decide +kernel, by decide +kernel, by decide +kernel, _, rfl, Or.inl (tm2 180 (by decide +kernel)), fun _ => tm2 180 (by decide +kernel)⟩
theorem fok_6 : FOK (11, 56, 5668) := ⟨by decide +kernel, by decide +kernel, by decide +kernel, _, rfl, Or.inl (tm2 177 (by decide +kernel)), fun _ => tm2 177 (by decide +kernel)⟩
theorem fok_7 : FOK (11, 65, 5676) := ⟨by decide +kernel, by decide +kernel, by decide +kernel, _, rfl, Or.inl (tm2 178 (by decide +kernel)), fun _ => tm2 178 (by decide +kernel)⟩
theorem fok_8 : FOK (11, 72, 5700) := ⟨by decide +kernel, by decide +kernel, by decide +kernel, _, rfl, Or.inl (tm2 181 (by decide +kernel)), fun _ => tm2 181 (by decide +kernel)⟩
theorem fok_9 : FOK (11, 76, 5708) := ⟨by decide +kernel, by decide +kernel, by decide +kernel, _, rfl, Or.inl (tm2 182 (by decide +kernel)), fun _ => tm2 182 (by decide +kernel)⟩
theorem fok_10 : FOK (11, 80, 5720) := ⟨by decide +kernel, by decide +kernel, by decide +kernel, _, rfl, Or.inl (tm2 184 (by decide +kernel)), fun _ => tm2 184 (by decide +kernel)⟩
theorem fok_11 : FOK (11, 91, 5712) := ⟨by decide +kernel, by decide +kernel, by decide +kernel, _, rfl, Or.inl (tm2 183 (by decide +kernel)), fun _ => tm2 183 (by decide +kernel)⟩
theorem fok_12 : FOK (11, 119, 17) := ⟨by decide +kernel, by decide +kernel, by decide +kernel, _, rfl, Or.inl (tm2 34 (by decide +kernel)), fun _ => tm2 34 (by decide +kernel)⟩
theorem fok_13 : FOK (11, 169, 4612) := ⟨by decide +kernel, by decide +kernel, by decide +kernel, _, rfl, Or.inl (tm1 150 (by decide +kernel)), fun _ => tm1 150 (by decide +kernel)⟩
theorem fok_14 : FOK (11, 173, 1028) := ⟨by decide +kernel, by decide +kernel, by decide +kernel, _, rfl, Or.inl (tm1 78 (by decide +kernel)), fun _ => tm1 78 (by decide +kernel)⟩
theorem fok_15 : FOK (11, 178, 4620) := ⟨by decide +kernel, by decide +kernel, by decide +kernel, _, rfl, Or.inl (tm1 152 (by decide +kernel)), fun _ => tm1 152 (by decide +kernel)⟩
theorem fok_16 : FOK (11, 181, 4628) := ⟨by decide +kernel, by decide +kernel, by decide +kernel, _, rfl, Or.inl (tm1 154 (by decide +kernel)), fun _ => tm1 154 (by decide +kernel)⟩
theorem fok_17 : FOK (11, 245, 1556) := ⟨by decide +kernel, by decide +kernel, by decide +kernel, _, rfl, Or.inl (tm4 102 (by decide +kernel)), fun _ => tm4 102 (by decide +kernel)⟩
theorem fok_18 : FOK (11, 262, 1536) := ⟨by decide +kernel, by decide +kernel, by decide +kernel, _, rfl, Or.inl (tm4 96 (by decide +kernel)), fun _ => tm4 96 (by decide +kernel)⟩
theorem fok_19 : FOK (11, 289, 1544) := ⟨by decide +kernel, by decide +kernel, by decide +kernel, _, rfl, Or.inl (tm4 100 (by decide +kernel)), fun _ => tm4 100 (by decide +kernel)⟩
theorem fok_20 : FOK (11, 310, 4116) := ⟨by decide +kernel, by decide +kernel, by decide +kernel, _, rfl, Or.inl (tm1 93 (by decide +kernel)), fun _ => tm1 93 (by decide +kernel)⟩
theorem fok_21 : FOK (11, 316, 4124) := ⟨by decide +kernel, by decide +kernel, by decide +kernel, _, rfl, Or.inl (tm1 96 (by decide +kernel)), fun _ => tm1 96 (by decide +kernel)⟩
theorem fok_22 : FOK (11, 361, 4160) := ⟨by decide +kernel, by decide +kernel, by decide +kernel, _, rfl, Or.inl (tm1 104 (by decide +kernel)), fun _ => tm1 104 (by decide +kernel)⟩
theorem fok_23 : FOK (11, 379, 4100) := ⟨by decide +kernel, by decide +kernel, by decide +kernel, _, rfl, Or.inl (tm1 87 (by decide +kernel)), fun _ => tm1 87 (by decide +kernel)⟩
theorem fok_24 : FOK (11, 382, 4108) := ⟨by decide +kernel, by decide +kernel, by decide +kernel, _, rfl, Or.inl (tm1 90 (by decide +kernel)), fun _ => tm1 90 (by decide +kernel)⟩
theorem fok_25 : FOK (0, 9, 4) := ⟨by decide +kernel, by decide +kernel, by decide +kernel, _, rfl, Or.inl (tm2 31 (by decide +kernel)), fun _ => tm2 31 (by decide +kernel)⟩
theorem fok_26 : FOK (0, 15, 8) := ⟨by decide +kernel, by decide +kernel, by decide +kernel, _, rfl, Or.inl (tm2 32 (by decide +kernel)), fun _ => tm2 32 (by decide +kernel)⟩
theorem fok_27 : FOK (0, 19, 4100) := ⟨by decide +kernel, by decide +kernel, by decide +kernel, _, rfl, Or.inl (tm1 86 (by decide +kernel)), fun _ => tm1 86 (by decide +kernel)⟩
theorem fok_28 : FOK (0, 25, 1028) := ⟨by decide +kernel, by decide +kernel, by decide +kernel, _, rfl, Or.inl (tm1 76 (by decide +kernel)), fun _ => tm1 76 (by decide +kernel)⟩
theorem fok_29 : FOK (0, 30, 4108) := ⟨by decide +kernel, by decide +kernel, by decide +kernel, _, rfl, Or.inl (tm1 89 (by decide +kernel)), fun _ => tm1 89 (by decide +kernel)⟩
theorem fok_30 : FOK (0, 33, 17) := ⟨by decide +kernel, by decide +kernel, by decide +kernel, _, rfl, Or.inl (tm2 33 (by decide +kernel)), fun _ => tm2 33 (by decide +kernel)⟩
theorem fok_31 : FOK (1, 9, 516) := ⟨by decide +kernel, by decide +kernel, by decide +kernel, _, rfl, Or.inl (tm1 34 (by decide +kernel)), fun _ => tm1 34 (by decide +kernel)⟩
theorem fok_32 : FOK (1, 17, 532) := ⟨by decide +kernel, by decide +kernel, by decide +kernel, _, rfl, Or.inl (tm1 36 (by decide +kernel)), fun _ => tm1 36 (by decide +kernel)⟩
theorem fok_33 : FOK (1, 21, 540) := ⟨by decide +kernel, by decide +kernel, by decide +kernel, _, rfl, Or.inl (tm1 37 (by decide +kernel)), fun _ => tm1 37 (by decide +kernel)⟩
theorem fok_34 : FOK (1, 24, 548) := ⟨by decide +kernel, by decide +kernel, by decide +kernel, _, rfl, Or.inl (tm1 38 (by decide +kernel)), fun _ => tm1 38 (by decide +kernel)⟩
theorem fok_35 : FOK (1, 27, 520) := ⟨by decide +kernel, by decide +kernel, by decide +kernel, _, rfl, Or.inl (tm1 35 (by decide +kernel)), fun _ => tm1 35 (by decide +kernel)⟩
theorem fok_36 : FOK (1, 31, 560) := ⟨by decide +kernel, by decide +kernel, by decide +kernel, _, rfl, Or.inl (tm1 40 (by decide +kernel)), fun _ => tm1 40 (by decide +kernel)⟩
theorem fok_37 : FOK (1, 34, 552) := ⟨by decide +kernel, by decide +kernel, by decide +kernel, _, rfl, Or.inl (tm1 39 (by decide +kernel)), fun _ => tm1 39 (by decide +kernel)⟩
theorem fok_38 : FOK (2, 7, 1036) := ⟨by decide +kernel, by decide +kernel, by decide +kernel, _, rfl, Or.inl (tm1 79 (by decide +kernel)), fun _ => tm1 79 (by decide +kernel)⟩
theorem fok_39 : FOK (2, 13, 1028) := ⟨by decide +kernel, by decide +kernel, by decide +kernel, _, rfl, Or.inl (tm1 72 (by decide +kernel)), fun _ => tm1 72 (by decide +kernel)⟩
theorem fok_40 : FOK (3, 9, 1536) := ⟨by decide +kernel, by decide +kernel, by decide +kernel, _, rfl, Or.inl (tm4 93 (by decide +kernel)), fun _ => tm4 93 (by decide +kernel)⟩
theorem fok_41 : FOK (3, 15, 1544) := ⟨by decide +kernel, by decide +kernel, by decide +kernel, _, rfl, Or.inl (tm4 97 (by decide +kernel)), fun _ => tm4 97 (by decide +kernel)⟩
theorem fok_42 : FOK (3, 18, 1556) := ⟨by decide +kernel, by decide +kernel, by decide +kernel, _, rfl, Or.inl (tm4 101 (by decide +kernel)), fun _ => tm4 101 (by decide +kernel)⟩
theorem fok_43 : FOK (3, 29, 1561) := ⟨by decide +kernel, by decide +kernel, by decide +kernel, _, rfl, Or.inl (tm4 104 (by decide +kernel)), fun _ => tm4 104 (by decide +kernel)⟩
theorem fok_44 : FOK (3, 37, 1571) := ⟨by decide +kernel, by decide +kernel, by decide +kernel, _, rfl, Or.inl (tm4 106 (by decide +kernel)), fun _ => tm4 106 (by decide +kernel)⟩
theorem fok_45 : FOK (3, 41, 1579) := ⟨by decide +kernel, by decide +kernel, by decide +kernel, _, rfl, Or.inl (tm4 108 (by decide +kernel)), fun _ => tm4 108 (by decide +kernel)⟩
theorem fok_46 : FOK (4, 9, 2068) := ⟨by decide +kernel, by decide +kernel, by decide +kernel, _, rfl, Or.inl (tm2 130 (by decide +kernel)), fun _ => tm2 130 (by decide +kernel)⟩
theorem fok_47 : FOK (4, 15, 2076) := ⟨by decide +kernel, by decide +kernel, by decide +kernel, _, rfl, Or.inl (tm2 131 (by decide +kernel)), fun _ => tm2 131 (by decide +kernel)⟩
theorem fok_48 : FOK (4, 18, 2084) := ⟨by decide +kernel, by decide +kernel, by decide +kernel, _, rfl, Or.inl (tm2 132 (by decide +kernel)), fun _ => tm2 132 (by decide +kernel)⟩
theorem fok_49 : FOK (4, 21, 2092) := ⟨by decide +kernel, by decide +kernel, by decide +kernel, _, rfl, Or.inl (tm2 133 (by decide +kernel)), fun _ => tm2 133 (by decide +kernel)⟩
theorem fok_50 : FOK (4, 24, 2104) := ⟨by decide +kernel, by decide +kernel, by decide +kernel, _, rfl, Or.inl (tm2 135 (by decide +kernel)), fun _ => tm2 135 (by decide +kernel)⟩
theorem fok_51 : FOK (4, 28, 2112) := ⟨by decide +kernel, by decide +kernel, by decide +kernel, _, rfl, Or.inl (tm2 136 (by decide +kernel)), fun _ => tm2 136 (by decide +kernel)⟩
theorem fok_52 : FOK (4, 31, 2120) := ⟨by decide +kernel, by decide +kernel, by decide +kernel, _, rfl, Or.inl (tm2 137 (by decide +kernel)), fun _ => tm2 137 (by decide +kernel)⟩
theorem fok_53 : FOK (4, 34, 2140) := ⟨by decide +kernel, by decide +kernel, by decide +kernel, _, rfl, Or.inl (tm2 139 (by decide +kernel)), fun _ => tm2 139 (by decide +kernel)⟩
theorem fok_54 : FOK (4, 37, 2148) := ⟨by decide +kernel, by decide +kernel, by decide +kernel, _, rfl, Or.inl (tm2 140 (by decide +kernel)), fun _ => tm2 140 (by decide +kernel)⟩
theorem fok_55 : FOK (4, 40, 2156) := ⟨by decide +kernel, by decide +kernel, by decide +kernel, _, rfl, Or.inl (tm2 141 (by decide +kernel)), fun _ => tm2 141 (by decide +kernel)⟩
theorem fok_56 : FOK (4, 44, 2052) := ⟨by decide +kernel, by decide +kernel, by decide +kernel, _, rfl, Or.inl (tm2 128 (by decide +kernel)), fun _ => tm2 128 (by decide +kernel)⟩
theorem fok_57 : FOK (4, 48, 2060) := ⟨by decide +kernel, by decide +kernel, by decide +kernel, _, rfl, Or.inl (tm2 129 (by decide +kernel)), fun _ => tm2 129 (by decide +kernel)⟩
theorem fok_58 : FOK (4, 58, 4160) := ⟨by decide +kernel, by decide +kernel, by decide +kernel, _, rfl, Or.inl (tm1 101 (by decide +kernel)), fun _ => tm1 101 (by decide +kernel)⟩
theorem fok_59 : FOK (4, 66, 2096) := ⟨by decide +kernel, by decide +kernel, by decide +kernel, _, rfl, Or.inl (tm2 134 (by decide +kernel)), fun _ => tm2 134 (by decide +kernel)⟩
theorem fok_60 : FOK (4, 77, 4652) := ⟨by decide +kernel, by decide +kernel, by decide +kernel, _, rfl, Or.inr ⟨"DigHouse", tm1 158 (by decide +kernel)⟩, fun h => absurd h (by decide +kernel)⟩
theorem fok_61 : FOK (4, 80, 4660) := ⟨by decide +kernel, by decide +kernel, by decide +kernel, _, rfl, Or.inr ⟨"DigHouse", tm1 161 (by decide +kernel)⟩, fun h => absurd h (by decide +kernel)⟩
theorem fok_62 : FOK (4, 100, 2130) := ⟨by decide +kernel, by decide +kernel, by decide +kernel, _, rfl, Or.inl (tm2 138 (by decide +kernel)), fun _ => tm2 138 (by decide +kernel)⟩
theorem fok_63 : FOK (5, 9, 2564) := ⟨by decide +kernel, by decide +kernel, by decide +kernel, _, rfl, Or.inl (tm1 139 (by decide +kernel)), fun _ => tm1 139 (by decide +kernel)⟩
theorem fok_64 : FOK (5, 15, 2572) := ⟨by decide +kernel, by decide +kernel, by decide +kernel, _, rfl, Or.inl (tm1 140 (by decide +kernel)), fun _ => tm1 140 (by decide +kernel)⟩
theorem fok_65 : FOK (6, 9, 3076) := ⟨by decide +kernel, by decide +kernel, by decide +kernel, _, rfl, Or.inl (tm2 54 (by decide +kernel)), fun _ => tm2 54 (by decide +kernel)⟩
theorem fok_66 : FOK (6, 15, 3092) := ⟨by decide +kernel, by decide +kernel, by decide +kernel, _, rfl, Or.inl (tm2 56 (by decide +kernel)), fun _ => tm2 56 (by decide +kernel)⟩
theorem fok_67 : FOK (6, 18, 3100) := ⟨by decide +kernel, by decide +kernel, by decide +kernel, _, rfl, Or.inl (tm2 57 (by decide +kernel)), fun _ => tm2 57 (by decide +kernel)⟩
theorem fok_68 : FOK (6, 21, 3080) := ⟨by decide +kernel, by decide +kernel, by decide +kernel, _, rfl, Or.inl (tm2 55 (by decide +kernel)), fun _ => tm2 55 (by decide +kernel)⟩
theorem fok_69 : FOK (6, 31, 4692) := ⟨by decide +kernel, by decide +kernel, by decide +kernel, _, rfl, Or.inr ⟨"DigHouse", tm1 170 (by decide +kernel)⟩, fun h => absurd h (by decide +kernel)⟩
theorem fok_70 : FOK (6, 36, 4652) := ⟨by decide +kernel, by decide +kernel, by decide +kernel, _, rfl, Or.inr ⟨"DigHouse", tm1 159 (by decide +kernel)⟩, fun h => absurd h (by decide +kernel)⟩
theorem fok_71 : FOK (6, 39, 4684) := ⟨by decide +kernel, by decide +kernel, by decide +kernel, _, rfl, Or.inr ⟨"DigHouse", tm1 168 (by decide +kernel)⟩, fun h => absurd h (by decide +kernel)⟩
theorem fok_72 : FOK (6, 50, 4660) := ⟨by decide +kernel, by decide +kernel, by decide +kernel, _, rfl, Or.inr ⟨"DigHouse", tm1 162 (by decide +kernel)⟩, fun h => absurd h (by decide +kernel)⟩
theorem fok_73 : FOK (6, 53, 4676) := ⟨by decide +kernel, by decide +kernel, by decide +kernel, _, rfl, Or.inr ⟨"DigHouse", tm1 166 (by decide +kernel)⟩, fun h => absurd h (by decide +kernel)⟩
theorem fok_74 : FOK (6, 56, 4668) := ⟨by decide +kernel, by decide +kernel, by decide +kernel, _, rfl, Or.inr ⟨"DigHouse", tm1 164 (by decide +kernel)⟩, fun h => absurd h (by decide +kernel)⟩
theorem fok_75 : FOK (7, 11, 3668) := ⟨by decide +kernel, by decide +kernel, by decide +kernel, _, rfl, Or.inl (tm2 1 (by decide +kernel)), fun _ => tm2 1 (by decide +kernel)⟩
theorem fok_76 : FOK (7, 22, 3588) := ⟨by decide +kernel, by decide +kernel, by decide +kernel, _, rfl, Or.inl (tm1 231 (by decide +kernel)), fun _ => tm1 231 (by decide +kernel)⟩
theorem fok_77 : FOK (7, 26, 3596) := ⟨by decide +kernel, by decide +kernel, by decide +kernel, _, rfl, Or.inl (tm1 232 (by decide +kernel)), fun _ => tm1 232 (by decide +kernel)⟩
theorem fok_78 : FOK (7, 29, 3604) := ⟨by decide +kernel, by decide +kernel, by decide +kernel, _, rfl, Or.inl (tm1 233 (by decide +kernel)), fun _ => tm1 233 (by decide +kernel)⟩
theorem fok_79 : FOK (7, 32, 3612) := ⟨by decide +kernel, by decide +kernel, by decide +kernel, _, rfl, Or.inl (tm1 234 (by decide +kernel)), fun _ => tm1 234 (by decide +kernel)⟩
theorem fok_80 : FOK (7, 35, 3620) := ⟨by decide +kernel, by decide +kernel, by decide +kernel, _, rfl, Or.inl (tm1 235 (by decide +kernel)), fun _ => tm1 235 (by decide +kernel)⟩
theorem fok_81 : FOK (7, 38, 3628) := ⟨by decide +kernel, by decide +kernel, by decide +kernel, _, rfl, Or.inl (tm1 236 (by decide +kernel)), fun _ => tm1 236 (by decide +kernel)⟩
theorem fok_82 : FOK (7, 41, 3636) := ⟨by decide +kernel, by decide +kernel, by decide +kernel, _, rfl, Or.inl (tm1 237 (by decide +kernel)), fun _ => tm1 237 (by decide +kernel)⟩
theorem fok_83 : FOK (7, 44, 3644) := ⟨by decide +kernel, by decide +kernel, by decide +kernel, _, rfl, Or.inl (tm1 238 (by decide +kernel)), fun _ => tm1 238 (by decide +kernel)⟩
theorem fok_84 : FOK (7, 47, 3652) := ⟨by decide +kernel, by decide +kernel, by decide +kernel, _, rfl, Or.inl (tm1 239 (by decide +kernel)), fun _ => tm1 239 (by decide +kernel)⟩
theorem fok_85 : FOK (7, 50, 3660) := ⟨by decide +kernel, by decide +kernel, by decide +kernel, _, rfl, Or.inl (tm2 0 (by decide +kernel)), fun _ => tm2 0 (by decide +kernel)⟩
theorem fok_86 : FOK (7, 53, 1028) := ⟨by decide +kernel, by decide +kernel, by decide +kernel, _, rfl, Or.inl (tm1 75 (by decide +kernel)), fun _ => tm1 75 (by decide +kernel)⟩
theorem fok_87 : FOK (7, 77, 1536) := ⟨by decide +kernel, by decide +kernel, by decide +kernel, _, rfl, Or.inl (tm4 95 (by decide +kernel)), fun _ => tm4 95 (by decide +kernel)⟩
theorem fok_88 : FOK (7, 118, 1544) := ⟨by decide +kernel, by decide +kernel, by decide +kernel, _, rfl, Or.inl (tm4 99 (by decide +kernel)), fun _ => tm4 99 (by decide +kernel)⟩
theorem fok_89 : FOK (7, 121, 1556) := ⟨by decide +kernel, by decide +kernel, by decide +kernel, _, rfl, Or.inl (tm4 103 (by decide +kernel)), fun _ => tm4 103 (by decide +kernel)⟩
theorem fok_90 : FOK (8, 9, 4148) := ⟨by decide +kernel, by decide +kernel, by decide +kernel, _, rfl, Or.inl (tm1 99 (by decide +kernel)), fun _ => tm1 99 (by decide +kernel)⟩
theorem fok_91 : FOK (8, 15, 4168) := ⟨by decide +kernel, by decide +kernel, by decide +kernel, _, rfl, Or.inl (tm1 105 (by decide +kernel)), fun _ => tm1 105 (by decide +kernel)⟩
theorem fok_92 : FOK (8, 24, 4100) := ⟨by decide +kernel, by decide +kernel, by decide +kernel, _, rfl, Or.inl (tm1 85 (by decide +kernel)), fun _ => tm1 85 (by decide +kernel)⟩
theorem fok_93 : FOK (8, 28, 4108) := ⟨by decide +kernel, by decide +kernel, by decide +kernel, _, rfl, Or.inl (tm1 88 (by decide +kernel)), fun _ => tm1 88 (by decide +kernel)⟩
theorem fok_94 : FOK (8, 31, 4116) := ⟨by decide +kernel, by decide +kernel, by decide +kernel, _, rfl, Or.inl (tm1 91 (by decide +kernel)), fun _ => tm1 91 (by decide +kernel)⟩
theorem fok_95 : FOK (8, 34, 4124) := ⟨by decide +kernel, by decide +kernel, by decide +kernel, _, rfl, Or.inl (tm1 94 (by decide +kernel)), fun _ => tm1 94 (by decide +kernel)⟩
theorem fok_96 : FOK (8, 37, 4132) := ⟨by decide +kernel, by decide +kernel, by decide +kernel, _, rfl, Or.inl (tm1 97 (by decide +kernel)), fun _ => tm1 97 (by decide +kernel)⟩
theorem fok_97 : FOK (8, 40, 4140) := ⟨by decide +kernel, by decide +kernel, by decide +kernel, _, rfl, Or.inl (tm1 98 (by decide +kernel)), fun _ => tm1 98 (by decide +kernel)⟩
theorem fok_98 : FOK (8, 43, 1028) := ⟨by decide +kernel, by decide +kernel, by decide +kernel, _, rfl, Or.inl (tm1 73 (by decide +kernel)), fun _ => tm1 73 (by decide +kernel)⟩
theorem fok_99 : FOK (8, 53, 4160) := ⟨by decide +kernel, by decide +kernel, by decide +kernel, _, rfl, Or.inl (tm1 103 (by decide +kernel)), fun _ => tm1 103 (by decide +kernel)⟩
theorem fok_100 : FOK (8, 68, 4152) := ⟨by decide +kernel, by decide +kernel, by decide +kernel, _, rfl, Or.inl (tm1 100 (by decide +kernel)), fun _ => tm1 100 (by decide +kernel)⟩
theorem fok_101 : FOK (9, 9, 4652) := ⟨by decide +kernel, by decide +kernel, by decide +kernel, _, rfl, Or.inl (tm1 157 (by decide +kernel)), fun _ => tm1 157 (by decide +kernel)⟩
theorem fok_102 : FOK (9, 15, 4660) := ⟨by decide +kernel, by decide +kernel, by decide +kernel, _, rfl, Or.inl (tm1 160 (by decide +kernel)), fun _ => tm1 160 (by decide +kernel)⟩
theorem fok_103 : FOK (9, 18, 4668) := ⟨by decide +kernel, by decide +kernel, by decide +kernel, _, rfl, Or.inl (tm1 163 (by decide +kernel)), fun _ => tm1 163 (by decide +kernel)⟩
theorem fok_104 : FOK (9, 21, 4676) := ⟨by decide +kernel, by decide +kernel, by decide +kernel, _, rfl, Or.inl (tm1 165 (by decide +kernel)), fun _ => tm1 165 (by decide +kernel)⟩
theorem fok_105 : FOK (9, 24, 4684) := ⟨by decide +kernel, by decide +kernel, by decide +kernel, _, rfl, Or.inl (tm1 167 (by decide +kernel)), fun _ => tm1 167 (by decide +kernel)⟩
theorem fok_106 : FOK (9, 27, 4692) := ⟨by decide +kernel, by decide +kernel, by decide +kernel, _, rfl, Or.inl (tm1 169 (by decide +kernel)), fun _ => tm1 169 (by decide +kernel)⟩
theorem fok_107 : FOK (9, 30, 4700) := ⟨by decide +kernel, by decide +kernel, by decide +kernel, _, rfl, Or.inl (tm1 171 (by decide +kernel)), fun _ => tm1 171 (by decide +kernel)⟩
theorem fok_108 : FOK (9, 33, 4708) := ⟨by decide +kernel, by decide +kernel, by decide +kernel, _, rfl, Or.inl (tm1 172 (by decide +kernel)), fun _ => tm1 172 (by decide +kernel)⟩
theorem fok_109 : FOK (9, 36, 4716) := ⟨by decide +kernel, by decide +kernel, by decide +kernel, _, rfl, Or.inl (tm1 173 (by decide +kernel)), fun _ => tm1 173 (by decide +kernel)⟩
theorem fok_110 : FOK (9, 42, 4724) := ⟨by decide +kernel, by decide +kernel, by decide +kernel, _, rfl, Or.inl (tm1 174 (by decide +kernel)), fun _ => tm1 174 (by decide +kernel)⟩
theorem fok_111 : FOK (9, 46, 4732) := ⟨by decide +kernel, by decide +kernel, by decide +kernel, _, rfl, Or.inl (tm1 175 (by decide +kernel)), fun _ => tm1 175 (by decide +kernel)⟩
theorem fok_112 : FOK (9, 49, 4740) := ⟨by decide +kernel, by decide +kernel, by decide +kernel, _, rfl, Or.inl (tm1 176 (by decide +kernel)), fun _ => tm1 176 (by decide +kernel)⟩
theorem fok_113 : FOK (9, 52, 4748) := ⟨by decide +kernel, by decide +kernel, by decide +kernel, _, rfl, Or.inl (tm1 177 (by decide +kernel)), fun _ => tm1 177 (by decide +kernel)⟩
theorem fok_114 : FOK (9, 55, 4760) := ⟨by decide +kernel, by decide +kernel, by decide +kernel, _, rfl, Or.inl (tm1 179 (by decide +kernel)), fun _ => tm1 179 (by decide +kernel)⟩
theorem fok_115 : FOK (9, 59, 4644) := ⟨by decide +kernel, by decide +kernel, by decide +kernel, _, rfl, Or.inl (tm1 156 (by decide +kernel)), fun _ => tm1 156 (by decide +kernel)⟩
theorem fok_116 : FOK (9, 68, 4612) := ⟨by decide +kernel, by decide +kernel, by decide +kernel, _, rfl, Or.inl (tm1 149 (by decide +kernel)), fun _ => tm1 149 (by decide +kernel)⟩
theorem fok_117 : FOK (9, 72, 4620) := ⟨by decide +kernel, by decide +kernel, by decide +kernel, _, rfl, Or.inl (tm1 151 (by decide +kernel)), fun _ => tm1 151 (by decide +kernel)⟩
theorem fok_118 : FOK (9, 75, 4628) := ⟨by decide +kernel, by decide +kernel, by decide +kernel, _, rfl, Or.inl (tm1 153 (by decide +kernel)), fun _ => tm1 153 (by decide +kernel)⟩
theorem fok_119 : FOK (9, 78, 4636) := ⟨by decide +kernel, by decide +kernel, by decide +kernel, _, rfl, Or.inl (tm1 155 (by decide +kernel)), fun _ => tm1 155 (by decide +kernel)⟩
theorem fok_120 : FOK (9, 81, 1028) := ⟨by decide +kernel, by decide +kernel, by decide +kernel, _, rfl, Or.inl (tm1 74 (by decide +kernel)), fun _ => tm1 74 (by decide +kernel)⟩
theorem fok_121 : FOK (9, 91, 4160) := ⟨by decide +kernel, by decide +kernel, by decide +kernel, _, rfl, Or.inl (tm1 102 (by decide +kernel)), fun _ => tm1 102 (by decide +kernel)⟩
theorem fok_122 : FOK (9, 103, 4752) := ⟨by decide +kernel, by decide +kernel, by decide +kernel, _, rfl, Or.inl (tm1 178 (by decide +kernel)), fun _ => tm1 178 (by decide +kernel)⟩
theorem fok_123 : FOK (10, 9, 5164) := ⟨by decide +kernel, by decide +kernel, by decide +kernel, _, rfl, Or.inl (tm2 72 (by decide +kernel)), fun _ => tm2 72 (by decide +kernel)⟩
theorem fok_124 : FOK (10, 15, 5172) := ⟨by decide +kernel, by decide +kernel, by decide +kernel, _, rfl, Or.inl (tm2 73 (by decide +kernel)), fun _ => tm2 73 (by decide +kernel)⟩
theorem fok_125 : FOK (10, 18, 5180) := ⟨by decide +kernel, by decide +kernel, by decide +kernel, _, rfl, Or.inl (tm2 74 (by decide +kernel)), fun _ => tm2 74 (by decide +kernel)⟩
theorem fok_126 : FOK (10, 21, 5188) := ⟨by decide +kernel, by decide +kernel, by decide +kernel, _, rfl, Or.inl (tm2 75 (by decide +kernel)), fun _ => tm2 75 (by decide +kernel)⟩
theorem fok_127 : FOK (10, 24, 5196) := ⟨by decide +kernel, by decide +kernel, by decide +kernel, _, rfl, Or.inl (tm2 76 (by decide +kernel)), fun _ => tm2 76 (by decide +kernel)⟩
theorem fok_128 : FOK (10, 27, 5204) := ⟨by decide +kernel, by decide +kernel, by decide +kernel, _, rfl, Or.inl (tm2 77 (by decide +kernel)), fun _ => tm2 77 (by decide +kernel)⟩
theorem fok_129 : FOK (10, 30, 5212) := ⟨by decide +kernel, by decide +kernel, by decide +kernel, _, rfl, Or.inl (tm2 78 (by decide +kernel)), fun _ => tm2 78 (by decide +kernel)⟩
theorem fok_130 : FOK (10, 33, 5220) := ⟨by decide +kernel, by decide +kernel, by decide +kernel, _, rfl, Or.inl (tm2 79 (by decide +kernel)), fun _ => tm2 79 (by decide +kernel)⟩
theorem fok_131 : FOK (10, 39, 5228) := ⟨by decide +kernel, by decide +kernel, by decide +kernel, _, rfl, Or.inl (tm2 80 (by decide +kernel)), fun _ => tm2 80 (by decide +kernel)⟩
theorem fok_132 : FOK (10, 43, 5232) := ⟨by decide +kernel, by decide +kernel, by decide +kernel, _, rfl, Or.inl (tm2 81 (by decide +kernel)), fun _ => tm2 81 (by decide +kernel)⟩
theorem fok_133 : FOK (10, 47, 5240) := ⟨by decide +kernel, by decide +kernel, by decide +kernel, _, rfl, Or.inl (tm2 82 (by decide +kernel)), fun _ => tm2 82 (by decide +kernel)⟩
theorem fok_134 : FOK (10, 50, 5124) := ⟨by decide +kernel, by decide +kernel, by decide +kernel, _, rfl, Or.inl (tm2 67 (by decide +kernel)), fun _ => tm2 67 (by decide +kernel)⟩
theorem fok_135 : FOK (10, 54, 5132) := ⟨by decide +kernel, by decide +kernel, by decide +kernel, _, rfl, Or.inl (tm2 68 (by decide +kernel)), fun _ => tm2 68 (by decide +kernel)⟩
theorem fok_136 : FOK (10, 58, 5140) := ⟨by decide +kernel, by decide +kernel, by decide +kernel, _, rfl, Or.inl (tm2 69 (by decide +kernel)), fun _ => tm2 69 (by decide +kernel)⟩
theorem fok_137 : FOK (10, 62, 5148) := ⟨by decide +kernel, by decide +kernel, by decide +kernel, _, rfl, Or.inl (tm2 70 (by decide +kernel)), fun _ => tm2 70 (by decide +kernel)⟩
theorem fok_138 : FOK (10, 66, 5156) := ⟨by decide +kernel, by decide +kernel, by decide +kernel, _, rfl, Or.inl (tm2 71 (by decide +kernel)), fun _ => tm2 71 (by decide +kernel)⟩
theorem fok_139 : FOK (10, 94, 4116) := ⟨by decide +kernel, by decide +kernel, by decide +kernel, _, rfl, Or.inl (tm1 92 (by decide +kernel)), fun _ => tm1 92 (by decide +kernel)⟩
theorem fok_140 : FOK (10, 98, 1028) := ⟨by decide +kernel, by decide +kernel, by decide +kernel, _, rfl, Or.inl (tm1 77 (by decide +kernel)), fun _ => tm1 77 (by decide +kernel)⟩
theorem fok_141 : FOK (10, 103, 4124) := ⟨by decide +kernel, by decide +kernel, by decide +kernel, _, rfl, Or.inl (tm1 95 (by decide +kernel)), fun _ => tm1 95 (by decide +kernel)⟩
theorem fok_142 : FOK (10, 136, 1536) := ⟨by decide +kernel, by decide +kernel, by decide +kernel, _, rfl, Or.inl (tm4 94 (by decide +kernel)), fun _ => tm4 94 (by decide +kernel)⟩
theorem fok_143 : FOK (10, 151, 1561) := ⟨by decide +kernel, by decide +kernel, by decide +kernel, _, rfl, Or.inl (tm4 105 (by decide +kernel)), fun _ => tm4 105 (by decide +kernel)⟩
theorem fok_144 : FOK (10, 155, 1579) := ⟨by decide +kernel, by decide +kernel, by decide +kernel, _, rfl, Or.inl (tm4 109 (by decide +kernel)), fun _ => tm4 109 (by decide +kernel)⟩
theorem fok_145 : FOK (10, 159, 1571) := ⟨by decide +kernel, by decide +kernel, by decide +kernel, _, rfl, Or.inl (tm4 107 (by decide +kernel)), fun _ => tm4 107 (by decide +kernel)⟩
theorem fok_146 : FOK (10, 175, 1544) := ⟨by decide +kernel, by decide +kernel, by decide +kernel, _, rfl, Or.inl (tm4 98 (by decide +kernel)), fun _ => tm4 98 (by decide +kernel)⟩
theorem fok_147 : FOK (10, 181, 5248) := ⟨by decide +kernel, by decide +kernel, by decide +kernel, _, rfl, Or.inl (tm2 83 (by decide +kernel)), fun _ => tm2 83 (by decide +kernel)⟩
theorem fok_148 : FOK (10, 185, 5256) := ⟨by decide +kernel, by decide +kernel, by decide +kernel, _, rfl, Or.inl (tm2 84 (by decide +kernel)), fun _ => tm2 84 (by decide +kernel)⟩
theorem fok_149 : FOK (12, 7, 6164) := ⟨by decide +kernel, by decide +kernel, by decide +kernel, _, rfl, Or.inl (tm6 68 (by decide +kernel)), fun _ => tm6 68 (by decide +kernel)⟩
theorem fok_150 : FOK (12, 13, 6172) := ⟨by decide +kernel, by decide +kernel, by decide +kernel, _, rfl, Or.inl (tm6 69 (by decide +kernel)), fun _ => tm6 69 (by decide +kernel)⟩
theorem fok_151 : FOK (12, 16, 6180) := ⟨by decide +kernel, by decide +kernel, by decide +kernel, _, rfl, Or.inl (tm6 70 (by decide +kernel)), fun _ => tm6 70 (by decide +kernel)⟩
theorem fok_152 : FOK (12, 19, 6188) := ⟨by decide +kernel, by decide +kernel, by decide +kernel, _, rfl, Or.inl (tm6 71 (by decide +kernel)), fun _ => tm6 71 (by decide +kernel)⟩
theorem fok_153 : FOK (12, 22, 6196) := ⟨by decide +kernel, by decide +kernel, by decide +kernel, _, rfl, Or.inl (tm6 72 (by decide +kernel)), fun _ => tm6 72 (by decide +kernel)⟩
theorem fok_154 : FOK (12, 25, 6212) := ⟨by decide +kernel, by decide +kernel, by decide +kernel, _, rfl, Or.inl (tm6 74 (by decide +kernel)), fun _ => tm6 74 (by decide +kernel)⟩
theorem fok_155 : FOK (12, 28, 6220) := ⟨by decide +kernel, by decide +kernel, by decide +kernel, _, rfl, Or.inl (tm6 75 (by decide +kernel)), fun _ => tm6 75 (by decide +kernel)⟩
theorem fok_156 : FOK (12, 31, 6228) := ⟨by decide +kernel, by decide +kernel, by decide +kernel, _, rfl, Or.inl (tm6 76 (by decide +kernel)), fun _ => tm6 76 (by decide +kernel)⟩
theorem fok_157 : FOK (12, 34, 6244) := ⟨by decide +kernel, by decide +kernel, by decide +kernel, _, rfl, Or.inl (tm6 78 (by decide +kernel)), fun _ => tm6 78 (by decide +kernel)⟩
theorem fok_158 : FOK (12, 37, 6252) := ⟨by decide +kernel, by decide +kernel, by decide +kernel, _, rfl, Or.inl (tm6 79 (by decide +kernel)), fun _ => tm6 79 (by decide +kernel)⟩
theorem fok_159 : FOK (12, 40, 6260) := ⟨by decide +kernel, by decide +kernel, by decide +kernel, _, rfl, Or.inl (tm6 80 (by decide +kernel)), fun _ => tm6 80 (by decide +kernel)⟩
theorem fok_160 : FOK (12, 43, 6268) := ⟨by decide +kernel, by decide +kernel, by decide +kernel, _, rfl, Or.inl (tm6 81 (by decide +kernel)), fun _ => tm6 81 (by decide +kernel)⟩
theorem fok_161 : FOK (12, 46, 6276) := ⟨by decide +kernel, by decide +kernel, by decide +kernel, _, rfl, Or.inl (tm6 82 (by decide +kernel)), fun _ => tm6 82 (by decide +kernel)⟩
theorem fok_162 : FOK (12, 49, 6284) := ⟨by decide +kernel, by decide +kernel, by decide +kernel, _, rfl, Or.inl (tm6 83 (by decide +kernel)), fun _ => tm6 83 (by decide +kernel)⟩
theorem fok_163 : FOK (12, 52, 6292) := ⟨by decide +kernel, by decide +kernel, by decide +kernel, _, rfl, Or.inl (tm6 84 (by decide +kernel)), fun _ => tm6 84 (by decide +kernel)⟩
theorem fok_164 : FOK (12, 55, 6300) := ⟨by decide +kernel, by decide +kernel, by decide +kernel, _, rfl, Or.inl (tm6 85 (by decide +kernel)), fun _ => tm6 85 (by decide +kernel)⟩
theorem fok_165 : FOK (12, 58, 6308) := ⟨by decide +kernel, by decide +kernel, by decide +kernel, _, rfl, Or.inl (tm6 86 (by decide +kernel)), fun _ => tm6 86 (by decide +kernel)⟩
theorem fok_166 : FOK (12, 62, 6316) := ⟨by decide +kernel, by decide +kernel, by decide +kernel, _, rfl, Or.inl (tm6 87 (by decide +kernel)), fun _ => tm6 87 (by decide +kernel)⟩
theorem fok_167 : FOK (12, 66, 6332) := ⟨by decide +kernel, by decide +kernel, by decide +kernel, _, rfl, Or.inl (tm6 89 (by decide +kernel)), fun _ => tm6 89 (by decide +kernel)⟩
theorem fok_168 : FOK (12, 69, 6340) := ⟨by decide +kernel, by decide +kernel, by decide +kernel, _, rfl, Or.inl (tm6 90 (by decide +kernel)), fun _ => tm6 90 (by decide +kernel)⟩
theorem fok_169 : FOK (12, 72, 6348) := ⟨by decide +kernel, by decide +kernel, by decide +kernel, _, rfl, Or.inl (tm6 91 (by decide +kernel)), fun _ => tm6 91 (by decide +kernel)⟩
theorem fok_170 : FOK (12, 75, 6388) := ⟨by decide +kernel, by decide +kernel, by decide +kernel, _, rfl, Or.inl (tm6 96 (by decide +kernel)), fun _ => tm6 96 (by decide +kernel)⟩
theorem fok_171 : FOK (12, 78, 6404) := ⟨by decide +kernel, by decide +kernel, by decide +kernel, _, rfl, Or.inl (tm6 98 (by decide +kernel)), fun _ => tm6 98 (by decide +kernel)⟩
theorem fok_172 : FOK (12, 81, 6412) := ⟨by decide +kernel, by decide +kernel, by decide +kernel, _, rfl, Or.inl (tm6 99 (by decide +kernel)), fun _ => tm6 99 (by decide +kernel)⟩
theorem fok_173 : FOK (12, 84, 6428) := ⟨by decide +kernel, by decide +kernel, by decide +kernel, _, rfl, Or.inl (tm6 101 (by decide +kernel)), fun _ => tm6 101 (by decide +kernel)⟩
theorem fok_174 : FOK (12, 87, 6436) := ⟨by decide +kernel, by decide +kernel, by decide +kernel, _, rfl, Or.inl (tm6 102 (by decide +kernel)), fun _ => tm6 102 (by decide +kernel)⟩
theorem fok_175 : FOK (12, 90, 6468) := ⟨by decide +kernel, by decide +kernel, by decide +kernel, _, rfl, Or.inl (tm6 106 (by decide +kernel)), fun _ => tm6 106 (by decide +kernel)⟩
theorem fok_176 : FOK (12, 93, 6476) := ⟨by decide +kernel, by decide +kernel, by decide +kernel, _, rfl, Or.inl (tm6 107 (by decide +kernel)), fun _ => tm6 107 (by decide +kernel)⟩
theorem fok_177 : FOK (12, 96, 6484) := ⟨by decide +kernel, by decide +kernel, by decide +kernel, _, rfl, Or.inl (tm6 108 (by decide +kernel)), fun _ => tm6 108 (by decide +kernel)⟩
theorem fok_178 : FOK (12, 100, 6492) := ⟨by decide +kernel, by decide +kernel, by decide +kernel, _, rfl, Or.inl (tm6 109 (by decide +kernel)), fun _ => tm6 109 (by decide +kernel)⟩
theorem fok_179 : FOK (12, 103, 6500) := ⟨by decide +kernel, by decide +kernel, by decide +kernel, _, rfl, Or.inl (tm6 110 (by decide +kernel)), fun _ => tm6 110 (by decide +kernel)⟩
theorem fok_180 : FOK (12, 106, 6508) := ⟨by decide +kernel, by decide +kernel, by decide +kernel, _, rfl, Or.inl (tm6 111 (by decide +kernel)), fun _ => tm6 111 (by decide +kernel)⟩
theorem fok_181 : FOK (12, 109, 6556) := ⟨by decide +kernel, by decide +kernel, by decide +kernel, _, rfl, Or.inl (tm6 117 (by decide +kernel)), fun _ => tm6 117 (by decide +kernel)⟩
theorem fok_182 : FOK (12, 112, 6564) := ⟨by decide +kernel, by decide +kernel, by decide +kernel, _, rfl, Or.inl (tm6 118 (by decide +kernel)), fun _ => tm6 118 (by decide +kernel)⟩
theorem fok_183 : FOK (12, 115, 6572) := ⟨by decide +kernel, by decide +kernel, by decide +kernel, _, rfl, Or.inl (tm6 119 (by decide +kernel)), fun _ => tm6 119 (by decide +kernel)⟩
theorem fok_184 : FOK (12, 119, 6580) := ⟨by decide +kernel, by decide +kernel, by decide +kernel, _, rfl, Or.inl (tm6 120 (by decide +kernel)), fun _ => tm6 120 (by decide +kernel)⟩
theorem fok_185 : FOK (12, 122, 6144) := ⟨by decide +kernel, by decide +kernel, by decide +kernel, _, rfl, Or.inl (tm6 66 (by decide +kernel)), fun _ => tm6 66 (by decide +kernel)⟩
theorem fok_186 : FOK (12, 130, 6353) := ⟨by decide +kernel, by decide +kernel, by decide +kernel, _, rfl, Or.inl (tm6 92 (by decide +kernel)), fun _ => tm6 92 (by decide +kernel)⟩
theorem fok_187 : FOK (12, 134, 6152) := ⟨by decide +kernel, by decide +kernel, by decide +kernel, _, rfl, Or.inl (tm6 67 (by decide +kernel)), fun _ => tm6 67 (by decide +kernel)⟩
theorem fok_188 : FOK (12, 137, 6232) := ⟨by decide +kernel, by decide +kernel, by decide +kernel, _, rfl, Or.inl (tm6 77 (by decide +kernel)), fun _ => tm6 77 (by decide +kernel)⟩
theorem fok_189 : FOK (12, 140, 6376) := ⟨by decide +kernel, by decide +kernel, by decide +kernel, _, rfl, Or.inl (tm6 95 (by decide +kernel)), fun _ => tm6 95 (by decide +kernel)⟩
theorem fok_190 : FOK (12, 170, 6368) := ⟨by decide +kernel, by decide +kernel, by decide +kernel, _, rfl, Or.inl (tm6 94 (by decide +kernel)), fun _ => tm6 94 (by decide +kernel)⟩
theorem fok_191 : FOK (12, 173, 6200) := ⟨by decide +kernel, by decide +kernel, by decide +kernel, _, rfl, Or.inl (tm6 73 (by decide +kernel)), fun _ => tm6 73 (by decide +kernel)⟩
theorem fok_192 : FOK (12, 180, 6416) := ⟨by decide +kernel, by decide +kernel, by decide +kernel, _, rfl, Or.inl (tm6 100 (by decide +kernel)), fun _ => tm6 100 (by decide +kernel)⟩
theorem fok_193 : FOK (12, 186, 6392) := ⟨by decide +kernel, by decide +kernel, by decide +kernel, _, rfl, Or.inl (tm6 97 (by decide +kernel)), fun _ => tm6 97 (by decide +kernel)⟩
theorem fok_194 : FOK (12, 196, 6441) := ⟨by decide +kernel, by decide +kernel, by decide +kernel, _, rfl, Or.inl (tm6 103 (by decide +kernel)), fun _ => tm6 103 (by decide +kernel)⟩
theorem fok_195 : FOK (12, 233, 6448) := ⟨by decide +kernel, by decide +kernel, by decide +kernel, _, rfl, Or.inl (tm6 104 (by decide +kernel)), fun _ => tm6 104 (by decide +kernel)⟩
theorem fok_196 : FOK (12, 236, 6320) := ⟨by decide +kernel, by decide +kernel, by decide +kernel, _, rfl, Or.inl (tm6 88 (by decide +kernel)), fun _ => tm6 88 (by decide +kernel)⟩
theorem fok_197 : FOK (12, 287, 6456) := ⟨by decide +kernel, by decide +kernel, by decide +kernel, _, rfl, Or.inl (tm6 105 (by decide +kernel)), fun _ => tm6 105 (by decide +kernel)⟩
theorem fok_198 : FOK (12, 294, 6360) := ⟨by decide +kernel, by decide +kernel, by decide +kernel, _, rfl, Or.inl (tm6 93 (by decide +kernel)), fun _ => tm6 93 (by decide +kernel)⟩
theorem fok_199 : FOK (12, 297, 6529) := ⟨by decide +kernel, by decide +kernel, by decide +kernel, _, rfl, Or.inl (tm6 114 (by decide +kernel)), fun _ => tm6 114 (by decide +kernel)⟩
theorem fok_200 : FOK (12, 300, 6537) := ⟨by decide +kernel, by decide +kernel, by decide +kernel, _, rfl, Or.inl (tm6 115 (by decide +kernel)), fun _ => tm6 115 (by decide +kernel)⟩
theorem fok_201 : FOK (12, 369, 6512) := ⟨by decide +kernel, by decide +kernel, by decide +kernel, _, rfl, Or.inl (tm6 112 (by decide +kernel)), fun _ => tm6 112 (by decide +kernel)⟩
theorem fok_202 : FOK (12, 372, 6520) := ⟨by decide +kernel, by decide +kernel, by decide +kernel, _, rfl, Or.inl (tm6 113 (by decide +kernel)), fun _ => tm6 113 (by decide +kernel)⟩
theorem fok_203 : FOK (12, 379, 6544) := ⟨by decide +kernel, by decide +kernel, by decide +kernel, _, rfl, Or.inl (tm6 116 (by decide +kernel)), fun _ => tm6 116 (by decide +kernel)⟩
theorem fok_204 : FOK (12, 399, 6586) := ⟨by decide +kernel, by decide +kernel, by decide +kernel, _, rfl, Or.inl (tm6 121 (by decide +kernel)), fun _ => tm6 121 (by decide +kernel)⟩
theorem fokb_0 : ∀ x ∈ [(11, 10, 5636), (11, 21, 5644), (11, 30, 5652), (11, 37, 5660), (11, 44, 5684), (11, 48, 5692), (11, 56, 5668), (11, 65, 5676), (11, 72, 5700), (11, 76, 5708), (11, 80, 5720), (11, 91, 5712), (11, 119, 17), (11, 169, 4612), (11, 173, 1028), (11, 178, 4620), (11, 181, 4628), (11, 245, 1556), (11, 262, 1536), (11, 289, 1544)], FOK x := List.forall_mem_cons.mpr ⟨fok_0, List.forall_mem_cons.mpr ⟨fok_1, List.forall_mem_cons.mpr ⟨fok_2, List.forall_mem_cons.mpr ⟨fok_3, List.forall_mem_cons.mpr ⟨fok_4, List.forall_mem_cons.mpr ⟨fok_5, List.forall_mem_cons.mpr ⟨fok_6, List.forall_mem_cons.mpr ⟨fok_7, List.forall_mem_cons.mpr ⟨fok_8, List.forall_mem_cons.mpr ⟨fok_9, List.forall_mem_cons.mpr ⟨fok_10, List.forall_mem_cons.mpr ⟨fok_11, List.forall_mem_cons.mpr ⟨fok_12, List.forall_mem_cons.mpr ⟨fok_13, List.forall_mem_cons.mpr ⟨fok_14, List.forall_mem_cons.mpr ⟨fok_15, List.forall_mem_cons.mpr ⟨fok_16, List.forall_mem_cons.mpr ⟨fok_17, List.forall_mem_cons.mpr ⟨fok_18, List.forall_mem_cons.mpr ⟨fok_19, fun _ h => absurd h List.not_mem_nil⟩⟩⟩⟩⟩⟩⟩⟩⟩⟩⟩⟩⟩⟩⟩⟩⟩⟩⟩⟩
theorem fokb_1 : ∀ x ∈ [(11, 310, 4116), (11, 316, 4124), (11, 361, 4160), (11, 379, 4100), (11, 382, 4108), (0, 9, 4), (0, 15, 8), (0, 19, 4100), (0, 25, 1028), (0, 30, 4108), (0, 33, 17), (1, 9, 516), (1, 17, 532), (1, 21, 540), (1, 24, 548), (1, 27, 520), (1, 31, 560), (1, 34, 552), (2, 7, 1036), (2, 13, 1028)], FOK x := List.forall_mem_cons.mpr ⟨fok_20, List.forall_mem_cons.mpr ⟨fok_21, List.forall_mem_cons.mpr ⟨fok_22, List.forall_mem_cons.mpr ⟨fok_23, List.forall_mem_cons.mpr ⟨fok_24, List.forall_mem_cons.mpr ⟨fok_25, List.forall_mem_cons.mpr ⟨fok_26, List.forall_mem_cons.mpr ⟨fok_27, List.forall_mem_cons.mpr ⟨fok_28, List.forall_mem_cons.mpr ⟨fok_29, List.forall_mem_cons.mpr ⟨fok_30, List.forall_mem_cons.mpr ⟨fok_31, List.forall_mem_cons.mpr ⟨fok_32, List.forall_mem_cons.mpr ⟨fok_33, List.forall_mem_cons.mpr ⟨fok_34, List.forall_mem_cons.mpr ⟨fok_35, List.forall_mem_cons.mpr ⟨fok_36, List.forall_mem_cons.mpr ⟨fok_37, List.forall_mem_cons.mpr ⟨fok_38, List.forall_mem_cons.mpr ⟨fok_39, fun _ h => absurd h List.not_mem_nil⟩⟩⟩⟩⟩⟩⟩⟩⟩⟩⟩⟩⟩⟩⟩⟩⟩⟩⟩⟩
theorem fokb_2 : ∀ x ∈ [(3, 9, 1536), (3, 15, 1544), (3, 18, 1556), (3, 29, 1561), (3, 37, 1571), (3, 41, 1579), (4, 9, 2068), (4, 15, 2076), (4, 18, 2084), (4, 21, 2092), (4, 24, 2104), (4, 28, 2112), (4, 31, 2120), (4, 34, 2140), (4, 37, 2148), (4, 40, 2156), (4, 44, 2052), (4, 48, 2060), (4, 58, 4160), (4, 66, 2096)], FOK x := List.forall_mem_cons.mpr ⟨fok_40, List.forall_mem_cons.mpr ⟨fok_41, List.forall_mem_cons.mpr ⟨fok_42, List.forall_mem_cons.mpr ⟨fok_43, List.forall_mem_cons.mpr ⟨fok_44, List.forall_mem_cons.mpr ⟨fok_45, List.forall_mem_cons.mpr ⟨fok_46, List.forall_mem_cons.mpr ⟨fok_47, List.forall_mem_cons.mpr ⟨fok_48, List.forall_mem_cons.mpr ⟨fok_49, List.forall_mem_cons.mpr ⟨fok_50, List.forall_mem_cons.mpr ⟨fok_51, List.forall_mem_cons.mpr ⟨fok_52, List.forall_mem_cons.mpr ⟨fok_53, List.forall_mem_cons.mpr ⟨fok_54, List.forall_mem_cons.mpr ⟨fok_55, List.forall_mem_cons.mpr ⟨fok_56, List.forall_mem_cons.mpr ⟨fok_57, List.forall_mem_cons.mpr ⟨fok_58, List.forall_mem_cons.mpr ⟨fok_59, fun _ h => absurd h List.not_mem_nil⟩⟩⟩⟩⟩⟩⟩⟩⟩⟩⟩⟩⟩⟩⟩⟩⟩⟩⟩⟩
theorem fokb_3 : ∀ x ∈ [(4, 77, 4652), (4, 80, 4660), (4, 100, 2130), (5, 9, 2564), (5, 15, 2572), (6, 9, 3076), (6, 15, 3092), (6, 18, 3100), (6, 21, 3080), (6, 31, 4692), (6, 36, 4652), (6, 39, 4684), (6, 50, 4660), (6, 53, 4676), (6, 56, 4668), (7, 11, 3668), (7, 22, 3588), (7, 26, 3596), (7, 29, 3604), (7, 32, 3612)], FOK x := List.forall_mem_cons.mpr ⟨fok_60, List.forall_mem_cons.mpr ⟨fok_61, List.forall_mem_cons.mpr ⟨fok_62, List.forall_mem_cons.mpr ⟨fok_63, List.forall_mem_cons.mpr ⟨fok_64, List.forall_mem_cons.mpr ⟨fok_65, List.forall_mem_cons.mpr ⟨fok_66, List.forall_mem_cons.mpr ⟨fok_67, List.forall_mem_cons.mpr ⟨fok_68, List.forall_mem_cons.mpr ⟨fok_69, List.forall_mem_cons.mpr ⟨fok_70, List.forall_mem_cons.mpr ⟨fok_71, List.forall_mem_cons.mpr ⟨fok_72, List.forall_mem_cons.mpr ⟨fok_73, List.forall_mem_cons.mpr ⟨fok_74, List.forall_mem_cons.mpr ⟨fok_75, List.forall_mem_cons.mpr ⟨fok_76, List.forall_mem_cons.mpr ⟨fok_77, List.forall_mem_cons.mpr ⟨fok_78, List.forall_mem_cons.mpr ⟨fok_79, fun _ h => absurd h List.not_mem_nil⟩⟩⟩⟩⟩⟩⟩⟩⟩⟩⟩⟩⟩⟩⟩⟩⟩⟩⟩⟩
theorem fokb_4 : ∀ x ∈ [(7, 35, 3620), (7, 38, 3628), (7, 41, 3636), (7, 44, 3644), (7, 47, 3652), (7, 50, 3660), (7, 53, 1028), (7, 77, 1536), (7, 118, 1544), (7, 121, 1556), (8, 9, 4148), (8, 15, 4168), (8, 24, 4100), (8, 28, 4108), (8, 31, 4116), (8, 34, 4124), (8, 37, 4132), (8, 40, 4140), (8, 43, 1028), (8, 53, 4160)], FOK x := List.forall_mem_cons.mpr ⟨fok_80, List.forall_mem_cons.mpr ⟨fok_81, List.forall_mem_cons.mpr ⟨fok_82, List.forall_mem_cons.mpr ⟨fok_83, List.forall_mem_cons.mpr ⟨fok_84, List.forall_mem_cons.mpr ⟨fok_85, List.forall_mem_cons.mpr ⟨fok_86, List.forall_mem_cons.mpr ⟨fok_87, List.forall_mem_cons.mpr ⟨fok_88, List.forall_mem_cons.mpr ⟨fok_89, List.forall_mem_cons.mpr ⟨fok_90, List.forall_mem_cons.mpr ⟨fok_91, List.forall_mem_cons.mpr ⟨fok_92, List.forall_mem_cons.mpr ⟨fok_93, List.forall_mem_cons.mpr ⟨fok_94, List.forall_mem_cons.mpr ⟨fok_95, List.forall_mem_cons.mpr ⟨fok_96, List.forall_mem_cons.mpr ⟨fok_97, List.forall_mem_cons.mpr ⟨fok_98, List.forall_mem_cons.mpr ⟨fok_99, fun _ h => absurd h List.not_mem_nil⟩⟩⟩⟩⟩⟩⟩⟩⟩⟩⟩⟩⟩⟩⟩⟩⟩⟩⟩⟩
theorem fokb_5 : ∀ x ∈ [(8, 68, 4152), (9, 9, 4652), (9, 15, 4660), (9, 18, 4668), (9, 21, 4676), (9, 24, 4684), (9, 27, 4692), (9, 30, 4700), (9, 33, 4708), (9, 36, 4716), (9, 42, 4724), (9, 46, 4732), (9, 49, 4740), (9, 52, 4748), (9, 55, 4760), (9, 59, 4644), (9, 68, 4612), (9, 72, 4620), (9, 75, 4628), (9, 78, 4636)], FOK x := List.forall_mem_cons.mpr ⟨fok_100, List.forall_mem_cons.mpr ⟨fok_101, List.forall_mem_cons.mpr ⟨fok_102, List.forall_mem_cons.mpr ⟨fok_103, List.forall_mem_cons.mpr ⟨fok_104, List.forall_mem_cons.mpr ⟨fok_105, List.forall_mem_cons.mpr ⟨fok_106, List.forall_mem_cons.mpr ⟨fok_107, List.forall_mem_cons.mpr ⟨fok_108, List.forall_mem_cons.mpr ⟨fok_109, List.forall_mem_cons.mpr ⟨fok_110, List.forall_mem_cons.mpr ⟨fok_111, List.forall_mem_cons.mpr ⟨fok_112, List.forall_mem_cons.mpr ⟨fok_113, List.forall_mem_cons.mpr ⟨fok_114, List.forall_mem_cons.mpr ⟨fok_115, List.forall_mem_cons.mpr ⟨fok_116, List.forall_mem_cons.mpr ⟨fok_117, List.forall_mem_cons.mpr ⟨fok_118, List.forall_mem_cons.mpr ⟨fok_119, fun _ h => absurd h List.not_mem_nil⟩⟩⟩⟩⟩⟩⟩⟩⟩⟩⟩⟩⟩⟩⟩⟩⟩⟩⟩⟩
theorem fokb_6 : ∀ x ∈ [(9, 81, 1028), (9, 91, 4160), (9, 103, 4752), (10, 9, 5164), (10, 15, 5172), (10, 18, 5180), (10, 21, 5188), (10, 24, 5196), (10, 27, 5204), (10, 30, 5212), (10, 33, 5220), (10, 39, 5228), (10, 43, 5232), (10, 47, 5240), (10, 50, 5124), (10, 54, 5132), (10, 58, 5140), (10, 62, 5148), (10, 66, 5156), (10, 94, 4116)], FOK x := List.forall_mem_cons.mpr ⟨fok_120, List.forall_mem_cons.mpr ⟨fok_121, List.forall_mem_cons.mpr ⟨fok_122, List.forall_mem_cons.mpr ⟨fok_123, List.forall_mem_cons.mpr ⟨fok_124, List.forall_mem_cons.mpr ⟨fok_125, List.forall_mem_cons.mpr ⟨fok_126, List.forall_mem_cons.mpr ⟨fok_127, List.forall_mem_cons.mpr ⟨fok_128, List.forall_mem_cons.mpr ⟨fok_129, List.forall_mem_cons.mpr ⟨fok_130, List.forall_mem_cons.mpr ⟨fok_131, List.forall_mem_cons.mpr ⟨fok_132, List.forall_mem_cons.mpr ⟨fok_133, List.forall_mem_cons.mpr ⟨fok_134, List.forall_mem_cons.mpr ⟨fok_135, List.forall_mem_cons.mpr ⟨fok_136, List.forall_mem_cons.mpr ⟨fok_137, List.forall_mem_cons.mpr ⟨fok_138, List.forall_mem_cons.mpr ⟨fok_139, fun _ h => absurd h List.not_mem_nil⟩⟩⟩⟩⟩⟩⟩⟩⟩⟩⟩⟩⟩⟩⟩⟩⟩⟩⟩⟩
theorem fokb_7 : ∀ x ∈ [(10, 98, 1028), (10, 103, 4124), (10, 136, 1536), (10, 151, 1561), (10, 155, 1579), (10, 159, 1571), (10, 175, 1544), (10, 181, 5248), (10, 185, 5256), (12, 7, 6164), (12, 13, 6172), (12, 16, 6180), (12, 19, 6188), (12, 22, 6196), (12, 25, 6212), (12, 28, 6220), (12, 31, 6228), (12, 34, 6244), (12, 37, 6252), (12, 40, 6260)], FOK x := List.forall_mem_cons.mpr ⟨fok_140, List.forall_mem_cons.mpr ⟨fok_141, List.forall_mem_cons.mpr ⟨fok_142, List.forall_mem_cons.mpr ⟨fok_143, List.forall_mem_cons.mpr ⟨fok_144, List.forall_mem_cons.mpr ⟨fok_145, List.forall_mem_cons.mpr ⟨fok_146, List.forall_mem_cons.mpr ⟨fok_147, List.forall_mem_cons.mpr ⟨fok_148, List.forall_mem_cons.mpr ⟨fok_149, List.forall_mem_cons.mpr ⟨fok_150, List.forall_mem_cons.mpr ⟨fok_151, List.forall_mem_cons.mpr ⟨fok_152, List.forall_mem_cons.mpr ⟨fok_153, List.forall_mem_cons.mpr ⟨fok_154, List.forall_mem_cons.mpr ⟨fok_155, List.forall_mem_cons.mpr ⟨fok_156, List.forall_mem_cons.mpr ⟨fok_157, List.forall_mem_cons.mpr ⟨fok_158, List.forall_mem_cons.mpr ⟨fok_159, fun _ h => absurd h List.not_mem_nil⟩⟩⟩⟩⟩⟩⟩⟩⟩⟩⟩⟩⟩⟩⟩⟩⟩⟩⟩⟩
theorem fokb_8 : ∀ x ∈ [(12, 43, 6268), (12, 46, 6276), (12, 49, 6284), (12, 52, 6292), (12, 55, 6300), (12, 58, 6308), (12, 62, 6316), (12, 66, 6332), (12, 69, 6340), (12, 72, 6348), (12, 75, 6388), (12, 78, 6404), (12, 81, 6412), (12, 84, 6428), (12, 87, 6436), (12, 90, 6468), (12, 93, 6476), (12, 96, 6484), (12, 100, 6492), (12, 103, 6500)], FOK x := List.forall_mem_cons.mpr ⟨fok_160, List.forall_mem_cons.mpr ⟨fok_161, List.forall_mem_cons.mpr ⟨fok_162, List.forall_mem_cons.mpr ⟨fok_163, List.forall_mem_cons.mpr ⟨fok_164, List.forall_mem_cons.mpr ⟨fok_165, List.forall_mem_cons.mpr ⟨fok_166, List.forall_mem_cons.mpr ⟨fok_167, List.forall_mem_cons.mpr ⟨fok_168, List.forall_mem_cons.mpr ⟨fok_169, List.forall_mem_cons.mpr ⟨fok_170, List.forall_mem_cons.mpr ⟨fok_171, List.forall_mem_cons.mpr ⟨fok_172, List.forall_mem_cons.mpr ⟨fok_173, List.forall_mem_cons.mpr ⟨fok_174, List.forall_mem_cons.mpr ⟨fok_175, List.forall_mem_cons.mpr ⟨fok_176, List.forall_mem_cons.mpr ⟨fok_177, List.forall_mem_cons.mpr ⟨fok_178, List.forall_mem_cons.mpr ⟨fok_179, fun _ h => absurd h List.not_mem_nil⟩⟩⟩⟩⟩⟩⟩⟩⟩⟩⟩⟩⟩⟩⟩⟩⟩⟩⟩⟩
theorem fokb_9 : ∀ x ∈ [(12, 106, 6508), (12, 109, 6556), (12, 112, 6564), (12, 115, 6572), (12, 119, 6580), (12, 122, 6144), (12, 130, 6353), (12, 134, 6152), (12, 137, 6232), (12, 140, 6376), (12, 170, 6368), (12, 173, 6200), (12, 180, 6416), (12, 186, 6392), (12, 196, 6441), (12, 233, 6448), (12, 236, 6320), (12, 287, 6456), (12, 294, 6360), (12, 297, 6529)], FOK x := List.forall_mem_cons.mpr ⟨fok_180, List.forall_mem_cons.mpr ⟨fok_181, List.forall_mem_cons.mpr ⟨fok_182, List.forall_mem_cons.mpr ⟨fok_183, List.forall_mem_cons.mpr ⟨fok_184, List.forall_mem_cons.mpr ⟨fok_185, List.forall_mem_cons.mpr ⟨fok_186, List.forall_mem_cons.mpr ⟨fok_187, List.forall_mem_cons.mpr ⟨fok_188, List.forall_mem_cons.mpr ⟨fok_189, List.forall_mem_cons.mpr ⟨fok_190, List.forall_mem_cons.mpr ⟨fok_191, List.forall_mem_cons.mpr ⟨fok_192, List.forall_mem_cons.mpr ⟨fok_193, List.forall_mem_cons.mpr ⟨fok_194, List.forall_mem_cons.mpr ⟨fok_195, List.forall_mem_cons.mpr ⟨fok_196, List.forall_mem_cons.mpr ⟨fok_197, List.forall_mem_cons.mpr ⟨fok_198, List.forall_mem_cons.mpr ⟨fok_199, fun _ h => absurd h List.not_mem_nil⟩⟩⟩⟩⟩⟩⟩⟩⟩⟩⟩⟩⟩⟩⟩⟩⟩⟩⟩⟩
theorem fokb_10 : ∀ x ∈ [(12, 300, 6537), (12, 369, 6512), (12, 372, 6520), (12, 379, 6544), (12, 399, 6586)], FOK x := List.forall_mem_cons.mpr ⟨fok_200, List.forall_mem_cons.mpr ⟨fok_201, List.forall_mem_cons.mpr ⟨fok_202, List.forall_mem_cons.mpr ⟨fok_203, List.forall_mem_cons.mpr ⟨fok_204, fun _ h => absurd h List.not_mem_nil⟩⟩⟩⟩⟩
set_option maxRecDepth 100000 in
theorem fok_all : ∀ x ∈ cpF, FOK x := by
  rw [show cpF = [(11, 10, 5636), (11, 21, 5644), (11, 30, 5652), (11, 37, 5660), (11, 44, 5684), (11, 48, 5692), (11, 56, 5668), (11, 65, 5676), (11, 72, 5700), (11, 76, 5708), (11, 80, 5720), (11, 91, 5712), (11, 119, 17), (11, 169, 4612), (11, 173, 1028), (11, 178, 4620), (11, 181, 4628), (11, 245, 1556), (11, 262, 1536), (11, 289, 1544)] ++ ([(11, 310, 4116), (11, 316, 4124), (11, 361, 4160), (11, 379, 4100), (11, 382, 4108), (0, 9, 4), (0, 15, 8), (0, 19, 4100), (0, 25, 1028), (0, 30, 4108), (0, 33, 17), (1, 9, 516), (1, 17, 532), (1, 21, 540), (1, 24, 548), (1, 27, 520), (1, 31, 560), (1, 34, 552), (2, 7, 1036), (2, 13, 1028)] ++ ([(3, 9, 1536), (3, 15, 1544), (3, 18, 1556), (3, 29, 1561), (3, 37, 1571), (3, 41, 1579), (4, 9, 2068), (4, 15, 2076), (4, 18, 2084), (4, 21, 2092), (4, 24, 2104), (4, 28, 2112), (4, 31, 2120), (4, 34, 2140), (4, 37, 2148), (4, 40, 2156), (4, 44, 2052), (4, 48, 2060), (4, 58, 4160), (4, 66, 2096)] ++ ([(4, 77, 4652), (4, 80, 4660), (4, 100, 2130), (5, 9, 2564), (5, 15, 2572), (6, 9, 3076), (6, 15, 3092), (6, 18, 3100), (6, 21, 3080), (6, 31, 4692), (6, 36, 4652), (6, 39, 4684), (6, 50, 4660), (6, 53, 4676), (6, 56, 4668), (7, 11, 3668), (7, 22, 3588), (7, 26, 3596), (7, 29, 3604), (7, 32, 3612)] ++ ([(7, 35, 3620), (7, 38, 3628), (7, 41, 3636), (7, 44, 3644), (7, 47, 3652), (7, 50, 3660), (7, 53, 1028), (7, 77, 1536), (7, 118, 1544), (7, 121, 1556), (8, 9, 4148), (8, 15, 4168), (8, 24, 4100), (8, 28, 4108), (8, 31, 4116), (8, 34, 4124), (8, 37, 4132), (8, 40, 4140), (8, 43, 1028), (8, 53, 4160)] ++ ([(8, 68, 4152), (9, 9, 4652), (9, 15, 4660), (9, 18, 4668), (9, 21, 4676), (9, 24, 4684), (9, 27, 4692), (9, 30, 4700), (9, 33, 4708), (9, 36, 4716), (9, 42, 4724), (9, 46, 4732), (9, 49, 4740), (9, 52, 4748), (9, 55, 4760), (9, 59, 4644), (9, 68, 4612), (9, 72, 4620), (9, 75, 4628), (9, 78, 4636)] ++ ([(9, 81, 1028), (9, 91, 4160), (9, 103, 4752), (10, 9, 5164), (10, 15, 5172), (10, 18, 5180), (10, 21, 5188), (10, 24, 5196), (10, 27, 5204), (10, 30, 5212), (10, 33, 5220), (10, 39, 5228), (10, 43, 5232), (10, 47, 5240), (10, 50, 5124), (10, 54, 5132), (10, 58, 5140), (10, 62, 5148), (10, 66, 5156), (10, 94, 4116)] ++ ([(10, 98, 1028), (10, 103, 4124), (10, 136, 1536), (10, 151, 1561), (10, 155, 1579), (10, 159, 1571), (10, 175, 1544), (10, 181, 5248), (10, 185, 5256), (12, 7, 6164), (12, 13, 6172), (12, 16, 6180), (12, 19, 6188), (12, 22, 6196), (12, 25, 6212), (12, 28, 6220), (12, 31, 6228), (12, 34, 6244), (12, 37, 6252), (12, 40, 6260)] ++ ([(12, 43, 6268), (12, 46, 6276), (12, 49, 6284), (12, 52, 6292), (12, 55, 6300), (12, 58, 6308), (12, 62, 6316), (12, 66, 6332), (12, 69, 6340), (12, 72, 6348), (12, 75, 6388), (12, 78, 6404), (12, 81, 6412), (12, 84, 6428), (12, 87, 6436), (12, 90, 6468), (12, 93, 6476), (12, 96, 6484), (12, 100, 6492), (12, 103, 6500)] ++ ([(12, 106, 6508), (12, 109, 6556), (12, 112, 6564), (12, 115, 6572), (12, 119, 6580), (12, 122, 6144), (12, 130, 6353), (12, 134, 6152), (12, 137, 6232), (12, 140, 6376), (12, 170, 6368), (12, 173, 6200), (12, 180, 6416), (12, 186, 6392), (12, 196, 6441), (12, 233, 6448), (12, 236, 6320), (12, 287, 6456), (12, 294, 6360), (12, 297, 6529)] ++ ([(12, 300, 6537), (12, 369, 6512), (12, 372, 6520), (12, 379, 6544), (12, 399, 6586)])))))))))) from rfl]
  refine List.forall_mem_append.mpr ⟨fokb_0, ?_⟩
  refine List.forall_mem_append.mpr ⟨fokb_1, ?_⟩
  refine List.forall_mem_append.mpr ⟨fokb_2, ?_⟩
  refine List.forall_mem_append.mpr ⟨fokb_3, ?_⟩
  refine List.forall_mem_append.mpr ⟨fokb_4, ?_⟩
  refine List.forall_mem_append.mpr ⟨fokb_5, ?_⟩
  refine List.forall_mem_append.mpr ⟨fokb_6, ?_⟩
  refine List.forall_mem_append.mpr ⟨fokb_7, ?_⟩
  refine List.forall_mem_append.mpr ⟨fokb_8, ?_⟩
  refine List.forall_mem_append.mpr ⟨fokb_9, ?_⟩
  exact fokb_10
def cpM : List (Nat × Nat × Nat) := [(11, 9, 9), (11, 18, 88), (11, 27, 99), (11, 36, 57), (11, 43, 0), (11, 53, 113), (11, 62, 30), (11, 71, 49), (11, 84, 129), (11, 88, 15), (11, 94, 130), (11, 97, 12), (11, 101, 91), (11, 104, 92), (11, 108, 131), (11, 111, 90), (11, 115, 3), (11, 123, 133), (11, 126, 1), (11, 129, 142), (11, 133, 102), (11, 134, 98), (11, 138, 94), (11, 141, 104), (11, 145, 143), (11, 148, 103), (11, 150, 109), (11, 153, 55), (11, 157, 132), (11, 161, 93), (11, 165, 52), (11, 168, 101), (11, 184, 106), (11, 187, 108), (11, 190, 105), (11, 193, 60), (11, 194, 61), (11, 197, 62), (11, 198, 59), (11, 199, 63), (11, 202, 64), (11, 206, 134), (11, 209, 155), (11, 214, 20), (11, 217, 71), (11, 221, 26), (11, 224, 66), (11, 227, 70), (11, 231, 69), (11, 234, 21), (11, 237, 23), (11, 241, 24), (11, 248, 25), (11, 252, 76), (11, 256, 67), (11, 259, 73), (11, 265, 77), (11, 268, 79), (11, 271, 72), (11, 275, 165), (11, 279, 166), (11, 282, 68), (11, 285, 169), (11, 292, 74), (11, 295, 81), (11, 298, 80), (11, 301, 82), (11, 304, 83), (11, 307, 84), (11, 313, 18), (11, 319, 114), (11, 322, 115), (11, 325, 124), (11, 328, 126), (11, 331, 127), (11, 334, 95), (11, 339, 38), (11, 343, 34), (11, 346, 32), (11, 349, 37), (11, 352, 33), (11, 355, 10), (11, 358, 16), (11, 364, 50), (11, 367, 89), (11, 370, 100), (11, 371, 58), (11, 372, 107), (11, 384, 86), (0, 37, 4), (0, 41, 6), (0, 45, 7), (0, 48, 8), (0, 51, 2), (0, 54, 5), (1, 37, 14), (1, 40, 298), (1, 46, 19), (2, 17, 297), (2, 23, 13), (3, 22, 27), (3, 26, 28), (3, 33, 29), (3, 49, 20), (4, 52, 95), (4, 61, 109), (4, 69, 89), (4, 72, 94), (4, 76, 100), (4, 83, 32), (4, 87, 31), (4, 88, 35), (4, 92, 36), (4, 96, 39), (4, 104, 40), (4, 107, 41), (4, 110, 42), (4, 114, 43), (6, 25, 297), (6, 42, 54), (6, 46, 56), (7, 19, 17), (7, 57, 58), (7, 61, 18), (7, 65, 63), (7, 69, 66), (7, 73, 70), (7, 81, 59), (7, 84, 65), (7, 88, 75), (7, 92, 78), (7, 95, 81), (7, 98, 80), (7, 101, 85), (7, 104, 22), (7, 107, 21), (7, 112, 87), (8, 21, 17), (8, 46, 89), (8, 49, 18), (8, 65, 96), (8, 71, 97), (9, 41, 44), (9, 65, 17), (9, 84, 100), (9, 87, 18), (9, 96, 109), (9, 99, 46), (9, 106, 94), (9, 110, 110), (9, 114, 111), (9, 117, 112), (9, 120, 89), (9, 121, 45), (9, 125, 48), (9, 129, 47), (10, 38, 49), (10, 70, 116), (10, 73, 89), (10, 79, 94), (10, 83, 104), (10, 89, 11), (10, 106, 58), (10, 109, 80), (10, 112, 90), (10, 116, 117), (10, 120, 123), (10, 123, 3), (10, 129, 65), (10, 132, 70), (10, 141, 21), (10, 144, 121), (10, 148, 122), (10, 162, 119), (10, 166, 120), (10, 171, 118), (10, 178, 125), (10, 184, 109), (10, 188, 54), (10, 192, 53), (10, 195, 55), (10, 199, 51), (10, 208, 52), (13, 9, 128), (13, 12, 188), (13, 13, 135), (13, 17, 244), (13, 18, 136), (13, 21, 201), (13, 22, 137), (13, 26, 202), (13, 27, 138), (13, 31, 203), (13, 32, 139), (13, 35, 245), (13, 36, 140), (13, 39, 246), (13, 40, 141), (13, 43, 247), (13, 44, 144), (13, 47, 248), (13, 48, 145), (13, 51, 217), (13, 52, 146), (13, 55, 216), (13, 56, 147), (13, 59, 211), (13, 60, 148), (13, 63, 212), (13, 64, 149), (13, 67, 213), (13, 68, 150), (13, 71, 215), (13, 72, 151), (13, 75, 249), (13, 76, 152), (13, 79, 250), (13, 80, 153), (13, 84, 251), (13, 85, 154), (13, 88, 253), (13, 89, 156), (13, 92, 254), (13, 95, 157), (13, 99, 256), (13, 100, 158), (13, 104, 257), (13, 105, 159), (13, 108, 258), (13, 109, 160), (13, 112, 259), (13, 113, 161), (13, 116, 264), (13, 117, 162), (13, 120, 265), (13, 121, 167), (13, 125, 267), (13, 126, 168), (13, 129, 268), (13, 130, 163), (13, 133, 269), (13, 134, 164), (13, 137, 270), (13, 138, 170), (13, 141, 260), (13, 142, 171), (13, 146, 261), (13, 147, 172), (13, 150, 262), (13, 151, 173), (13, 154, 271), (13, 155, 174), (13, 158, 273), (13, 159, 175), (13, 162, 274), (13, 163, 176), (13, 166, 263), (13, 167, 177), (13, 170, 282), (13, 171, 178), (13, 174, 284), (13, 175, 179), (13, 178, 285), (13, 179, 180), (13, 183, 288), (13, 184, 181), (13, 187, 290), (13, 188, 182), (13, 191, 291), (13, 192, 183), (13, 195, 292), (13, 196, 184), (13, 199, 242), (13, 200, 185), (13, 203, 293), (13, 204, 186), (13, 207, 243), (13, 208, 187), (13, 211, 296), (12, 126, 189), (12, 143, 194), (12, 147, 192), (12, 151, 196), (12, 155, 191), (12, 158, 197), (12, 161, 198), (12, 164, 199), (12, 167, 200), (12, 176, 206), (12, 183, 208), (12, 189, 207), (12, 193, 210), (12, 199, 195), (12, 202, 209), (12, 205, 222), (12, 208, 205), (12, 211, 221), (12, 214, 225), (12, 217, 226), (12, 222, 227), (12, 226, 234), (12, 229, 233), (12, 239, 238), (12, 242, 218), (12, 245, 219), (12, 248, 220), (12, 251, 223), (12, 254, 224), (12, 257, 228), (12, 261, 229), (12, 265, 230), (12, 269, 231), (12, 272, 232), (12, 275, 235), (12, 278, 236), (12, 281, 237), (12, 284, 239), (12, 290, 240), (12, 303, 241), (12, 307, 193), (12, 310, 190), (12, 316, 252), (12, 323, 255), (12, 327, 266), (12, 331, 272), (12, 336, 278), (12, 345, 204), (12, 348, 275), (12, 352, 276), (12, 355, 277), (12, 359, 279), (12, 363, 280), (12, 366, 281), (12, 375, 283), (12, 382, 286), (12, 388, 287), (12, 391, 289), (12, 394, 214), (12, 403, 294), (12, 409, 295)]
def XOK (x : Nat × Nat × Nat) : Prop := x.2.2 < 299 ∧ (Cond.methodLink (cnm x.1) x.2.1 (mY x.2.2) ∈ lw_tbl ∨ ∃ host, Cond.methodLinkNest (cnm x.1) x.2.1 (mY x.2.2) host ∈ lw_tbl)
theorem xok_0 : XOK (11, 9, 9) := ⟨by decide +kernel, Or.inr ⟨"DigHouse", tm1 28 (by decide +kernel)⟩⟩
theorem xok_1 : XOK (11, 18, 88) := ⟨by decide +kernel, Or.inl (tm1 59 (by decide +kernel))⟩
theorem xok_2 : XOK (11, 27, 99) := ⟨by decide +kernel, Or.inl (tm1 129 (by decide +kernel))⟩
theorem xok_3 : XOK (11, 36, 57) := ⟨by decide +kernel, Or.inl (tm1 223 (by decide +kernel))⟩
theorem xok_4 : XOK (11, 43, 0) := ⟨by decide +kernel, Or.inr ⟨"DigHouse", tm2 27 (by decide +kernel)⟩⟩
theorem xok_5 : XOK (11, 53, 113) := ⟨by decide +kernel, Or.inl (tm2 44 (by decide +kernel))⟩
theorem xok_6 : XOK (11, 62, 30) := ⟨by decide +kernel, Or.inl (tm2 124 (by decide +kernel))⟩
theorem xok_7 : XOK (11, 71, 49) := ⟨by decide +kernel, Or.inr ⟨"DigHouse", tm2 172 (by decide +kernel)⟩⟩
theorem xok_8 : XOK (11, 84, 129) := ⟨by decide +kernel, Or.inl (tm2 218 (by decide +kernel))⟩
theorem xok_9 : XOK (11, 88, 15) := ⟨by decide +kernel, Or.inl (tm3 30 (by decide +kernel))⟩
theorem xok_10 : XOK (11, 94, 130) := ⟨by decide +kernel, Or.inl (tm2 214 (by decide +kernel))⟩
theorem xok_11 : XOK (11, 97, 12) := ⟨by decide +kernel, Or.inl (tm2 222 (by decide +kernel))⟩
theorem xok_12 : XOK (11, 101, 91) := ⟨by decide +kernel, Or.inl (tm2 226 (by decide +kernel))⟩
theorem xok_13 : XOK (11, 104, 92) := ⟨by decide +kernel, Or.inl (tm2 234 (by decide +kernel))⟩
theorem xok_14 : XOK (11, 108, 131) := ⟨by decide +kernel, Or.inl (tm3 26 (by decide +kernel))⟩
theorem xok_15 : XOK (11, 111, 90) := ⟨by decide +kernel, Or.inl (tm3 38 (by decide +kernel))⟩
theorem xok_16 : XOK (11, 115, 3) := ⟨by decide +kernel, Or.inl (tm3 42 (by decide +kernel))⟩
theorem xok_17 : XOK (11, 123, 133) := ⟨by decide +kernel, Or.inl (tm3 70 (by decide +kernel))⟩
theorem xok_18 : XOK (11, 126, 1) := ⟨by decide +kernel, Or.inl (tm3 82 (by decide +kernel))⟩
theorem xok_19 : XOK (11, 129, 142) := ⟨by decide +kernel, Or.inl (tm3 90 (by decide +kernel))⟩
theorem xok_20 : XOK (11, 133, 102) := ⟨by decide +kernel, Or.inl (tm3 94 (by decide +kernel))⟩
theorem xok_21 : XOK (11, 134, 98) := ⟨by decide +kernel, Or.inl (tm3 102 (by decide +kernel))⟩
theorem xok_22 : XOK (11, 138, 94) := ⟨by decide +kernel, Or.inl (tm3 110 (by decide +kernel))⟩
theorem xok_23 : XOK (11, 141, 104) := ⟨by decide +kernel, Or.inl (tm3 118 (by decide +kernel))⟩
theorem xok_24 : XOK (11, 145, 143) := ⟨by decide +kernel, Or.inl (tm3 159 (by decide +kernel))⟩
theorem xok_25 : XOK (11, 148, 103) := ⟨by decide +kernel, Or.inl (tm3 177 (by decide +kernel))⟩
theorem xok_26 : XOK (11, 150, 109) := ⟨by decide +kernel, Or.inl (tm3 163 (by decide +kernel))⟩
theorem xok_27 : XOK (11, 153, 55) := ⟨by decide +kernel, Or.inl (tm3 164 (by decide +kernel))⟩
theorem xok_28 : XOK (11, 157, 132) := ⟨by decide +kernel, Or.inl (tm3 194 (by decide +kernel))⟩
theorem xok_29 : XOK (11, 161, 93) := ⟨by decide +kernel, Or.inl (tm3 198 (by decide +kernel))⟩
theorem xok_30 : XOK (11, 165, 52) := ⟨by decide +kernel, Or.inl (tm3 208 (by decide +kernel))⟩
theorem xok_31 : XOK (11, 168, 101) := ⟨by decide +kernel, Or.inl (tm3 216 (by decide +kernel))⟩
theorem xok_32 : XOK (11, 184, 106) := ⟨by decide +kernel, Or.inl (tm3 220 (by decide +kernel))⟩
theorem xok_33 : XOK (11, 187, 108) := ⟨by decide +kernel, Or.inl (tm3 236 (by decide +kernel))⟩
theorem xok_34 : XOK (11, 190, 105) := ⟨by decide +kernel, Or.inl (tm4 4 (by decide +kernel))⟩
theorem xok_35 : XOK (11, 193, 60) := ⟨by decide +kernel, Or.inl (tm4 12 (by decide +kernel))⟩
theorem xok_36 : XOK (11, 194, 61) := ⟨by decide +kernel, Or.inl (tm4 20 (by decide +kernel))⟩
theorem xok_37 : XOK (11, 197, 62) := ⟨by decide +kernel, Or.inl (tm4 24 (by decide +kernel))⟩
theorem xok_38 : XOK (11, 198, 59) := ⟨by decide +kernel, Or.inl (tm4 33 (by decide +kernel))⟩
theorem xok_39 : XOK (11, 199, 63) := ⟨by decide +kernel, Or.inl (tm4 37 (by decide +kernel))⟩
theorem xok_40 : XOK (11, 202, 64) := ⟨by decide +kernel, Or.inl (tm4 41 (by decide +kernel))⟩
theorem xok_41 : XOK (11, 206, 134) := ⟨by decide +kernel, Or.inl (tm4 49 (by decide +kernel))⟩
theorem xok_42 : XOK (11, 209, 155) := ⟨by decide +kernel, Or.inl (tm4 52 (by decide +kernel))⟩
theorem xok_43 : XOK (11, 214, 20) := ⟨by decide +kernel, Or.inl (tm4 72 (by decide +kernel))⟩
theorem xok_44 : XOK (11, 217, 71) := ⟨by decide +kernel, Or.inl (tm4 123 (by decide +kernel))⟩
theorem xok_45 : XOK (11, 221, 26) := ⟨by decide +kernel, Or.inl (tm4 131 (by decide +kernel))⟩
theorem xok_46 : XOK (11, 224, 66) := ⟨by decide +kernel, Or.inl (tm4 56 (by decide +kernel))⟩
theorem xok_47 : XOK (11, 227, 70) := ⟨by decide +kernel, Or.inl (tm4 61 (by decide +kernel))⟩
theorem xok_48 : XOK (11, 231, 69) := ⟨by decide +kernel, Or.inl (tm4 139 (by decide +kernel))⟩
theorem xok_49 : XOK (11, 234, 21) := ⟨by decide +kernel, Or.inl (tm4 145 (by decide +kernel))⟩
theorem xok_50 : XOK (11, 237, 23) := ⟨by decide +kernel, Or.inl (tm4 149 (by decide +kernel))⟩
theorem xok_51 : XOK (11, 241, 24) := ⟨by decide +kernel, Or.inl (tm4 160 (by decide +kernel))⟩
theorem xok_52 : XOK (11, 248, 25) := ⟨by decide +kernel, Or.inl (tm4 164 (by decide +kernel))⟩
theorem xok_53 : XOK (11, 252, 76) := ⟨by decide +kernel, Or.inl (tm4 171 (by decide +kernel))⟩
theorem xok_54 : XOK (11, 256, 67) := ⟨by decide +kernel, Or.inl (tm4 179 (by decide +kernel))⟩
theorem xok_55 : XOK (11, 259, 73) := ⟨by decide +kernel, Or.inl (tm4 183 (by decide +kernel))⟩
theorem xok_56 : XOK (11, 265, 77) := ⟨by decide +kernel, Or.inl (tm4 187 (by decide +kernel))⟩
theorem xok_57 : XOK (11, 268, 79) := ⟨by decide +kernel, Or.inl (tm4 195 (by decide +kernel))⟩
theorem xok_58 : XOK (11, 271, 72) := ⟨by decide +kernel, Or.inl (tm4 203 (by decide +kernel))⟩
theorem xok_59 : XOK (11, 275, 165) := ⟨by decide +kernel, Or.inl (tm4 215 (by decide +kernel))⟩
theorem xok_60 : XOK (11, 279, 166) := ⟨by decide +kernel, Or.inl (tm4 219 (by decide +kernel))⟩
theorem xok_61 : XOK (11, 282, 68) := ⟨by decide +kernel, Or.inl (tm4 223 (by decide +kernel))⟩
theorem xok_62 : XOK (11, 285, 169) := ⟨by decide +kernel, Or.inl (tm4 239 (by decide +kernel))⟩
theorem xok_63 : XOK (11, 292, 74) := ⟨by decide +kernel, Or.inl (tm5 15 (by decide +kernel))⟩
theorem xok_64 : XOK (11, 295, 81) := ⟨by decide +kernel, Or.inl (tm5 27 (by decide +kernel))⟩
theorem xok_65 : XOK (11, 298, 80) := ⟨by decide +kernel, Or.inl (tm5 31 (by decide +kernel))⟩
theorem xok_66 : XOK (11, 301, 82) := ⟨by decide +kernel, Or.inl (tm5 35 (by decide +kernel))⟩
theorem xok_67 : XOK (11, 304, 83) := ⟨by decide +kernel, Or.inl (tm5 44 (by decide +kernel))⟩
theorem xok_68 : XOK (11, 307, 84) := ⟨by decide +kernel, Or.inl (tm5 52 (by decide +kernel))⟩
theorem xok_69 : XOK (11, 313, 18) := ⟨by decide +kernel, Or.inl (tm5 74 (by decide +kernel))⟩
theorem xok_70 : XOK (11, 319, 114) := ⟨by decide +kernel, Or.inl (tm5 79 (by decide +kernel))⟩
theorem xok_71 : XOK (11, 322, 115) := ⟨by decide +kernel, Or.inl (tm5 128 (by decide +kernel))⟩
theorem xok_72 : XOK (11, 325, 124) := ⟨by decide +kernel, Or.inl (tm5 136 (by decide +kernel))⟩
theorem xok_73 : XOK (11, 328, 126) := ⟨by decide +kernel, Or.inl (tm5 151 (by decide +kernel))⟩
theorem xok_74 : XOK (11, 331, 127) := ⟨by decide +kernel, Or.inl (tm5 163 (by decide +kernel))⟩
theorem xok_75 : XOK (11, 334, 95) := ⟨by decide +kernel, Or.inl (tm5 173 (by decide +kernel))⟩
theorem xok_76 : XOK (11, 339, 38) := ⟨by decide +kernel, Or.inl (tm5 178 (by decide +kernel))⟩
theorem xok_77 : XOK (11, 343, 34) := ⟨by decide +kernel, Or.inl (tm5 215 (by decide +kernel))⟩
theorem xok_78 : XOK (11, 346, 32) := ⟨by decide +kernel, Or.inl (tm5 231 (by decide +kernel))⟩
theorem xok_79 : XOK (11, 349, 37) := ⟨by decide +kernel, Or.inl (tm5 235 (by decide +kernel))⟩
theorem xok_80 : XOK (11, 352, 33) := ⟨by decide +kernel, Or.inl (tm6 3 (by decide +kernel))⟩
theorem xok_81 : XOK (11, 355, 10) := ⟨by decide +kernel, Or.inl (tm6 12 (by decide +kernel))⟩
theorem xok_82 : XOK (11, 358, 16) := ⟨by decide +kernel, Or.inl (tm6 16 (by decide +kernel))⟩
theorem xok_83 : XOK (11, 364, 50) := ⟨by decide +kernel, Or.inl (tm6 24 (by decide +kernel))⟩
theorem xok_84 : XOK (11, 367, 89) := ⟨by decide +kernel, Or.inl (tm6 32 (by decide +kernel))⟩
theorem xok_85 : XOK (11, 370, 100) := ⟨by decide +kernel, Or.inl (tm6 33 (by decide +kernel))⟩
theorem xok_86 : XOK (11, 371, 58) := ⟨by decide +kernel, Or.inl (tm6 34 (by decide +kernel))⟩
theorem xok_87 : XOK (11, 372, 107) := ⟨by decide +kernel, Or.inl (tm6 35 (by decide +kernel))⟩
theorem xok_88 : XOK (11, 384, 86) := ⟨by decide +kernel, Or.inl (tm6 49 (by decide +kernel))⟩
theorem xok_89 : XOK (0, 37, 4) := ⟨by decide +kernel, Or.inl (tm3 46 (by decide +kernel))⟩
theorem xok_90 : XOK (0, 41, 6) := ⟨by decide +kernel, Or.inl (tm3 58 (by decide +kernel))⟩
theorem xok_91 : XOK (0, 45, 7) := ⟨by decide +kernel, Or.inl (tm3 62 (by decide +kernel))⟩
theorem xok_92 : XOK (0, 48, 8) := ⟨by decide +kernel, Or.inl (tm3 66 (by decide +kernel))⟩
theorem xok_93 : XOK (0, 51, 2) := ⟨by decide +kernel, Or.inl (tm3 50 (by decide +kernel))⟩
theorem xok_94 : XOK (0, 54, 5) := ⟨by decide +kernel, Or.inl (tm3 54 (by decide +kernel))⟩
theorem xok_95 : XOK (1, 37, 14) := ⟨by decide +kernel, Or.inl (tm3 6 (by decide +kernel))⟩
theorem xok_96 : XOK (1, 40, 298) := ⟨by decide +kernel, Or.inl (tm3 10 (by decide +kernel))⟩
theorem xok_97 : XOK (1, 46, 19) := ⟨by decide +kernel, Or.inl (tm6 20 (by decide +kernel))⟩
theorem xok_98 : XOK (2, 17, 297) := ⟨by decide +kernel, Or.inl (tm1 69 (by decide +kernel))⟩
theorem xok_99 : XOK (2, 23, 13) := ⟨by decide +kernel, Or.inl (tm3 2 (by decide +kernel))⟩
theorem xok_100 : XOK (3, 22, 27) := ⟨by decide +kernel, Or.inl (tm4 76 (by decide +kernel))⟩
theorem xok_101 : XOK (3, 26, 28) := ⟨by decide +kernel, Or.inl (tm4 80 (by decide +kernel))⟩
theorem xok_102 : XOK (3, 33, 29) := ⟨by decide +kernel, Or.inl (tm4 84 (by decide +kernel))⟩
theorem xok_103 : XOK (3, 49, 20) := ⟨by decide +kernel, Or.inl (tm4 155 (by decide +kernel))⟩
theorem xok_104 : XOK (4, 52, 95) := ⟨by decide +kernel, Or.inl (tm5 186 (by decide +kernel))⟩
theorem xok_105 : XOK (4, 61, 109) := ⟨by decide +kernel, Or.inl (tm5 187 (by decide +kernel))⟩
theorem xok_106 : XOK (4, 69, 89) := ⟨by decide +kernel, Or.inl (tm5 188 (by decide +kernel))⟩
theorem xok_107 : XOK (4, 72, 94) := ⟨by decide +kernel, Or.inl (tm5 189 (by decide +kernel))⟩
theorem xok_108 : XOK (4, 76, 100) := ⟨by decide +kernel, Or.inl (tm5 190 (by decide +kernel))⟩
theorem xok_109 : XOK (4, 83, 32) := ⟨by decide +kernel, Or.inl (tm6 7 (by decide +kernel))⟩
theorem xok_110 : XOK (4, 87, 31) := ⟨by decide +kernel, Or.inl (tm5 182 (by decide +kernel))⟩
theorem xok_111 : XOK (4, 88, 35) := ⟨by decide +kernel, Or.inl (tm5 219 (by decide +kernel))⟩
theorem xok_112 : XOK (4, 92, 36) := ⟨by decide +kernel, Or.inl (tm5 223 (by decide +kernel))⟩
theorem xok_113 : XOK (4, 96, 39) := ⟨by decide +kernel, Or.inl (tm5 191 (by decide +kernel))⟩
theorem xok_114 : XOK (4, 104, 40) := ⟨by decide +kernel, Or.inl (tm5 195 (by decide +kernel))⟩
theorem xok_115 : XOK (4, 107, 41) := ⟨by decide +kernel, Or.inl (tm5 199 (by decide +kernel))⟩
theorem xok_116 : XOK (4, 110, 42) := ⟨by decide +kernel, Or.inl (tm5 203 (by decide +kernel))⟩
theorem xok_117 : XOK (4, 114, 43) := ⟨by decide +kernel, Or.inl (tm5 207 (by decide +kernel))⟩
theorem xok_118 : XOK (6, 25, 297) := ⟨by decide +kernel, Or.inl (tm3 172 (by decide +kernel))⟩
theorem xok_119 : XOK (6, 42, 54) := ⟨by decide +kernel, Or.inl (tm3 168 (by decide +kernel))⟩
theorem xok_120 : XOK (6, 46, 56) := ⟨by decide +kernel, Or.inl (tm3 173 (by decide +kernel))⟩
theorem xok_121 : XOK (7, 19, 17) := ⟨by decide +kernel, Or.inl (tm1 230 (by decide +kernel))⟩
theorem xok_122 : XOK (7, 57, 58) := ⟨by decide +kernel, Or.inl (tm4 16 (by decide +kernel))⟩
theorem xok_123 : XOK (7, 61, 18) := ⟨by decide +kernel, Or.inl (tm4 28 (by decide +kernel))⟩
theorem xok_124 : XOK (7, 65, 63) := ⟨by decide +kernel, Or.inl (tm4 60 (by decide +kernel))⟩
theorem xok_125 : XOK (7, 69, 66) := ⟨by decide +kernel, Or.inl (tm4 143 (by decide +kernel))⟩
theorem xok_126 : XOK (7, 73, 70) := ⟨by decide +kernel, Or.inl (tm4 144 (by decide +kernel))⟩
theorem xok_127 : XOK (7, 81, 59) := ⟨by decide +kernel, Or.inl (tm4 65 (by decide +kernel))⟩
theorem xok_128 : XOK (7, 84, 65) := ⟨by decide +kernel, Or.inl (tm4 66 (by decide +kernel))⟩
theorem xok_129 : XOK (7, 88, 75) := ⟨by decide +kernel, Or.inl (tm5 19 (by decide +kernel))⟩
theorem xok_130 : XOK (7, 92, 78) := ⟨by decide +kernel, Or.inl (tm4 199 (by decide +kernel))⟩
theorem xok_131 : XOK (7, 95, 81) := ⟨by decide +kernel, Or.inl (tm5 39 (by decide +kernel))⟩
theorem xok_132 : XOK (7, 98, 80) := ⟨by decide +kernel, Or.inl (tm5 56 (by decide +kernel))⟩
theorem xok_133 : XOK (7, 101, 85) := ⟨by decide +kernel, Or.inl (tm5 57 (by decide +kernel))⟩
theorem xok_134 : XOK (7, 104, 22) := ⟨by decide +kernel, Or.inl (tm5 61 (by decide +kernel))⟩
theorem xok_135 : XOK (7, 107, 21) := ⟨by decide +kernel, Or.inl (tm5 65 (by decide +kernel))⟩
theorem xok_136 : XOK (7, 112, 87) := ⟨by decide +kernel, Or.inl (tm6 54 (by decide +kernel))⟩
theorem xok_137 : XOK (8, 21, 17) := ⟨by decide +kernel, Or.inl (tm1 65 (by decide +kernel))⟩
theorem xok_138 : XOK (8, 46, 89) := ⟨by decide +kernel, Or.inl (tm2 230 (by decide +kernel))⟩
theorem xok_139 : XOK (8, 49, 18) := ⟨by decide +kernel, Or.inl (tm2 238 (by decide +kernel))⟩
theorem xok_140 : XOK (8, 65, 96) := ⟨by decide +kernel, Or.inl (tm3 114 (by decide +kernel))⟩
theorem xok_141 : XOK (8, 71, 97) := ⟨by decide +kernel, Or.inl (tm3 106 (by decide +kernel))⟩
theorem xok_142 : XOK (9, 41, 44) := ⟨by decide +kernel, Or.inr ⟨"DigHouse", tm1 135 (by decide +kernel)⟩⟩
theorem xok_143 : XOK (9, 65, 17) := ⟨by decide +kernel, Or.inl (tm1 148 (by decide +kernel))⟩
theorem xok_144 : XOK (9, 84, 100) := ⟨by decide +kernel, Or.inl (tm3 98 (by decide +kernel))⟩
theorem xok_145 : XOK (9, 87, 18) := ⟨by decide +kernel, Or.inl (tm3 181 (by decide +kernel))⟩
theorem xok_146 : XOK (9, 96, 109) := ⟨by decide +kernel, Or.inl (tm3 122 (by decide +kernel))⟩
theorem xok_147 : XOK (9, 99, 46) := ⟨by decide +kernel, Or.inl (tm3 155 (by decide +kernel))⟩
theorem xok_148 : XOK (9, 106, 94) := ⟨by decide +kernel, Or.inl (tm3 126 (by decide +kernel))⟩
theorem xok_149 : XOK (9, 110, 110) := ⟨by decide +kernel, Or.inl (tm3 127 (by decide +kernel))⟩
theorem xok_150 : XOK (9, 114, 111) := ⟨by decide +kernel, Or.inl (tm3 132 (by decide +kernel))⟩
theorem xok_151 : XOK (9, 117, 112) := ⟨by decide +kernel, Or.inl (tm3 151 (by decide +kernel))⟩
theorem xok_152 : XOK (9, 120, 89) := ⟨by decide +kernel, Or.inl (tm3 131 (by decide +kernel))⟩
theorem xok_153 : XOK (9, 121, 45) := ⟨by decide +kernel, Or.inl (tm3 136 (by decide +kernel))⟩
theorem xok_154 : XOK (9, 125, 48) := ⟨by decide +kernel, Or.inl (tm3 140 (by decide +kernel))⟩
theorem xok_155 : XOK (9, 129, 47) := ⟨by decide +kernel, Or.inl (tm3 144 (by decide +kernel))⟩
theorem xok_156 : XOK (10, 38, 49) := ⟨by decide +kernel, Or.inr ⟨"DigHouse", tm2 50 (by decide +kernel)⟩⟩
theorem xok_157 : XOK (10, 70, 116) := ⟨by decide +kernel, Or.inl (tm5 83 (by decide +kernel))⟩
theorem xok_158 : XOK (10, 73, 89) := ⟨by decide +kernel, Or.inl (tm5 91 (by decide +kernel))⟩
theorem xok_159 : XOK (10, 79, 94) := ⟨by decide +kernel, Or.inl (tm5 126 (by decide +kernel))⟩
theorem xok_160 : XOK (10, 83, 104) := ⟨by decide +kernel, Or.inl (tm5 127 (by decide +kernel))⟩
theorem xok_161 : XOK (10, 89, 11) := ⟨by decide +kernel, Or.inl (tm5 87 (by decide +kernel))⟩
theorem xok_162 : XOK (10, 106, 58) := ⟨by decide +kernel, Or.inl (tm5 92 (by decide +kernel))⟩
theorem xok_163 : XOK (10, 109, 80) := ⟨by decide +kernel, Or.inl (tm5 93 (by decide +kernel))⟩
theorem xok_164 : XOK (10, 112, 90) := ⟨by decide +kernel, Or.inl (tm5 94 (by decide +kernel))⟩
theorem xok_165 : XOK (10, 116, 117) := ⟨by decide +kernel, Or.inl (tm5 95 (by decide +kernel))⟩
theorem xok_166 : XOK (10, 120, 123) := ⟨by decide +kernel, Or.inl (tm5 122 (by decide +kernel))⟩
theorem xok_167 : XOK (10, 123, 3) := ⟨by decide +kernel, Or.inl (tm5 99 (by decide +kernel))⟩
theorem xok_168 : XOK (10, 129, 65) := ⟨by decide +kernel, Or.inl (tm5 100 (by decide +kernel))⟩
theorem xok_169 : XOK (10, 132, 70) := ⟨by decide +kernel, Or.inl (tm5 101 (by decide +kernel))⟩
theorem xok_170 : XOK (10, 141, 21) := ⟨by decide +kernel, Or.inl (tm5 102 (by decide +kernel))⟩
theorem xok_171 : XOK (10, 144, 121) := ⟨by decide +kernel, Or.inl (tm5 103 (by decide +kernel))⟩
theorem xok_172 : XOK (10, 148, 122) := ⟨by decide +kernel, Or.inl (tm5 107 (by decide +kernel))⟩
theorem xok_173 : XOK (10, 162, 119) := ⟨by decide +kernel, Or.inl (tm5 111 (by decide +kernel))⟩
theorem xok_174 : XOK (10, 166, 120) := ⟨by decide +kernel, Or.inl (tm5 119 (by decide +kernel))⟩
theorem xok_175 : XOK (10, 171, 118) := ⟨by decide +kernel, Or.inl (tm5 114 (by decide +kernel))⟩
theorem xok_176 : XOK (10, 178, 125) := ⟨by decide +kernel, Or.inl (tm5 140 (by decide +kernel))⟩
theorem xok_177 : XOK (10, 184, 109) := ⟨by decide +kernel, Or.inl (tm5 144 (by decide +kernel))⟩
theorem xok_178 : XOK (10, 188, 54) := ⟨by decide +kernel, Or.inl (tm5 145 (by decide +kernel))⟩
theorem xok_179 : XOK (10, 192, 53) := ⟨by decide +kernel, Or.inl (tm5 146 (by decide +kernel))⟩
theorem xok_180 : XOK (10, 195, 55) := ⟨by decide +kernel, Or.inl (tm5 150 (by decide +kernel))⟩
theorem xok_181 : XOK (10, 199, 51) := ⟨by decide +kernel, Or.inl (tm5 155 (by decide +kernel))⟩
theorem xok_182 : XOK (10, 208, 52) := ⟨by decide +kernel, Or.inl (tm5 168 (by decide +kernel))⟩
theorem xok_183 : XOK (13, 9, 128) := ⟨by decide +kernel, Or.inl (tm1 20 (by decide +kernel))⟩
theorem xok_184 : XOK (13, 12, 188) := ⟨by decide +kernel, Or.inl (tm6 60 (by decide +kernel))⟩
theorem xok_185 : XOK (13, 13, 135) := ⟨by decide +kernel, Or.inl (tm2 210 (by decide +kernel))⟩
theorem xok_186 : XOK (13, 17, 244) := ⟨by decide +kernel, Or.inl (tm7 196 (by decide +kernel))⟩
theorem xok_187 : XOK (13, 18, 136) := ⟨by decide +kernel, Or.inl (tm3 34 (by decide +kernel))⟩
theorem xok_188 : XOK (13, 21, 201) := ⟨by decide +kernel, Or.inl (tm6 236 (by decide +kernel))⟩
theorem xok_189 : XOK (13, 22, 137) := ⟨by decide +kernel, Or.inl (tm3 74 (by decide +kernel))⟩
theorem xok_190 : XOK (13, 26, 202) := ⟨by decide +kernel, Or.inl (tm7 35 (by decide +kernel))⟩
theorem xok_191 : XOK (13, 27, 138) := ⟨by decide +kernel, Or.inl (tm3 78 (by decide +kernel))⟩
theorem xok_192 : XOK (13, 31, 203) := ⟨by decide +kernel, Or.inl (tm7 39 (by decide +kernel))⟩
theorem xok_193 : XOK (13, 32, 139) := ⟨by decide +kernel, Or.inl (tm3 86 (by decide +kernel))⟩
theorem xok_194 : XOK (13, 35, 245) := ⟨by decide +kernel, Or.inl (tm7 204 (by decide +kernel))⟩
theorem xok_195 : XOK (13, 36, 140) := ⟨by decide +kernel, Or.inl (tm3 182 (by decide +kernel))⟩
theorem xok_196 : XOK (13, 39, 246) := ⟨by decide +kernel, Or.inl (tm7 208 (by decide +kernel))⟩
theorem xok_197 : XOK (13, 40, 141) := ⟨by decide +kernel, Or.inl (tm3 186 (by decide +kernel))⟩
theorem xok_198 : XOK (13, 43, 247) := ⟨by decide +kernel, Or.inl (tm7 212 (by decide +kernel))⟩
theorem xok_199 : XOK (13, 44, 144) := ⟨by decide +kernel, Or.inl (tm3 190 (by decide +kernel))⟩
theorem xok_200 : XOK (13, 47, 248) := ⟨by decide +kernel, Or.inl (tm7 216 (by decide +kernel))⟩
theorem xok_201 : XOK (13, 48, 145) := ⟨by decide +kernel, Or.inl (tm3 204 (by decide +kernel))⟩
theorem xok_202 : XOK (13, 51, 217) := ⟨by decide +kernel, Or.inl (tm7 75 (by decide +kernel))⟩
theorem xok_203 : XOK (13, 52, 146) := ⟨by decide +kernel, Or.inl (tm3 212 (by decide +kernel))⟩
theorem xok_204 : XOK (13, 55, 216) := ⟨by decide +kernel, Or.inl (tm7 71 (by decide +kernel))⟩
theorem xok_205 : XOK (13, 56, 147) := ⟨by decide +kernel, Or.inl (tm3 224 (by decide +kernel))⟩
theorem xok_206 : XOK (13, 59, 211) := ⟨by decide +kernel, Or.inl (tm7 43 (by decide +kernel))⟩
theorem xok_207 : XOK (13, 60, 148) := ⟨by decide +kernel, Or.inl (tm3 228 (by decide +kernel))⟩
theorem xok_208 : XOK (13, 63, 212) := ⟨by decide +kernel, Or.inl (tm7 55 (by decide +kernel))⟩
theorem xok_209 : XOK (13, 64, 149) := ⟨by decide +kernel, Or.inl (tm3 232 (by decide +kernel))⟩
theorem xok_210 : XOK (13, 67, 213) := ⟨by decide +kernel, Or.inl (tm7 59 (by decide +kernel))⟩
theorem xok_211 : XOK (13, 68, 150) := ⟨by decide +kernel, Or.inl (tm4 0 (by decide +kernel))⟩
theorem xok_212 : XOK (13, 71, 215) := ⟨by decide +kernel, Or.inl (tm7 67 (by decide +kernel))⟩
theorem xok_213 : XOK (13, 72, 151) := ⟨by decide +kernel, Or.inl (tm4 8 (by decide +kernel))⟩
theorem xok_214 : XOK (13, 75, 249) := ⟨by decide +kernel, Or.inl (tm7 220 (by decide +kernel))⟩
theorem xok_215 : XOK (13, 76, 152) := ⟨by decide +kernel, Or.inl (tm4 29 (by decide +kernel))⟩
theorem xok_216 : XOK (13, 79, 250) := ⟨by decide +kernel, Or.inl (tm7 224 (by decide +kernel))⟩
theorem xok_217 : XOK (13, 80, 153) := ⟨by decide +kernel, Or.inl (tm4 45 (by decide +kernel))⟩
theorem xok_218 : XOK (13, 84, 251) := ⟨by decide +kernel, Or.inl (tm7 232 (by decide +kernel))⟩
theorem xok_219 : XOK (13, 85, 154) := ⟨by decide +kernel, Or.inl (tm4 127 (by decide +kernel))⟩
theorem xok_220 : XOK (13, 88, 253) := ⟨by decide +kernel, Or.inl (tm7 239 (by decide +kernel))⟩
theorem xok_221 : XOK (13, 89, 156) := ⟨by decide +kernel, Or.inl (tm4 135 (by decide +kernel))⟩
theorem xok_222 : XOK (13, 92, 254) := ⟨by decide +kernel, Or.inl (tm8 9 (by decide +kernel))⟩
theorem xok_223 : XOK (13, 95, 157) := ⟨by decide +kernel, Or.inl (tm4 156 (by decide +kernel))⟩
theorem xok_224 : XOK (13, 99, 256) := ⟨by decide +kernel, Or.inl (tm8 13 (by decide +kernel))⟩
theorem xok_225 : XOK (13, 100, 158) := ⟨by decide +kernel, Or.inl (tm4 167 (by decide +kernel))⟩
theorem xok_226 : XOK (13, 104, 257) := ⟨by decide +kernel, Or.inl (tm8 22 (by decide +kernel))⟩
theorem xok_227 : XOK (13, 105, 159) := ⟨by decide +kernel, Or.inl (tm4 175 (by decide +kernel))⟩
theorem xok_228 : XOK (13, 108, 258) := ⟨by decide +kernel, Or.inl (tm8 26 (by decide +kernel))⟩
theorem xok_229 : XOK (13, 109, 160) := ⟨by decide +kernel, Or.inl (tm4 191 (by decide +kernel))⟩
theorem xok_230 : XOK (13, 112, 259) := ⟨by decide +kernel, Or.inl (tm8 30 (by decide +kernel))⟩
theorem xok_231 : XOK (13, 113, 161) := ⟨by decide +kernel, Or.inl (tm4 207 (by decide +kernel))⟩
theorem xok_232 : XOK (13, 116, 264) := ⟨by decide +kernel, Or.inl (tm8 50 (by decide +kernel))⟩
theorem xok_233 : XOK (13, 117, 162) := ⟨by decide +kernel, Or.inl (tm4 211 (by decide +kernel))⟩
theorem xok_234 : XOK (13, 120, 265) := ⟨by decide +kernel, Or.inl (tm8 54 (by decide +kernel))⟩
theorem xok_235 : XOK (13, 121, 167) := ⟨by decide +kernel, Or.inl (tm4 235 (by decide +kernel))⟩
theorem xok_236 : XOK (13, 125, 267) := ⟨by decide +kernel, Or.inl (tm8 58 (by decide +kernel))⟩
theorem xok_237 : XOK (13, 126, 168) := ⟨by decide +kernel, Or.inl (tm5 3 (by decide +kernel))⟩
theorem xok_238 : XOK (13, 129, 268) := ⟨by decide +kernel, Or.inl (tm8 66 (by decide +kernel))⟩
theorem xok_239 : XOK (13, 130, 163) := ⟨by decide +kernel, Or.inl (tm4 227 (by decide +kernel))⟩
theorem xok_240 : XOK (13, 133, 269) := ⟨by decide +kernel, Or.inl (tm8 70 (by decide +kernel))⟩
theorem xok_241 : XOK (13, 134, 164) := ⟨by decide +kernel, Or.inl (tm4 231 (by decide +kernel))⟩
theorem xok_242 : XOK (13, 137, 270) := ⟨by decide +kernel, Or.inl (tm8 74 (by decide +kernel))⟩
theorem xok_243 : XOK (13, 138, 170) := ⟨by decide +kernel, Or.inl (tm5 7 (by decide +kernel))⟩
theorem xok_244 : XOK (13, 141, 260) := ⟨by decide +kernel, Or.inl (tm8 34 (by decide +kernel))⟩
theorem xok_245 : XOK (13, 142, 171) := ⟨by decide +kernel, Or.inl (tm5 11 (by decide +kernel))⟩
theorem xok_246 : XOK (13, 146, 261) := ⟨by decide +kernel, Or.inl (tm8 38 (by decide +kernel))⟩
theorem xok_247 : XOK (13, 147, 172) := ⟨by decide +kernel, Or.inl (tm5 23 (by decide +kernel))⟩
theorem xok_248 : XOK (13, 150, 262) := ⟨by decide +kernel, Or.inl (tm8 42 (by decide +kernel))⟩
theorem xok_249 : XOK (13, 151, 173) := ⟨by decide +kernel, Or.inl (tm5 40 (by decide +kernel))⟩
theorem xok_250 : XOK (13, 154, 271) := ⟨by decide +kernel, Or.inl (tm8 78 (by decide +kernel))⟩
theorem xok_251 : XOK (13, 155, 174) := ⟨by decide +kernel, Or.inl (tm5 48 (by decide +kernel))⟩
theorem xok_252 : XOK (13, 158, 273) := ⟨by decide +kernel, Or.inl (tm8 82 (by decide +kernel))⟩
theorem xok_253 : XOK (13, 159, 175) := ⟨by decide +kernel, Or.inl (tm5 66 (by decide +kernel))⟩
theorem xok_254 : XOK (13, 162, 274) := ⟨by decide +kernel, Or.inl (tm8 90 (by decide +kernel))⟩
theorem xok_255 : XOK (13, 163, 176) := ⟨by decide +kernel, Or.inl (tm5 70 (by decide +kernel))⟩
theorem xok_256 : XOK (13, 166, 263) := ⟨by decide +kernel, Or.inl (tm8 46 (by decide +kernel))⟩
theorem xok_257 : XOK (13, 167, 177) := ⟨by decide +kernel, Or.inl (tm5 75 (by decide +kernel))⟩
theorem xok_258 : XOK (13, 170, 282) := ⟨by decide +kernel, Or.inl (tm8 94 (by decide +kernel))⟩
theorem xok_259 : XOK (13, 171, 178) := ⟨by decide +kernel, Or.inl (tm5 132 (by decide +kernel))⟩
theorem xok_260 : XOK (13, 174, 284) := ⟨by decide +kernel, Or.inl (tm8 132 (by decide +kernel))⟩
theorem xok_261 : XOK (13, 175, 179) := ⟨by decide +kernel, Or.inl (tm5 159 (by decide +kernel))⟩
theorem xok_262 : XOK (13, 178, 285) := ⟨by decide +kernel, Or.inl (tm8 140 (by decide +kernel))⟩
theorem xok_263 : XOK (13, 179, 180) := ⟨by decide +kernel, Or.inl (tm5 169 (by decide +kernel))⟩
theorem xok_264 : XOK (13, 183, 288) := ⟨by decide +kernel, Or.inl (tm8 144 (by decide +kernel))⟩
theorem xok_265 : XOK (13, 184, 181) := ⟨by decide +kernel, Or.inl (tm5 211 (by decide +kernel))⟩
theorem xok_266 : XOK (13, 187, 290) := ⟨by decide +kernel, Or.inl (tm8 157 (by decide +kernel))⟩
theorem xok_267 : XOK (13, 188, 182) := ⟨by decide +kernel, Or.inl (tm5 227 (by decide +kernel))⟩
theorem xok_268 : XOK (13, 191, 291) := ⟨by decide +kernel, Or.inl (tm8 165 (by decide +kernel))⟩
theorem xok_269 : XOK (13, 192, 183) := ⟨by decide +kernel, Or.inl (tm5 239 (by decide +kernel))⟩
theorem xok_270 : XOK (13, 195, 292) := ⟨by decide +kernel, Or.inl (tm8 169 (by decide +kernel))⟩
theorem xok_271 : XOK (13, 196, 184) := ⟨by decide +kernel, Or.inl (tm6 8 (by decide +kernel))⟩
theorem xok_272 : XOK (13, 199, 242) := ⟨by decide +kernel, Or.inl (tm7 79 (by decide +kernel))⟩
theorem xok_273 : XOK (13, 200, 185) := ⟨by decide +kernel, Or.inl (tm6 28 (by decide +kernel))⟩
theorem xok_274 : XOK (13, 203, 293) := ⟨by decide +kernel, Or.inl (tm8 173 (by decide +kernel))⟩
theorem xok_275 : XOK (13, 204, 186) := ⟨by decide +kernel, Or.inl (tm6 39 (by decide +kernel))⟩
theorem xok_276 : XOK (13, 207, 243) := ⟨by decide +kernel, Or.inl (tm7 192 (by decide +kernel))⟩
theorem xok_277 : XOK (13, 208, 187) := ⟨by decide +kernel, Or.inl (tm6 43 (by decide +kernel))⟩
theorem xok_278 : XOK (13, 211, 296) := ⟨by decide +kernel, Or.inl (tm8 181 (by decide +kernel))⟩
theorem xok_279 : XOK (12, 126, 189) := ⟨by decide +kernel, Or.inl (tm7 4 (by decide +kernel))⟩
theorem xok_280 : XOK (12, 143, 194) := ⟨by decide +kernel, Or.inl (tm7 11 (by decide +kernel))⟩
theorem xok_281 : XOK (12, 147, 192) := ⟨by decide +kernel, Or.inl (tm7 0 (by decide +kernel))⟩
theorem xok_282 : XOK (12, 151, 196) := ⟨by decide +kernel, Or.inl (tm7 7 (by decide +kernel))⟩
theorem xok_283 : XOK (12, 155, 191) := ⟨by decide +kernel, Or.inl (tm7 15 (by decide +kernel))⟩
theorem xok_284 : XOK (12, 158, 197) := ⟨by decide +kernel, Or.inl (tm7 19 (by decide +kernel))⟩
theorem xok_285 : XOK (12, 161, 198) := ⟨by decide +kernel, Or.inl (tm7 23 (by decide +kernel))⟩
theorem xok_286 : XOK (12, 164, 199) := ⟨by decide +kernel, Or.inl (tm7 27 (by decide +kernel))⟩
theorem xok_287 : XOK (12, 167, 200) := ⟨by decide +kernel, Or.inl (tm7 31 (by decide +kernel))⟩
theorem xok_288 : XOK (12, 176, 206) := ⟨by decide +kernel, Or.inl (tm7 51 (by decide +kernel))⟩
theorem xok_289 : XOK (12, 183, 208) := ⟨by decide +kernel, Or.inl (tm7 103 (by decide +kernel))⟩
theorem xok_290 : XOK (12, 189, 207) := ⟨by decide +kernel, Or.inl (tm7 47 (by decide +kernel))⟩
theorem xok_291 : XOK (12, 193, 210) := ⟨by decide +kernel, Or.inl (tm7 63 (by decide +kernel))⟩
theorem xok_292 : XOK (12, 199, 195) := ⟨by decide +kernel, Or.inl (tm7 95 (by decide +kernel))⟩
theorem xok_293 : XOK (12, 202, 209) := ⟨by decide +kernel, Or.inl (tm7 99 (by decide +kernel))⟩
theorem xok_294 : XOK (12, 205, 222) := ⟨by decide +kernel, Or.inl (tm7 123 (by decide +kernel))⟩
theorem xok_295 : XOK (12, 208, 205) := ⟨by decide +kernel, Or.inl (tm7 115 (by decide +kernel))⟩
theorem xok_296 : XOK (12, 211, 221) := ⟨by decide +kernel, Or.inl (tm7 119 (by decide +kernel))⟩
theorem xok_297 : XOK (12, 214, 225) := ⟨by decide +kernel, Or.inl (tm7 131 (by decide +kernel))⟩
theorem xok_298 : XOK (12, 217, 226) := ⟨by decide +kernel, Or.inl (tm7 139 (by decide +kernel))⟩
theorem xok_299 : XOK (12, 222, 227) := ⟨by decide +kernel, Or.inl (tm7 160 (by decide +kernel))⟩
theorem xok_300 : XOK (12, 226, 234) := ⟨by decide +kernel, Or.inl (tm7 168 (by decide +kernel))⟩
theorem xok_301 : XOK (12, 229, 233) := ⟨by decide +kernel, Or.inl (tm7 172 (by decide +kernel))⟩
theorem xok_302 : XOK (12, 239, 238) := ⟨by decide +kernel, Or.inl (tm7 188 (by decide +kernel))⟩
theorem xok_303 : XOK (12, 242, 218) := ⟨by decide +kernel, Or.inl (tm7 87 (by decide +kernel))⟩
theorem xok_304 : XOK (12, 245, 219) := ⟨by decide +kernel, Or.inl (tm7 91 (by decide +kernel))⟩
theorem xok_305 : XOK (12, 248, 220) := ⟨by decide +kernel, Or.inl (tm7 107 (by decide +kernel))⟩
theorem xok_306 : XOK (12, 251, 223) := ⟨by decide +kernel, Or.inl (tm7 111 (by decide +kernel))⟩
theorem xok_307 : XOK (12, 254, 224) := ⟨by decide +kernel, Or.inl (tm7 127 (by decide +kernel))⟩
theorem xok_308 : XOK (12, 257, 228) := ⟨by decide +kernel, Or.inl (tm7 135 (by decide +kernel))⟩
theorem xok_309 : XOK (12, 261, 229) := ⟨by decide +kernel, Or.inl (tm7 143 (by decide +kernel))⟩
theorem xok_310 : XOK (12, 265, 230) := ⟨by decide +kernel, Or.inl (tm7 147 (by decide +kernel))⟩
theorem xok_311 : XOK (12, 269, 231) := ⟨by decide +kernel, Or.inl (tm7 152 (by decide +kernel))⟩
theorem xok_312 : XOK (12, 272, 232) := ⟨by decide +kernel, Or.inl (tm7 156 (by decide +kernel))⟩
theorem xok_313 : XOK (12, 275, 235) := ⟨by decide +kernel, Or.inl (tm7 164 (by decide +kernel))⟩
theorem xok_314 : XOK (12, 278, 236) := ⟨by decide +kernel, Or.inl (tm7 176 (by decide +kernel))⟩
theorem xok_315 : XOK (12, 281, 237) := ⟨by decide +kernel, Or.inl (tm7 180 (by decide +kernel))⟩
theorem xok_316 : XOK (12, 284, 239) := ⟨by decide +kernel, Or.inl (tm7 184 (by decide +kernel))⟩
theorem xok_317 : XOK (12, 290, 240) := ⟨by decide +kernel, Or.inl (tm7 83 (by decide +kernel))⟩
theorem xok_318 : XOK (12, 303, 241) := ⟨by decide +kernel, Or.inl (tm7 200 (by decide +kernel))⟩
theorem xok_319 : XOK (12, 307, 193) := ⟨by decide +kernel, Or.inl (tm7 228 (by decide +kernel))⟩
theorem xok_320 : XOK (12, 310, 190) := ⟨by decide +kernel, Or.inl (tm7 236 (by decide +kernel))⟩
theorem xok_321 : XOK (12, 316, 252) := ⟨by decide +kernel, Or.inl (tm8 3 (by decide +kernel))⟩
theorem xok_322 : XOK (12, 323, 255) := ⟨by decide +kernel, Or.inl (tm8 17 (by decide +kernel))⟩
theorem xok_323 : XOK (12, 327, 266) := ⟨by decide +kernel, Or.inl (tm8 62 (by decide +kernel))⟩
theorem xok_324 : XOK (12, 331, 272) := ⟨by decide +kernel, Or.inl (tm8 86 (by decide +kernel))⟩
theorem xok_325 : XOK (12, 336, 278) := ⟨by decide +kernel, Or.inl (tm8 106 (by decide +kernel))⟩
theorem xok_326 : XOK (12, 345, 204) := ⟨by decide +kernel, Or.inl (tm8 112 (by decide +kernel))⟩
theorem xok_327 : XOK (12, 348, 275) := ⟨by decide +kernel, Or.inl (tm8 116 (by decide +kernel))⟩
theorem xok_328 : XOK (12, 352, 276) := ⟨by decide +kernel, Or.inl (tm8 120 (by decide +kernel))⟩
theorem xok_329 : XOK (12, 355, 277) := ⟨by decide +kernel, Or.inl (tm8 124 (by decide +kernel))⟩
theorem xok_330 : XOK (12, 359, 279) := ⟨by decide +kernel, Or.inl (tm8 102 (by decide +kernel))⟩
theorem xok_331 : XOK (12, 363, 280) := ⟨by decide +kernel, Or.inl (tm8 98 (by decide +kernel))⟩
theorem xok_332 : XOK (12, 366, 281) := ⟨by decide +kernel, Or.inl (tm8 128 (by decide +kernel))⟩
theorem xok_333 : XOK (12, 375, 283) := ⟨by decide +kernel, Or.inl (tm8 136 (by decide +kernel))⟩
theorem xok_334 : XOK (12, 382, 286) := ⟨by decide +kernel, Or.inl (tm8 148 (by decide +kernel))⟩
theorem xok_335 : XOK (12, 388, 287) := ⟨by decide +kernel, Or.inl (tm8 153 (by decide +kernel))⟩
theorem xok_336 : XOK (12, 391, 289) := ⟨by decide +kernel, Or.inl (tm8 161 (by decide +kernel))⟩
theorem xok_337 : XOK (12, 394, 214) := ⟨by decide +kernel, Or.inl (tm8 177 (by decide +kernel))⟩
theorem xok_338 : XOK (12, 403, 294) := ⟨by decide +kernel, Or.inl (tm8 186 (by decide +kernel))⟩
theorem xok_339 : XOK (12, 409, 295) := ⟨by decide +kernel, Or.inl (tm8 191 (by decide +kernel))⟩
theorem xokb_0 : ∀ x ∈ [(11, 9, 9), (11, 18, 88), (11, 27, 99), (11, 36, 57), (11, 43, 0), (11, 53, 113), (11, 62, 30), (11, 71, 49), (11, 84, 129), (11, 88, 15), (11, 94, 130), (11, 97, 12), (11, 101, 91), (11, 104, 92), (11, 108, 131), (11, 111, 90), (11, 115, 3), (11, 123, 133), (11, 126, 1), (11, 129, 142)], XOK x := List.forall_mem_cons.mpr ⟨xok_0, List.forall_mem_cons.mpr ⟨xok_1, List.forall_mem_cons.mpr ⟨xok_2, List.forall_mem_cons.mpr ⟨xok_3, List.forall_mem_cons.mpr ⟨xok_4, List.forall_mem_cons.mpr ⟨xok_5, List.forall_mem_cons.mpr ⟨xok_6, List.forall_mem_cons.mpr ⟨xok_7, List.forall_mem_cons.mpr ⟨xok_8, List.forall_mem_cons.mpr ⟨xok_9, List.forall_mem_cons.mpr ⟨xok_10, List.forall_mem_cons.mpr ⟨xok_11, List.forall_mem_cons.mpr ⟨xok_12, List.forall_mem_cons.mpr ⟨xok_13, List.forall_mem_cons.mpr ⟨xok_14, List.forall_mem_cons.mpr ⟨xok_15, List.forall_mem_cons.mpr ⟨xok_16, List.forall_mem_cons.mpr ⟨xok_17, List.forall_mem_cons.mpr ⟨xok_18, List.forall_mem_cons.mpr ⟨xok_19, fun _ h => absurd h List.not_mem_nil⟩⟩⟩⟩⟩⟩⟩⟩⟩⟩⟩⟩⟩⟩⟩⟩⟩⟩⟩⟩
theorem xokb_1 : ∀ x ∈ [(11, 133, 102), (11, 134, 98), (11, 138, 94), (11, 141, 104), (11, 145, 143), (11, 148, 103), (11, 150, 109), (11, 153, 55), (11, 157, 132), (11, 161, 93), (11, 165, 52), (11, 168, 101), (11, 184, 106), (11, 187, 108), (11, 190, 105), (11, 193, 60), (11, 194, 61), (11, 197, 62), (11, 198, 59), (11, 199, 63)], XOK x := List.forall_mem_cons.mpr ⟨xok_20, List.forall_mem_cons.mpr ⟨xok_21, List.forall_mem_cons.mpr ⟨xok_22, List.forall_mem_cons.mpr ⟨xok_23, List.forall_mem_cons.mpr ⟨xok_24, List.forall_mem_cons.mpr ⟨xok_25, List.forall_mem_cons.mpr ⟨xok_26, List.forall_mem_cons.mpr ⟨xok_27, List.forall_mem_cons.mpr ⟨xok_28, List.forall_mem_cons.mpr ⟨xok_29, List.forall_mem_cons.mpr ⟨xok_30, List.forall_mem_cons.mpr ⟨xok_31, List.forall_mem_cons.mpr ⟨xok_32, List.forall_mem_cons.mpr ⟨xok_33, List.forall_mem_cons.mpr ⟨xok_34, List.forall_mem_cons.mpr ⟨xok_35, List.forall_mem_cons.mpr ⟨xok_36, List.forall_mem_cons.mpr ⟨xok_37, List.forall_mem_cons.mpr ⟨xok_38, List.forall_mem_cons.mpr ⟨xok_39, fun _ h => absurd h List.not_mem_nil⟩⟩⟩⟩⟩⟩⟩⟩⟩⟩⟩⟩⟩⟩⟩⟩⟩⟩⟩⟩
theorem xokb_2 : ∀ x ∈ [(11, 202, 64), (11, 206, 134), (11, 209, 155), (11, 214, 20), (11, 217, 71), (11, 221, 26), (11, 224, 66), (11, 227, 70), (11, 231, 69), (11, 234, 21), (11, 237, 23), (11, 241, 24), (11, 248, 25), (11, 252, 76), (11, 256, 67), (11, 259, 73), (11, 265, 77), (11, 268, 79), (11, 271, 72), (11, 275, 165)], XOK x := List.forall_mem_cons.mpr ⟨xok_40, List.forall_mem_cons.mpr ⟨xok_41, List.forall_mem_cons.mpr ⟨xok_42, List.forall_mem_cons.mpr ⟨xok_43, List.forall_mem_cons.mpr ⟨xok_44, List.forall_mem_cons.mpr ⟨xok_45, List.forall_mem_cons.mpr ⟨xok_46, List.forall_mem_cons.mpr ⟨xok_47, List.forall_mem_cons.mpr ⟨xok_48, List.forall_mem_cons.mpr ⟨xok_49, List.forall_mem_cons.mpr ⟨xok_50, List.forall_mem_cons.mpr ⟨xok_51, List.forall_mem_cons.mpr ⟨xok_52, List.forall_mem_cons.mpr ⟨xok_53, List.forall_mem_cons.mpr ⟨xok_54, List.forall_mem_cons.mpr ⟨xok_55, List.forall_mem_cons.mpr ⟨xok_56, List.forall_mem_cons.mpr ⟨xok_57, List.forall_mem_cons.mpr ⟨xok_58, List.forall_mem_cons.mpr ⟨xok_59, fun _ h => absurd h List.not_mem_nil⟩⟩⟩⟩⟩⟩⟩⟩⟩⟩⟩⟩⟩⟩⟩⟩⟩⟩⟩⟩
theorem xokb_3 : ∀ x ∈ [(11, 279, 166), (11, 282, 68), (11, 285, 169), (11, 292, 74), (11, 295, 81), (11, 298, 80), (11, 301, 82), (11, 304, 83), (11, 307, 84), (11, 313, 18), (11, 319, 114), (11, 322, 115), (11, 325, 124), (11, 328, 126), (11, 331, 127), (11, 334, 95), (11, 339, 38), (11, 343, 34), (11, 346, 32), (11, 349, 37)], XOK x := List.forall_mem_cons.mpr ⟨xok_60, List.forall_mem_cons.mpr ⟨xok_61, List.forall_mem_cons.mpr ⟨xok_62, List.forall_mem_cons.mpr ⟨xok_63, List.forall_mem_cons.mpr ⟨xok_64, List.forall_mem_cons.mpr ⟨xok_65, List.forall_mem_cons.mpr ⟨xok_66, List.forall_mem_cons.mpr ⟨xok_67, List.forall_mem_cons.mpr ⟨xok_68, List.forall_mem_cons.mpr ⟨xok_69, List.forall_mem_cons.mpr ⟨xok_70, List.forall_mem_cons.mpr ⟨xok_71, List.forall_mem_cons.mpr ⟨xok_72, List.forall_mem_cons.mpr ⟨xok_73, List.forall_mem_cons.mpr ⟨xok_74, List.forall_mem_cons.mpr ⟨xok_75, List.forall_mem_cons.mpr ⟨xok_76, List.forall_mem_cons.mpr ⟨xok_77, List.forall_mem_cons.mpr ⟨xok_78, List.forall_mem_cons.mpr ⟨xok_79, fun _ h => absurd h List.not_mem_nil⟩⟩⟩⟩⟩⟩⟩⟩⟩⟩⟩⟩⟩⟩⟩⟩⟩⟩⟩⟩
theorem xokb_4 : ∀ x ∈ [(11, 352, 33), (11, 355, 10), (11, 358, 16), (11, 364, 50), (11, 367, 89), (11, 370, 100), (11, 371, 58), (11, 372, 107), (11, 384, 86), (0, 37, 4), (0, 41, 6), (0, 45, 7), (0, 48, 8), (0, 51, 2), (0, 54, 5), (1, 37, 14), (1, 40, 298), (1, 46, 19), (2, 17, 297), (2, 23, 13)], XOK x := List.forall_mem_cons.mpr ⟨xok_80, List.forall_mem_cons.mpr ⟨xok_81, List.forall_mem_cons.mpr ⟨xok_82, List.forall_mem_cons.mpr ⟨xok_83, List.forall_mem_cons.mpr ⟨xok_84, List.forall_mem_cons.mpr ⟨xok_85, List.forall_mem_cons.mpr ⟨xok_86, List.forall_mem_cons.mpr ⟨xok_87, List.forall_mem_cons.mpr ⟨xok_88, List.forall_mem_cons.mpr ⟨xok_89, List.forall_mem_cons.mpr ⟨xok_90, List.forall_mem_cons.mpr ⟨xok_91, List.forall_mem_cons.mpr ⟨xok_92, List.forall_mem_cons.mpr ⟨xok_93, List.forall_mem_cons.mpr ⟨xok_94, List.forall_mem_cons.mpr ⟨xok_95, List.forall_mem_cons.mpr ⟨xok_96, List.forall_mem_cons.mpr ⟨xok_97, List.forall_mem_cons.mpr ⟨xok_98, List.forall_mem_cons.mpr ⟨xok_99, fun _ h => absurd h List.not_mem_nil⟩⟩⟩⟩⟩⟩⟩⟩⟩⟩⟩⟩⟩⟩⟩⟩⟩⟩⟩⟩
theorem xokb_5 : ∀ x ∈ [(3, 22, 27), (3, 26, 28), (3, 33, 29), (3, 49, 20), (4, 52, 95), (4, 61, 109), (4, 69, 89), (4, 72, 94), (4, 76, 100), (4, 83, 32), (4, 87, 31), (4, 88, 35), (4, 92, 36), (4, 96, 39), (4, 104, 40), (4, 107, 41), (4, 110, 42), (4, 114, 43), (6, 25, 297), (6, 42, 54)], XOK x := List.forall_mem_cons.mpr ⟨xok_100, List.forall_mem_cons.mpr ⟨xok_101, List.forall_mem_cons.mpr ⟨xok_102, List.forall_mem_cons.mpr ⟨xok_103, List.forall_mem_cons.mpr ⟨xok_104, List.forall_mem_cons.mpr ⟨xok_105, List.forall_mem_cons.mpr ⟨xok_106, List.forall_mem_cons.mpr ⟨xok_107, List.forall_mem_cons.mpr ⟨xok_108, List.forall_mem_cons.mpr ⟨xok_109, List.forall_mem_cons.mpr ⟨xok_110, List.forall_mem_cons.mpr ⟨xok_111, List.forall_mem_cons.mpr ⟨xok_112, List.forall_mem_cons.mpr ⟨xok_113, List.forall_mem_cons.mpr ⟨xok_114, List.forall_mem_cons.mpr ⟨xok_115, List.forall_mem_cons.mpr ⟨xok_116, List.forall_mem_cons.mpr ⟨xok_117, List.forall_mem_cons.mpr ⟨xok_118, List.forall_mem_cons.mpr ⟨xok_119, fun _ h => absurd h List.not_mem_nil⟩⟩⟩⟩⟩⟩⟩⟩⟩⟩⟩⟩⟩⟩⟩⟩⟩⟩⟩⟩
theorem xokb_6 : ∀ x ∈ [(6, 46, 56), (7, 19, 17), (7, 57, 58), (7, 61, 18), (7, 65, 63), (7, 69, 66), (7, 73, 70), (7, 81, 59), (7, 84, 65), (7, 88, 75), (7, 92, 78), (7, 95, 81), (7, 98, 80), (7, 101, 85), (7, 104, 22), (7, 107, 21), (7, 112, 87), (8, 21, 17), (8, 46, 89), (8, 49, 18)], XOK x := List.forall_mem_cons.mpr ⟨xok_120, List.forall_mem_cons.mpr ⟨xok_121, List.forall_mem_cons.mpr ⟨xok_122, List.forall_mem_cons.mpr ⟨xok_123, List.forall_mem_cons.mpr ⟨xok_124, List.forall_mem_cons.mpr ⟨xok_125, List.forall_mem_cons.mpr ⟨xok_126, List.forall_mem_cons.mpr ⟨xok_127, List.forall_mem_cons.mpr ⟨xok_128, List.forall_mem_cons.mpr ⟨xok_129, List.forall_mem_cons.mpr ⟨xok_130, List.forall_mem_cons.mpr ⟨xok_131, List.forall_mem_cons.mpr ⟨xok_132, List.forall_mem_cons.mpr ⟨xok_133, List.forall_mem_cons.mpr ⟨xok_134, List.forall_mem_cons.mpr ⟨xok_135, List.forall_mem_cons.mpr ⟨xok_136, List.forall_mem_cons.mpr ⟨xok_137, List.forall_mem_cons.mpr ⟨xok_138, List.forall_mem_cons.mpr ⟨xok_139, fun _ h => absurd h List.not_mem_nil⟩⟩⟩⟩⟩⟩⟩⟩⟩⟩⟩⟩⟩⟩⟩⟩⟩⟩⟩⟩
theorem xokb_7 : ∀ x ∈ [(8, 65, 96), (8, 71, 97), (9, 41, 44), (9, 65, 17), (9, 84, 100), (9, 87, 18), (9, 96, 109), (9, 99, 46), (9, 106, 94), (9, 110, 110), (9, 114, 111), (9, 117, 112), (9, 120, 89), (9, 121, 45), (9, 125, 48), (9, 129, 47), (10, 38, 49), (10, 70, 116), (10, 73, 89), (10, 79, 94)], XOK x := List.forall_mem_cons.mpr ⟨xok_140, List.forall_mem_cons.mpr ⟨xok_141, List.forall_mem_cons.mpr ⟨xok_142, List.forall_mem_cons.mpr ⟨xok_143, List.forall_mem_cons.mpr ⟨xok_144, List.forall_mem_cons.mpr ⟨xok_145, List.forall_mem_cons.mpr ⟨xok_146, List.forall_mem_cons.mpr ⟨xok_147, List.forall_mem_cons.mpr ⟨xok_148, List.forall_mem_cons.mpr ⟨xok_149, List.forall_mem_cons.mpr ⟨xok_150, List.forall_mem_cons.mpr ⟨xok_151, List.forall_mem_cons.mpr ⟨xok_152, List.forall_mem_cons.mpr ⟨xok_153, List.forall_mem_cons.mpr ⟨xok_154, List.forall_mem_cons.mpr ⟨xok_155, List.forall_mem_cons.mpr ⟨xok_156, List.forall_mem_cons.mpr ⟨xok_157, List.forall_mem_cons.mpr ⟨xok_158, List.forall_mem_cons.mpr ⟨xok_159, fun _ h => absurd h List.not_mem_nil⟩⟩⟩⟩⟩⟩⟩⟩⟩⟩⟩⟩⟩⟩⟩⟩⟩⟩⟩⟩
theorem xokb_8 : ∀ x ∈ [(10, 83, 104), (10, 89, 11), (10, 106, 58), (10, 109, 80), (10, 112, 90), (10, 116, 117), (10, 120, 123), (10, 123, 3), (10, 129, 65), (10, 132, 70), (10, 141, 21), (10, 144, 121), (10, 148, 122), (10, 162, 119), (10, 166, 120), (10, 171, 118), (10, 178, 125), (10, 184, 109), (10, 188, 54), (10, 192, 53)], XOK x := List.forall_mem_cons.mpr ⟨xok_160, List.forall_mem_cons.mpr ⟨xok_161, List.forall_mem_cons.mpr ⟨xok_162, List.forall_mem_cons.mpr ⟨xok_163, List.forall_mem_cons.mpr ⟨xok_164, List.forall_mem_cons.mpr ⟨xok_165, List.forall_mem_cons.mpr ⟨xok_166, List.forall_mem_cons.mpr ⟨xok_167, List.forall_mem_cons.mpr ⟨xok_168, List.forall_mem_cons.mpr ⟨xok_169, List.forall_mem_cons.mpr ⟨xok_170, List.forall_mem_cons.mpr ⟨xok_171, List.forall_mem_cons.mpr ⟨xok_172, List.forall_mem_cons.mpr ⟨xok_173, List.forall_mem_cons.mpr ⟨xok_174, List.forall_mem_cons.mpr ⟨xok_175, List.forall_mem_cons.mpr ⟨xok_176, List.forall_mem_cons.mpr ⟨xok_177, List.forall_mem_cons.mpr ⟨xok_178, List.forall_mem_cons.mpr ⟨xok_179, fun _ h => absurd h List.not_mem_nil⟩⟩⟩⟩⟩⟩⟩⟩⟩⟩⟩⟩⟩⟩⟩⟩⟩⟩⟩⟩
theorem xokb_9 : ∀ x ∈ [(10, 195, 55), (10, 199, 51), (10, 208, 52), (13, 9, 128), (13, 12, 188), (13, 13, 135), (13, 17, 244), (13, 18, 136), (13, 21, 201), (13, 22, 137), (13, 26, 202), (13, 27, 138), (13, 31, 203), (13, 32, 139), (13, 35, 245), (13, 36, 140), (13, 39, 246), (13, 40, 141), (13, 43, 247), (13, 44, 144)], XOK x := List.forall_mem_cons.mpr ⟨xok_180, List.forall_mem_cons.mpr ⟨xok_181, List.forall_mem_cons.mpr ⟨xok_182, List.forall_mem_cons.mpr ⟨xok_183, List.forall_mem_cons.mpr ⟨xok_184, List.forall_mem_cons.mpr ⟨xok_185, List.forall_mem_cons.mpr ⟨xok_186, List.forall_mem_cons.mpr ⟨xok_187, List.forall_mem_cons.mpr ⟨xok_188, List.forall_mem_cons.mpr ⟨xok_189, List.forall_mem_cons.mpr ⟨xok_190, List.forall_mem_cons.mpr ⟨xok_191, List.forall_mem_cons.mpr ⟨xok_192, List.forall_mem_cons.mpr ⟨xok_193, List.forall_mem_cons.mpr ⟨xok_194, List.forall_mem_cons.mpr ⟨xok_195, List.forall_mem_cons.mpr ⟨xok_196, List.forall_mem_cons.mpr ⟨xok_197, List.forall_mem_cons.mpr ⟨xok_198, List.forall_mem_cons.mpr ⟨xok_199, fun _ h => absurd h List.not_mem_nil⟩⟩⟩⟩⟩⟩⟩⟩⟩⟩⟩⟩⟩⟩⟩⟩⟩⟩⟩⟩
theorem xokb_10 : ∀ x ∈ [(13, 47, 248), (13, 48, 145), (13, 51, 217), (13, 52, 146), (13, 55, 216), (13, 56, 147), (13, 59, 211), (13, 60, 148), (13, 63, 212), (13, 64, 149), (13, 67, 213), (13, 68, 150), (13, 71, 215), (13, 72, 151), (13, 75, 249), (13, 76, 152), (13, 79, 250), (13, 80, 153), (13, 84, 251), (13, 85, 154)], XOK x := List.forall_mem_cons.mpr ⟨xok_200, List.forall_mem_cons.mpr ⟨xok_201, List.forall_mem_cons.mpr ⟨xok_202, List.forall_mem_cons.mpr ⟨xok_203, List.forall_mem_cons.mpr ⟨xok_204, List.forall_mem_cons.mpr ⟨xok_205, List.forall_mem_cons.mpr ⟨xok_206, List.forall_mem_cons.mpr ⟨xok_207, List.forall_mem_cons.mpr ⟨xok_208, List.forall_mem_cons.mpr ⟨xok_209, List.forall_mem_cons.mpr ⟨xok_210, List.forall_mem_cons.mpr ⟨xok_211, List.forall_mem_cons.mpr ⟨xok_212, List.forall_mem_cons.mpr ⟨xok_213, List.forall_mem_cons.mpr ⟨xok_214, List.forall_mem_cons.mpr ⟨xok_215, List.forall_mem_cons.mpr ⟨xok_216, List.forall_mem_cons.mpr ⟨xok_217, List.forall_mem_cons.mpr ⟨xok_218, List.forall_mem_cons.mpr ⟨xok_219, fun _ h => absurd h List.not_mem_nil⟩⟩⟩⟩⟩⟩⟩⟩⟩⟩⟩⟩⟩⟩⟩⟩⟩⟩⟩⟩
theorem xokb_11 : ∀ x ∈ [(13, 88, 253), (13, 89, 156), (13, 92, 254), (13, 95, 157), (13, 99, 256), (13, 100, 158), (13, 104, 257), (13, 105, 159), (13, 108, 258), (13, 109, 160), (13, 112, 259), (13, 113, 161), (13, 116, 264), (13, 117, 162), (13, 120, 265), (13, 121, 167), (13, 125, 267), (13, 126, 168), (13, 129, 268), (13, 130, 163)], XOK x := List.forall_mem_cons.mpr ⟨xok_220, List.forall_mem_cons.mpr ⟨xok_221, List.forall_mem_cons.mpr ⟨xok_222, List.forall_mem_cons.mpr ⟨xok_223, List.forall_mem_cons.mpr ⟨xok_224, List.forall_mem_cons.mpr ⟨xok_225, List.forall_mem_cons.mpr ⟨xok_226, List.forall_mem_cons.mpr ⟨xok_227, List.forall_mem_cons.mpr ⟨xok_228, List.forall_mem_cons.mpr ⟨xok_229, List.forall_mem_cons.mpr ⟨xok_230, List.forall_mem_cons.mpr ⟨xok_231, List.forall_mem_cons.mpr ⟨xok_232, List.forall_mem_cons.mpr ⟨xok_233, List.forall_mem_cons.mpr ⟨xok_234, List.forall_mem_cons.mpr ⟨xok_235, List.forall_mem_cons.mpr ⟨xok_236, List.forall_mem_cons.mpr ⟨xok_237, List.forall_mem_cons.mpr ⟨xok_238, List.forall_mem_cons.mpr ⟨xok_239, fun _ h => absurd h List.not_mem_nil⟩⟩⟩⟩⟩⟩⟩⟩⟩⟩⟩⟩⟩⟩⟩⟩⟩⟩⟩⟩
theorem xokb_12 : ∀ x ∈ [(13, 133, 269), (13, 134, 164), (13, 137, 270), (13, 138, 170), (13, 141, 260), (13, 142, 171), (13, 146, 261), (13, 147, 172), (13, 150, 262), (13, 151, 173), (13, 154, 271), (13, 155, 174), (13, 158, 273), (13, 159, 175), (13, 162, 274), (13, 163, 176), (13, 166, 263), (13, 167, 177), (13, 170, 282), (13, 171, 178)], XOK x := List.forall_mem_cons.mpr ⟨xok_240, List.forall_mem_cons.mpr ⟨xok_241, List.forall_mem_cons.mpr ⟨xok_242, List.forall_mem_cons.mpr ⟨xok_243, List.forall_mem_cons.mpr ⟨xok_244, List.forall_mem_cons.mpr ⟨xok_245, List.forall_mem_cons.mpr ⟨xok_246, List.forall_mem_cons.mpr ⟨xok_247, List.forall_mem_cons.mpr ⟨xok_248, List.forall_mem_cons.mpr ⟨xok_249, List.forall_mem_cons.mpr ⟨xok_250, List.forall_mem_cons.mpr ⟨xok_251, List.forall_mem_cons.mpr ⟨xok_252, List.forall_mem_cons.mpr ⟨xok_253, List.forall_mem_cons.mpr ⟨xok_254, List.forall_mem_cons.mpr ⟨xok_255, List.forall_mem_cons.mpr ⟨xok_256, List.forall_mem_cons.mpr ⟨xok_257, List.forall_mem_cons.mpr ⟨xok_258, List.forall_mem_cons.mpr ⟨xok_259, fun _ h => absurd h List.not_mem_nil⟩⟩⟩⟩⟩⟩⟩⟩⟩⟩⟩⟩⟩⟩⟩⟩⟩⟩⟩⟩
theorem xokb_13 : ∀ x ∈ [(13, 174, 284), (13, 175, 179), (13, 178, 285), (13, 179, 180), (13, 183, 288), (13, 184, 181), (13, 187, 290), (13, 188, 182), (13, 191, 291), (13, 192, 183), (13, 195, 292), (13, 196, 184), (13, 199, 242), (13, 200, 185), (13, 203, 293), (13, 204, 186), (13, 207, 243), (13, 208, 187), (13, 211, 296), (12, 126, 189)], XOK x := List.forall_mem_cons.mpr ⟨xok_260, List.forall_mem_cons.mpr ⟨xok_261, List.forall_mem_cons.mpr ⟨xok_262, List.forall_mem_cons.mpr ⟨xok_263, List.forall_mem_cons.mpr ⟨xok_264, List.forall_mem_cons.mpr ⟨xok_265, List.forall_mem_cons.mpr ⟨xok_266, List.forall_mem_cons.mpr ⟨xok_267, List.forall_mem_cons.mpr ⟨xok_268, List.forall_mem_cons.mpr ⟨xok_269, List.forall_mem_cons.mpr ⟨xok_270, List.forall_mem_cons.mpr ⟨xok_271, List.forall_mem_cons.mpr ⟨xok_272, List.forall_mem_cons.mpr ⟨xok_273, List.forall_mem_cons.mpr ⟨xok_274, List.forall_mem_cons.mpr ⟨xok_275, List.forall_mem_cons.mpr ⟨xok_276, List.forall_mem_cons.mpr ⟨xok_277, List.forall_mem_cons.mpr ⟨xok_278, List.forall_mem_cons.mpr ⟨xok_279, fun _ h => absurd h List.not_mem_nil⟩⟩⟩⟩⟩⟩⟩⟩⟩⟩⟩⟩⟩⟩⟩⟩⟩⟩⟩⟩
theorem xokb_14 : ∀ x ∈ [(12, 143, 194), (12, 147, 192), (12, 151, 196), (12, 155, 191), (12, 158, 197), (12, 161, 198), (12, 164, 199), (12, 167, 200), (12, 176, 206), (12, 183, 208), (12, 189, 207), (12, 193, 210), (12, 199, 195), (12, 202, 209), (12, 205, 222), (12, 208, 205), (12, 211, 221), (12, 214, 225), (12, 217, 226), (12, 222, 227)], XOK x := List.forall_mem_cons.mpr ⟨xok_280, List.forall_mem_cons.mpr ⟨xok_281, List.forall_mem_cons.mpr ⟨xok_282, List.forall_mem_cons.mpr ⟨xok_283, List.forall_mem_cons.mpr ⟨xok_284, List.forall_mem_cons.mpr ⟨xok_285, List.forall_mem_cons.mpr ⟨xok_286, List.forall_mem_cons.mpr ⟨xok_287, List.forall_mem_cons.mpr ⟨xok_288, List.forall_mem_cons.mpr ⟨xok_289, List.forall_mem_cons.mpr ⟨xok_290, List.forall_mem_cons.mpr ⟨xok_291, List.forall_mem_cons.mpr ⟨xok_292, List.forall_mem_cons.mpr ⟨xok_293, List.forall_mem_cons.mpr ⟨xok_294, List.forall_mem_cons.mpr ⟨xok_295, List.forall_mem_cons.mpr ⟨xok_296, List.forall_mem_cons.mpr ⟨xok_297, List.forall_mem_cons.mpr ⟨xok_298, List.forall_mem_cons.mpr ⟨xok_299, fun _ h => absurd h List.not_mem_nil⟩⟩⟩⟩⟩⟩⟩⟩⟩⟩⟩⟩⟩⟩⟩⟩⟩⟩⟩⟩
theorem xokb_15 : ∀ x ∈ [(12, 226, 234), (12, 229, 233), (12, 239, 238), (12, 242, 218), (12, 245, 219), (12, 248, 220), (12, 251, 223), (12, 254, 224), (12, 257, 228), (12, 261, 229), (12, 265, 230), (12, 269, 231), (12, 272, 232), (12, 275, 235), (12, 278, 236), (12, 281, 237), (12, 284, 239), (12, 290, 240), (12, 303, 241), (12, 307, 193)], XOK x := List.forall_mem_cons.mpr ⟨xok_300, List.forall_mem_cons.mpr ⟨xok_301, List.forall_mem_cons.mpr ⟨xok_302, List.forall_mem_cons.mpr ⟨xok_303, List.forall_mem_cons.mpr ⟨xok_304, List.forall_mem_cons.mpr ⟨xok_305, List.forall_mem_cons.mpr ⟨xok_306, List.forall_mem_cons.mpr ⟨xok_307, List.forall_mem_cons.mpr ⟨xok_308, List.forall_mem_cons.mpr ⟨xok_309, List.forall_mem_cons.mpr ⟨xok_310, List.forall_mem_cons.mpr ⟨xok_311, List.forall_mem_cons.mpr ⟨xok_312, List.forall_mem_cons.mpr ⟨xok_313, List.forall_mem_cons.mpr ⟨xok_314, List.forall_mem_cons.mpr ⟨xok_315, List.forall_mem_cons.mpr ⟨xok_316, List.forall_mem_cons.mpr ⟨xok_317, List.forall_mem_cons.mpr ⟨xok_318, List.forall_mem_cons.mpr ⟨xok_319, fun _ h => absurd h List.not_mem_nil⟩⟩⟩⟩⟩⟩⟩⟩⟩⟩⟩⟩⟩⟩⟩⟩⟩⟩⟩⟩
theorem xokb_16 : ∀ x ∈ [(12, 310, 190), (12, 316, 252), (12, 323, 255), (12, 327, 266), (12, 331, 272), (12, 336, 278), (12, 345, 204), (12, 348, 275), (12, 352, 276), (12, 355, 277), (12, 359, 279), (12, 363, 280), (12, 366, 281), (12, 375, 283), (12, 382, 286), (12, 388, 287), (12, 391, 289), (12, 394, 214), (12, 403, 294), (12, 409, 295)], XOK x := List.forall_mem_cons.mpr ⟨xok_320, List.forall_mem_cons.mpr ⟨xok_321, List.forall_mem_cons.mpr ⟨xok_322, List.forall_mem_cons.mpr ⟨xok_323, List.forall_mem_cons.mpr ⟨xok_324, List.forall_mem_cons.mpr ⟨xok_325, List.forall_mem_cons.mpr ⟨xok_326, List.forall_mem_cons.mpr ⟨xok_327, List.forall_mem_cons.mpr ⟨xok_328, List.forall_mem_cons.mpr ⟨xok_329, List.forall_mem_cons.mpr ⟨xok_330, List.forall_mem_cons.mpr ⟨xok_331, List.forall_mem_cons.mpr ⟨xok_332, List.forall_mem_cons.mpr ⟨xok_333, List.forall_mem_cons.mpr ⟨xok_334, List.forall_mem_cons.mpr ⟨xok_335, List.forall_mem_cons.mpr ⟨xok_336, List.forall_mem_cons.mpr ⟨xok_337, List.forall_mem_cons.mpr ⟨xok_338, List.forall_mem_cons.mpr ⟨xok_339, fun _ h => absurd h List.not_mem_nil⟩⟩⟩⟩⟩⟩⟩⟩⟩⟩⟩⟩⟩⟩⟩⟩⟩⟩⟩⟩
set_option maxRecDepth 100000 in
theorem xok_all : ∀ x ∈ cpM, XOK x := by
  rw [show cpM = [(11, 9, 9), (11, 18, 88), (11, 27, 99), (11, 36, 57), (11, 43, 0), (11, 53, 113), (11, 62, 30), (11, 71, 49), (11, 84, 129), (11, 88, 15), (11, 94, 130), (11, 97, 12), (11, 101, 91), (11, 104, 92), (11, 108, 131), (11, 111, 90), (11, 115, 3), (11, 123, 133), (11, 126, 1), (11, 129, 142)] ++ ([(11, 133, 102), (11, 134, 98), (11, 138, 94), (11, 141, 104), (11, 145, 143), (11, 148, 103), (11, 150, 109), (11, 153, 55), (11, 157, 132), (11, 161, 93), (11, 165, 52), (11, 168, 101), (11, 184, 106), (11, 187, 108), (11, 190, 105), (11, 193, 60), (11, 194, 61), (11, 197, 62), (11, 198, 59), (11, 199, 63)] ++ ([(11, 202, 64), (11, 206, 134), (11, 209, 155), (11, 214, 20), (11, 217, 71), (11, 221, 26), (11, 224, 66), (11, 227, 70), (11, 231, 69), (11, 234, 21), (11, 237, 23), (11, 241, 24), (11, 248, 25), (11, 252, 76), (11, 256, 67), (11, 259, 73), (11, 265, 77), (11, 268, 79), (11, 271, 72), (11, 275, 165)] ++ ([(11, 279, 166), (11, 282, 68), (11, 285, 169), (11, 292, 74), (11, 295, 81), (11, 298, 80), (11, 301, 82), (11, 304, 83), (11, 307, 84), (11, 313, 18), (11, 319, 114), (11, 322, 115), (11, 325, 124), (11, 328, 126), (11, 331, 127), (11, 334, 95), (11, 339, 38), (11, 343, 34), (11, 346, 32), (11, 349, 37)] ++ ([(11, 352, 33), (11, 355, 10), (11, 358, 16), (11, 364, 50), (11, 367, 89), (11, 370, 100), (11, 371, 58), (11, 372, 107), (11, 384, 86), (0, 37, 4), (0, 41, 6), (0, 45, 7), (0, 48, 8), (0, 51, 2), (0, 54, 5), (1, 37, 14), (1, 40, 298), (1, 46, 19), (2, 17, 297), (2, 23, 13)] ++ ([(3, 22, 27), (3, 26, 28), (3, 33, 29), (3, 49, 20), (4, 52, 95), (4, 61, 109), (4, 69, 89), (4, 72, 94), (4, 76, 100), (4, 83, 32), (4, 87, 31), (4, 88, 35), (4, 92, 36), (4, 96, 39), (4, 104, 40), (4, 107, 41), (4, 110, 42), (4, 114, 43), (6, 25, 297), (6, 42, 54)] ++ ([(6, 46, 56), (7, 19, 17), (7, 57, 58), (7, 61, 18), (7, 65, 63), (7, 69, 66), (7, 73, 70), (7, 81, 59), (7, 84, 65), (7, 88, 75), (7, 92, 78), (7, 95, 81), (7, 98, 80), (7, 101, 85), (7, 104, 22), (7, 107, 21), (7, 112, 87), (8, 21, 17), (8, 46, 89), (8, 49, 18)] ++ ([(8, 65, 96), (8, 71, 97), (9, 41, 44), (9, 65, 17), (9, 84, 100), (9, 87, 18), (9, 96, 109), (9, 99, 46), (9, 106, 94), (9, 110, 110), (9, 114, 111), (9, 117, 112), (9, 120, 89), (9, 121, 45), (9, 125, 48), (9, 129, 47), (10, 38, 49), (10, 70, 116), (10, 73, 89), (10, 79, 94)] ++ ([(10, 83, 104), (10, 89, 11), (10, 106, 58), (10, 109, 80), (10, 112, 90), (10, 116, 117), (10, 120, 123), (10, 123, 3), (10, 129, 65), (10, 132, 70), (10, 141, 21), (10, 144, 121), (10, 148, 122), (10, 162, 119), (10, 166, 120), (10, 171, 118), (10, 178, 125), (10, 184, 109), (10, 188, 54), (10, 192, 53)] ++ ([(10, 195, 55), (10, 199, 51), (10, 208, 52), (13, 9, 128), (13, 12, 188), (13, 13, 135), (13, 17, 244), (13, 18, 136), (13, 21, 201), (13, 22, 137), (13, 26, 202), (13, 27, 138), (13, 31, 203), (13, 32, 139), (13, 35, 245), (13, 36, 140), (13, 39, 246), (13, 40, 141), (13, 43, 247), (13, 44, 144)] ++ ([(13, 47, 248), (13, 48, 145), (13, 51, 217), (13, 52, 146), (13, 55, 216), (13, 56, 147), (13, 59, 211), (13, 60, 148), (13, 63, 212), (13, 64, 149), (13, 67, 213), (13, 68, 150), (13, 71, 215), (13, 72, 151), (13, 75, 249), (13, 76, 152), (13, 79, 250), (13, 80, 153), (13, 84, 251), (13, 85, 154)] ++ ([(13, 88, 253), (13, 89, 156), (13, 92, 254), (13, 95, 157), (13, 99, 256), (13, 100, 158), (13, 104, 257), (13, 105, 159), (13, 108, 258), (13, 109, 160), (13, 112, 259), (13, 113, 161), (13, 116, 264), (13, 117, 162), (13, 120, 265), (13, 121, 167), (13, 125, 267), (13, 126, 168), (13, 129, 268), (13, 130, 163)] ++ ([(13, 133, 269), (13, 134, 164), (13, 137, 270), (13, 138, 170), (13, 141, 260), (13, 142, 171), (13, 146, 261), (13, 147, 172), (13, 150, 262), (13, 151, 173), (13, 154, 271), (13, 155, 174), (13, 158, 273), (13, 159, 175), (13, 162, 274), (13, 163, 176), (13, 166, 263), (13, 167, 177), (13, 170, 282), (13, 171, 178)] ++ ([(13, 174, 284), (13, 175, 179), (13, 178, 285), (13, 179, 180), (13, 183, 288), (13, 184, 181), (13, 187, 290), (13, 188, 182), (13, 191, 291), (13, 192, 183), (13, 195, 292), (13, 196, 184), (13, 199, 242), (13, 200, 185), (13, 203, 293), (13, 204, 186), (13, 207, 243), (13, 208, 187), (13, 211, 296), (12, 126, 189)] ++ ([(12, 143, 194), (12, 147, 192), (12, 151, 196), (12, 155, 191), (12, 158, 197), (12, 161, 198), (12, 164, 199), (12, 167, 200), (12, 176, 206), (12, 183, 208), (12, 189, 207), (12, 193, 210), (12, 199, 195), (12, 202, 209), (12, 205, 222), (12, 208, 205), (12, 211, 221), (12, 214, 225), (12, 217, 226), (12, 222, 227)] ++ ([(12, 226, 234), (12, 229, 233), (12, 239, 238), (12, 242, 218), (12, 245, 219), (12, 248, 220), (12, 251, 223), (12, 254, 224), (12, 257, 228), (12, 261, 229), (12, 265, 230), (12, 269, 231), (12, 272, 232), (12, 275, 235), (12, 278, 236), (12, 281, 237), (12, 284, 239), (12, 290, 240), (12, 303, 241), (12, 307, 193)] ++ ([(12, 310, 190), (12, 316, 252), (12, 323, 255), (12, 327, 266), (12, 331, 272), (12, 336, 278), (12, 345, 204), (12, 348, 275), (12, 352, 276), (12, 355, 277), (12, 359, 279), (12, 363, 280), (12, 366, 281), (12, 375, 283), (12, 382, 286), (12, 388, 287), (12, 391, 289), (12, 394, 214), (12, 403, 294), (12, 409, 295)])))))))))))))))) from rfl]
  refine List.forall_mem_append.mpr ⟨xokb_0, ?_⟩
  refine List.forall_mem_append.mpr ⟨xokb_1, ?_⟩
  refine List.forall_mem_append.mpr ⟨xokb_2, ?_⟩
  refine List.forall_mem_append.mpr ⟨xokb_3, ?_⟩
  refine List.forall_mem_append.mpr ⟨xokb_4, ?_⟩
  refine List.forall_mem_append.mpr ⟨xokb_5, ?_⟩
  refine List.forall_mem_append.mpr ⟨xokb_6, ?_⟩
  refine List.forall_mem_append.mpr ⟨xokb_7, ?_⟩
  refine List.forall_mem_append.mpr ⟨xokb_8, ?_⟩
  refine List.forall_mem_append.mpr ⟨xokb_9, ?_⟩
  refine List.forall_mem_append.mpr ⟨xokb_10, ?_⟩
  refine List.forall_mem_append.mpr ⟨xokb_11, ?_⟩
  refine List.forall_mem_append.mpr ⟨xokb_12, ?_⟩
  refine List.forall_mem_append.mpr ⟨xokb_13, ?_⟩
  refine List.forall_mem_append.mpr ⟨xokb_14, ?_⟩
  refine List.forall_mem_append.mpr ⟨xokb_15, ?_⟩
  exact xokb_16
def cpJ : List (Nat × Nat × Nat) := [(11, 1, 1000), (0, 3, 1000), (1, 3, 1000), (2, 1, 1000), (3, 3, 1000), (3, 44, 1007), (3, 54, 1001), (3, 65, 1003), (4, 3, 1000), (5, 3, 1000), (6, 3, 1000), (7, 3, 1000), (8, 3, 1000), (8, 56, 1001), (8, 62, 1002), (9, 3, 1000), (9, 132, 1001), (10, 3, 1000), (10, 202, 1001), (12, 1, 1000), (12, 339, 1006), (14, 150, 1008), (14, 304, 1002), (14, 316, 1007)]
def jNm (r : Nat) : MethodName := if r = 1000 then objectInit else if r = 1001 then Lib.Math.max.name else if r = 1002 then Lib.Math.min.name else if r = 1003 then Lib.Math.abs.name else if r = 1006 then ⟨"java/lang/Float", "intBitsToFloat", "(I)F"⟩ else if r = 1007 then ⟨"[I", "clone", "()Ljava/lang/Object;"⟩ else arraycopyName
def JOK (x : Nat × Nat × Nat) : Prop := Cond.methodLink (cnm x.1) x.2.1 (jNm x.2.2) ∈ lw_tbl
theorem jok_0 : JOK (11, 1, 1000) := tm1 23 (by decide +kernel)
theorem jok_1 : JOK (0, 3, 1000) := tm2 30 (by decide +kernel)
theorem jok_2 : JOK (1, 3, 1000) := tm1 31 (by decide +kernel)
theorem jok_3 : JOK (2, 1, 1000) := tm1 68 (by decide +kernel)
theorem jok_4 : JOK (3, 3, 1000) := tm4 75 (by decide +kernel)
theorem jok_5 : JOK (3, 44, 1007) := tm4 152 (by decide +kernel)
theorem jok_6 : JOK (3, 54, 1001) := tm4 88 (by decide +kernel)
theorem jok_7 : JOK (3, 65, 1003) := tm4 90 (by decide +kernel)
theorem jok_8 : JOK (4, 3, 1000) := tm2 127 (by decide +kernel)
theorem jok_9 : JOK (5, 3, 1000) := tm1 138 (by decide +kernel)
theorem jok_10 : JOK (6, 3, 1000) := tm2 53 (by decide +kernel)
theorem jok_11 : JOK (7, 3, 1000) := tm1 226 (by decide +kernel)
theorem jok_12 : JOK (8, 3, 1000) := tm1 62 (by decide +kernel)
theorem jok_13 : JOK (8, 56, 1001) := tm3 202 (by decide +kernel)
theorem jok_14 : JOK (8, 62, 1002) := tm3 203 (by decide +kernel)
theorem jok_15 : JOK (9, 3, 1000) := tm1 132 (by decide +kernel)
theorem jok_16 : JOK (9, 132, 1001) := tm3 148 (by decide +kernel)
theorem jok_17 : JOK (10, 3, 1000) := tm2 47 (by decide +kernel)
theorem jok_18 : JOK (10, 202, 1001) := tm5 167 (by decide +kernel)
theorem jok_19 : JOK (12, 1, 1000) := tm6 63 (by decide +kernel)
theorem jok_20 : JOK (12, 339, 1006) := tm8 109 (by decide +kernel)
theorem jok_21 : JOK (14, 150, 1008) := tm3 23 (by decide +kernel)
theorem jok_22 : JOK (14, 304, 1002) := tm3 20 (by decide +kernel)
theorem jok_23 : JOK (14, 316, 1007) := tm3 13 (by decide +kernel)
theorem jokb_0 : ∀ x ∈ [(11, 1, 1000), (0, 3, 1000), (1, 3, 1000), (2, 1, 1000), (3, 3, 1000), (3, 44, 1007), (3, 54, 1001), (3, 65, 1003), (4, 3, 1000), (5, 3, 1000), (6, 3, 1000), (7, 3, 1000), (8, 3, 1000), (8, 56, 1001), (8, 62, 1002), (9, 3, 1000), (9, 132, 1001), (10, 3, 1000), (10, 202, 1001), (12, 1, 1000)], JOK x := List.forall_mem_cons.mpr ⟨jok_0, List.forall_mem_cons.mpr ⟨jok_1, List.forall_mem_cons.mpr ⟨jok_2, List.forall_mem_cons.mpr ⟨jok_3, List.forall_mem_cons.mpr ⟨jok_4, List.forall_mem_cons.mpr ⟨jok_5, List.forall_mem_cons.mpr ⟨jok_6, List.forall_mem_cons.mpr ⟨jok_7, List.forall_mem_cons.mpr ⟨jok_8, List.forall_mem_cons.mpr ⟨jok_9, List.forall_mem_cons.mpr ⟨jok_10, List.forall_mem_cons.mpr ⟨jok_11, List.forall_mem_cons.mpr ⟨jok_12, List.forall_mem_cons.mpr ⟨jok_13, List.forall_mem_cons.mpr ⟨jok_14, List.forall_mem_cons.mpr ⟨jok_15, List.forall_mem_cons.mpr ⟨jok_16, List.forall_mem_cons.mpr ⟨jok_17, List.forall_mem_cons.mpr ⟨jok_18, List.forall_mem_cons.mpr ⟨jok_19, fun _ h => absurd h List.not_mem_nil⟩⟩⟩⟩⟩⟩⟩⟩⟩⟩⟩⟩⟩⟩⟩⟩⟩⟩⟩⟩
theorem jokb_1 : ∀ x ∈ [(12, 339, 1006), (14, 150, 1008), (14, 304, 1002), (14, 316, 1007)], JOK x := List.forall_mem_cons.mpr ⟨jok_20, List.forall_mem_cons.mpr ⟨jok_21, List.forall_mem_cons.mpr ⟨jok_22, List.forall_mem_cons.mpr ⟨jok_23, fun _ h => absurd h List.not_mem_nil⟩⟩⟩⟩
set_option maxRecDepth 100000 in
theorem jok_all : ∀ x ∈ cpJ, JOK x := by
  rw [show cpJ = [(11, 1, 1000), (0, 3, 1000), (1, 3, 1000), (2, 1, 1000), (3, 3, 1000), (3, 44, 1007), (3, 54, 1001), (3, 65, 1003), (4, 3, 1000), (5, 3, 1000), (6, 3, 1000), (7, 3, 1000), (8, 3, 1000), (8, 56, 1001), (8, 62, 1002), (9, 3, 1000), (9, 132, 1001), (10, 3, 1000), (10, 202, 1001), (12, 1, 1000)] ++ ([(12, 339, 1006), (14, 150, 1008), (14, 304, 1002), (14, 316, 1007)]) from rfl]
  refine List.forall_mem_append.mpr ⟨jokb_0, ?_⟩
  exact jokb_1
def cpC : List (Nat × Nat × Nat) := [(11, 7, 1), (11, 16, 8), (11, 25, 9), (11, 34, 7), (11, 41, 0), (11, 51, 10), (11, 60, 4), (11, 69, 6), (11, 212, 3), (1, 15, 2), (3, 10, 3), (3, 45, 99), (7, 9, 3), (7, 17, 2), (8, 19, 2), (9, 39, 5), (9, 63, 2), (10, 36, 6), (13, 7, 11), (13, 10, 12), (14, 317, 99)]
def KOK (x : Nat × Nat × Nat) : Prop := Cond.classLink (cnm x.1) x.2.1 (if x.2.2 = 99 then "[I" else cnm x.2.2) ∈ lw_tbl
theorem kok_0 : KOK (11, 7, 1) := tm1 26 (by decide +kernel)
theorem kok_1 : KOK (11, 16, 8) := tm1 57 (by decide +kernel)
theorem kok_2 : KOK (11, 25, 9) := tm1 127 (by decide +kernel)
theorem kok_3 : KOK (11, 34, 7) := tm1 221 (by decide +kernel)
theorem kok_4 : KOK (11, 41, 0) := tm2 25 (by decide +kernel)
theorem kok_5 : KOK (11, 51, 10) := tm2 42 (by decide +kernel)
theorem kok_6 : KOK (11, 60, 4) := tm2 122 (by decide +kernel)
theorem kok_7 : KOK (11, 69, 6) := tm2 171 (by decide +kernel)
theorem kok_8 : KOK (11, 212, 3) := tm4 70 (by decide +kernel)
theorem kok_9 : KOK (1, 15, 2) := tm1 32 (by decide +kernel)
theorem kok_10 : KOK (3, 10, 3) := tm4 154 (by decide +kernel)
theorem kok_11 : KOK (3, 45, 99) := tm4 153 (by decide +kernel)
theorem kok_12 : KOK (7, 9, 3) := tm1 227 (by decide +kernel)
theorem kok_13 : KOK (7, 17, 2) := tm1 229 (by decide +kernel)
theorem kok_14 : KOK (8, 19, 2) := tm1 63 (by decide +kernel)
theorem kok_15 : KOK (9, 39, 5) := tm1 133 (by decide +kernel)
theorem kok_16 : KOK (9, 63, 2) := tm1 147 (by decide +kernel)
theorem kok_17 : KOK (10, 36, 6) := tm2 48 (by decide +kernel)
theorem kok_18 : KOK (13, 7, 11) := tm1 18 (by decide +kernel)
theorem kok_19 : KOK (13, 10, 12) := tm6 58 (by decide +kernel)
theorem kok_20 : KOK (14, 317, 99) := tm3 19 (by decide +kernel)
theorem kokb_0 : ∀ x ∈ [(11, 7, 1), (11, 16, 8), (11, 25, 9), (11, 34, 7), (11, 41, 0), (11, 51, 10), (11, 60, 4), (11, 69, 6), (11, 212, 3), (1, 15, 2), (3, 10, 3), (3, 45, 99), (7, 9, 3), (7, 17, 2), (8, 19, 2), (9, 39, 5), (9, 63, 2), (10, 36, 6), (13, 7, 11), (13, 10, 12)], KOK x := List.forall_mem_cons.mpr ⟨kok_0, List.forall_mem_cons.mpr ⟨kok_1, List.forall_mem_cons.mpr ⟨kok_2, List.forall_mem_cons.mpr ⟨kok_3, List.forall_mem_cons.mpr ⟨kok_4, List.forall_mem_cons.mpr ⟨kok_5, List.forall_mem_cons.mpr ⟨kok_6, List.forall_mem_cons.mpr ⟨kok_7, List.forall_mem_cons.mpr ⟨kok_8, List.forall_mem_cons.mpr ⟨kok_9, List.forall_mem_cons.mpr ⟨kok_10, List.forall_mem_cons.mpr ⟨kok_11, List.forall_mem_cons.mpr ⟨kok_12, List.forall_mem_cons.mpr ⟨kok_13, List.forall_mem_cons.mpr ⟨kok_14, List.forall_mem_cons.mpr ⟨kok_15, List.forall_mem_cons.mpr ⟨kok_16, List.forall_mem_cons.mpr ⟨kok_17, List.forall_mem_cons.mpr ⟨kok_18, List.forall_mem_cons.mpr ⟨kok_19, fun _ h => absurd h List.not_mem_nil⟩⟩⟩⟩⟩⟩⟩⟩⟩⟩⟩⟩⟩⟩⟩⟩⟩⟩⟩⟩
theorem kokb_1 : ∀ x ∈ [(14, 317, 99)], KOK x := List.forall_mem_cons.mpr ⟨kok_20, fun _ h => absurd h List.not_mem_nil⟩
set_option maxRecDepth 100000 in
theorem kok_all : ∀ x ∈ cpC, KOK x := by
  rw [show cpC = [(11, 7, 1), (11, 16, 8), (11, 25, 9), (11, 34, 7), (11, 41, 0), (11, 51, 10), (11, 60, 4), (11, 69, 6), (11, 212, 3), (1, 15, 2), (3, 10, 3), (3, 45, 99), (7, 9, 3), (7, 17, 2), (8, 19, 2), (9, 39, 5), (9, 63, 2), (10, 36, 6), (13, 7, 11), (13, 10, 12)] ++ ([(14, 317, 99)]) from rfl]
  refine List.forall_mem_append.mpr ⟨kokb_0, ?_⟩
  exact kokb_1
def cpV : List (Nat × Nat × Nat × Int) := [(11, 337, 1, -2), (11, 375, 1, 17), (11, 377, 1, 31), (3, 52, 1, 255), (3, 60, 0, 2147483647), (3, 61, 0, 2139095040), (3, 62, 0, 2143289344), (3, 63, 0, 8388607), (3, 64, 2, 1056964608), (7, 110, 1, 31), (7, 116, 1, -5), (10, 169, 2, 3414163456), (10, 170, 2, 1266679808), (13, 93, 1, 4294967295), (12, 61, 0, 96000), (12, 118, 0, 65536), (12, 220, 1, 255), (12, 313, 0, 2147483647), (12, 314, 0, 2139095040), (12, 315, 0, 2143289344), (12, 319, 1, 32), (12, 321, 1, 126), (12, 334, 2, 3472883712), (12, 335, 2, 1325400064), (12, 386, 1, -2), (12, 397, 1, 31), (12, 407, 1, 17)]
def VOK (x : Nat × Nat × Nat × Int) : Prop := (x.2.2.1 = 0 ∧ Cond.constant (cnm x.1) x.2.1 (Int32.ofInt x.2.2.2) ∈ lw_tbl ∧ -2147483648 ≤ x.2.2.2 ∧ x.2.2.2 < 2147483648) ∨ (x.2.2.1 = 1 ∧ Cond.constantLong (cnm x.1) x.2.1 (Int64.ofInt x.2.2.2) ∈ lw_tbl ∧ -9223372036854775808 ≤ x.2.2.2 ∧ x.2.2.2 < 9223372036854775808) ∨ (x.2.2.1 = 2 ∧ Cond.constantFloat (cnm x.1) x.2.1 (UInt32.ofNat x.2.2.2.toNat) ∈ lw_tbl)
theorem vok_0 : VOK (11, 337, 1, -2) := Or.inr (Or.inl ⟨rfl, tm5 177 (by decide +kernel), by decide, by decide⟩)
theorem vok_1 : VOK (11, 375, 1, 17) := Or.inr (Or.inl ⟨rfl, tm6 47 (by decide +kernel), by decide, by decide⟩)
theorem vok_2 : VOK (11, 377, 1, 31) := Or.inr (Or.inl ⟨rfl, tm6 48 (by decide +kernel), by decide, by decide⟩)
theorem vok_3 : VOK (3, 52, 1, 255) := Or.inr (Or.inl ⟨rfl, tm4 163 (by decide +kernel), by decide, by decide⟩)
theorem vok_4 : VOK (3, 60, 0, 2147483647) := Or.inl ⟨rfl, tm4 83 (by decide +kernel), by decide, by decide⟩
theorem vok_5 : VOK (3, 61, 0, 2139095040) := Or.inl ⟨rfl, tm4 79 (by decide +kernel), by decide, by decide⟩
theorem vok_6 : VOK (3, 62, 0, 2143289344) := Or.inl ⟨rfl, tm4 134 (by decide +kernel), by decide, by decide⟩
theorem vok_7 : VOK (3, 63, 0, 8388607) := Or.inl ⟨rfl, tm4 87 (by decide +kernel), by decide, by decide⟩
theorem vok_8 : VOK (3, 64, 2, 1056964608) := Or.inr (Or.inr ⟨rfl, tm4 89 (by decide +kernel)⟩)
theorem vok_9 : VOK (7, 110, 1, 31) := Or.inr (Or.inl ⟨rfl, tm6 53 (by decide +kernel), by decide, by decide⟩)
theorem vok_10 : VOK (7, 116, 1, -5) := Or.inr (Or.inl ⟨rfl, tm6 57 (by decide +kernel), by decide, by decide⟩)
theorem vok_11 : VOK (10, 169, 2, 3414163456) := Or.inr (Or.inr ⟨rfl, tm5 117 (by decide +kernel)⟩)
theorem vok_12 : VOK (10, 170, 2, 1266679808) := Or.inr (Or.inr ⟨rfl, tm5 118 (by decide +kernel)⟩)
theorem vok_13 : VOK (13, 93, 1, 4294967295) := Or.inr (Or.inl ⟨rfl, tm8 195 (by decide +kernel), by decide, by decide⟩)
theorem vok_14 : VOK (12, 61, 0, 96000) := Or.inl ⟨rfl, tm6 64 (by decide +kernel), by decide, by decide⟩
theorem vok_15 : VOK (12, 118, 0, 65536) := Or.inl ⟨rfl, tm6 65 (by decide +kernel), by decide, by decide⟩
theorem vok_16 : VOK (12, 220, 1, 255) := Or.inr (Or.inl ⟨rfl, tm7 151 (by decide +kernel), by decide, by decide⟩)
theorem vok_17 : VOK (12, 313, 0, 2147483647) := Or.inl ⟨rfl, tm8 6 (by decide +kernel), by decide, by decide⟩
theorem vok_18 : VOK (12, 314, 0, 2139095040) := Or.inl ⟨rfl, tm8 7 (by decide +kernel), by decide, by decide⟩
theorem vok_19 : VOK (12, 315, 0, 2143289344) := Or.inl ⟨rfl, tm8 8 (by decide +kernel), by decide, by decide⟩
theorem vok_20 : VOK (12, 319, 1, 32) := Or.inr (Or.inl ⟨rfl, tm8 20 (by decide +kernel), by decide, by decide⟩)
theorem vok_21 : VOK (12, 321, 1, 126) := Or.inr (Or.inl ⟨rfl, tm8 21 (by decide +kernel), by decide, by decide⟩)
theorem vok_22 : VOK (12, 334, 2, 3472883712) := Or.inr (Or.inr ⟨rfl, tm8 119 (by decide +kernel)⟩)
theorem vok_23 : VOK (12, 335, 2, 1325400064) := Or.inr (Or.inr ⟨rfl, tm8 123 (by decide +kernel)⟩)
theorem vok_24 : VOK (12, 386, 1, -2) := Or.inr (Or.inl ⟨rfl, tm8 152 (by decide +kernel), by decide, by decide⟩)
theorem vok_25 : VOK (12, 397, 1, 31) := Or.inr (Or.inl ⟨rfl, tm8 190 (by decide +kernel), by decide, by decide⟩)
theorem vok_26 : VOK (12, 407, 1, 17) := Or.inr (Or.inl ⟨rfl, tm8 185 (by decide +kernel), by decide, by decide⟩)
theorem vokb_0 : ∀ x ∈ [(11, 337, 1, -2), (11, 375, 1, 17), (11, 377, 1, 31), (3, 52, 1, 255), (3, 60, 0, 2147483647), (3, 61, 0, 2139095040), (3, 62, 0, 2143289344), (3, 63, 0, 8388607), (3, 64, 2, 1056964608), (7, 110, 1, 31), (7, 116, 1, -5), (10, 169, 2, 3414163456), (10, 170, 2, 1266679808), (13, 93, 1, 4294967295), (12, 61, 0, 96000), (12, 118, 0, 65536), (12, 220, 1, 255), (12, 313, 0, 2147483647), (12, 314, 0, 2139095040), (12, 315, 0, 2143289344)], VOK x := List.forall_mem_cons.mpr ⟨vok_0, List.forall_mem_cons.mpr ⟨vok_1, List.forall_mem_cons.mpr ⟨vok_2, List.forall_mem_cons.mpr ⟨vok_3, List.forall_mem_cons.mpr ⟨vok_4, List.forall_mem_cons.mpr ⟨vok_5, List.forall_mem_cons.mpr ⟨vok_6, List.forall_mem_cons.mpr ⟨vok_7, List.forall_mem_cons.mpr ⟨vok_8, List.forall_mem_cons.mpr ⟨vok_9, List.forall_mem_cons.mpr ⟨vok_10, List.forall_mem_cons.mpr ⟨vok_11, List.forall_mem_cons.mpr ⟨vok_12, List.forall_mem_cons.mpr ⟨vok_13, List.forall_mem_cons.mpr ⟨vok_14, List.forall_mem_cons.mpr ⟨vok_15, List.forall_mem_cons.mpr ⟨vok_16, List.forall_mem_cons.mpr ⟨vok_17, List.forall_mem_cons.mpr ⟨vok_18, List.forall_mem_cons.mpr ⟨vok_19, fun _ h => absurd h List.not_mem_nil⟩⟩⟩⟩⟩⟩⟩⟩⟩⟩⟩⟩⟩⟩⟩⟩⟩⟩⟩⟩
theorem vokb_1 : ∀ x ∈ [(12, 319, 1, 32), (12, 321, 1, 126), (12, 334, 2, 3472883712), (12, 335, 2, 1325400064), (12, 386, 1, -2), (12, 397, 1, 31), (12, 407, 1, 17)], VOK x := List.forall_mem_cons.mpr ⟨vok_20, List.forall_mem_cons.mpr ⟨vok_21, List.forall_mem_cons.mpr ⟨vok_22, List.forall_mem_cons.mpr ⟨vok_23, List.forall_mem_cons.mpr ⟨vok_24, List.forall_mem_cons.mpr ⟨vok_25, List.forall_mem_cons.mpr ⟨vok_26, fun _ h => absurd h List.not_mem_nil⟩⟩⟩⟩⟩⟩⟩
set_option maxRecDepth 100000 in
theorem vok_all : ∀ x ∈ cpV, VOK x := by
  rw [show cpV = [(11, 337, 1, -2), (11, 375, 1, 17), (11, 377, 1, 31), (3, 52, 1, 255), (3, 60, 0, 2147483647), (3, 61, 0, 2139095040), (3, 62, 0, 2143289344), (3, 63, 0, 8388607), (3, 64, 2, 1056964608), (7, 110, 1, 31), (7, 116, 1, -5), (10, 169, 2, 3414163456), (10, 170, 2, 1266679808), (13, 93, 1, 4294967295), (12, 61, 0, 96000), (12, 118, 0, 65536), (12, 220, 1, 255), (12, 313, 0, 2147483647), (12, 314, 0, 2139095040), (12, 315, 0, 2143289344)] ++ ([(12, 319, 1, 32), (12, 321, 1, 126), (12, 334, 2, 3472883712), (12, 335, 2, 1325400064), (12, 386, 1, -2), (12, 397, 1, 31), (12, 407, 1, 17)]) from rfl]
  refine List.forall_mem_append.mpr ⟨vokb_0, ?_⟩
  exact vokb_1
