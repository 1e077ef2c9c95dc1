/-! The methods' names, code, kinds; the links of each pool: printed by program (wip/tools/mkchk.py). -/
/-- name, code, locals, answer, its tag, kind (0 static, 1 virtual, 2 a constructor), parameters, the tag of its class, its class's number -/
abbrev MI : Type := MethodName × ByteArray × Nat × Option FieldType × Nat × Nat × Nat × Nat × Nat
def am_inf_0 : List MI := [(yX0_init, cX0_init, 1, none, 9, 2, 0, 0, 0),
  (yX0_setUp, cX0_setUp, 3, none, 9, 1, 1, 0, 0),
  (yX0_copy, cX0_copy, 2, none, 9, 1, 1, 0, 0),
  (yX0_houses, cX0_houses, 1, (some .int), 0, 1, 0, 0, 0),
  (yX0_has, cX0_has, 2, (some .boolean), 0, 1, 1, 0, 0),
  (yX0_sideOf, cX0_sideOf, 2, (some .int), 0, 1, 1, 0, 0),
  (yX0_moves, cX0_moves, 1, (some .int), 0, 1, 0, 0, 0),
  (yX0_turn, cX0_turn, 1, (some .int), 0, 1, 0, 0, 0),
  (yX0_barn, cX0_barn, 2, (some .int), 0, 1, 1, 0, 0),
  (yX0_lead, cX0_lead, 2, (some .int), 0, 1, 1, 0, 0),
  (yX0_kind, cX0_kind, 2, (some .int), 0, 1, 1, 0, 0),
  (yX0_seeds, cX0_seeds, 2, (some .int), 0, 1, 1, 0, 0),
  (yX0_lifted, cX0_lifted, 2, (some .int), 0, 1, 1, 0, 0),
  (yX0_takes, cX0_takes, 2, (some .boolean), 0, 1, 1, 0, 0),
  (yX0_yields, cX0_yields, 2, (some .boolean), 0, 1, 1, 0, 0),
  (yX0_goes, cX0_goes, 2, (some .boolean), 0, 1, 1, 0, 0),
  (yX0_goingBits, cX0_goingBits, 3, (some .int), 0, 1, 0, 0, 0),
  (yX0_allSeeds, cX0_allSeeds, 3, (some .int), 0, 1, 0, 0, 0),
  (yX0_setKind, cX0_setKind, 3, none, 9, 1, 2, 0, 0),
  (yX0_setSeeds, cX0_setSeeds, 3, none, 9, 1, 2, 0, 0),
  (yX0_setBarn, cX0_setBarn, 3, none, 9, 1, 2, 0, 0),
  (yX0_setTurn, cX0_setTurn, 2, none, 9, 1, 1, 0, 0),
  (yX0_give, cX0_give, 3, none, 9, 1, 2, 0, 0),
  (yX0_exchangeKinds, cX0_exchangeKinds, 4, none, 9, 1, 2, 0, 0),
  (yX0_sow, cX0_sow, 5, (some .int), 0, 1, 1, 0, 0),
  (yX0_spread, cX0_spread, 5, (some .int), 0, 1, 1, 0, 0),
  (yX0_nextTaker, cX0_nextTaker, 6, (some .int), 0, 1, 2, 0, 0),
  (yX0_reap, cX0_reap, 4, none, 9, 1, 1, 0, 0),
  (yX1_init, cX1_init, 1, none, 9, 2, 0, 1, 1),
  (yX1_push, cX1_push, 3, none, 9, 1, 2, 1, 1)]
def am_inf_1 : List MI := [(yX1_hasOnTop, cX1_hasOnTop, 2, (some .boolean), 0, 1, 1, 1, 1),
  (yX1_pullBox, cX1_pullBox, 4, none, 9, 1, 1, 1, 1),
  (yX1_numbers, cX1_numbers, 3, (some .int), 0, 1, 0, 1, 1),
  (yX1_sum, cX1_sum, 3, (some .int), 0, 1, 0, 1, 1),
  (yX1_houseBits, cX1_houseBits, 3, (some .int), 0, 1, 0, 1, 1),
  (yX2_init, cX2_init, 2, none, 9, 2, 0, 2, 2),
  (yX2_has, cX2_has, 2, (some .boolean), 0, 1, 1, 2, 2),
  (yX2_isThere, cX2_isThere, 2, (some .boolean), 0, 1, 1, 2, 2),
  (yX2_thereBits, cX2_thereBits, 3, (some .int), 0, 1, 0, 2, 2),
  (yX2_clear, cX2_clear, 2, none, 9, 1, 0, 2, 2),
  (yX2_make, cX2_make, 3, none, 9, 1, 2, 2, 2),
  (yX2_remove, cX2_remove, 5, (some .int), 0, 1, 1, 2, 2),
  (yX2_lay, cX2_lay, 6, (some .int), 0, 1, 3, 2, 2),
  (yX2_lift, cX2_lift, 5, (some .int), 0, 1, 2, 2, 2),
  (yX2_pour, cX2_pour, 6, (some .int), 0, 1, 1, 2, 2),
  (yX2_throughout, cX2_throughout, 6, (some .int), 0, 1, 2, 2, 2),
  (yX2_withInner, cX2_withInner, 5, (some .int), 0, 1, 4, 2, 2),
  (yX2_stepsUp, cX2_stepsUp, 5, (some .int), 0, 1, 2, 2, 2),
  (yX2_holdSame, cX2_holdSame, 3, (some .boolean), 0, 1, 2, 2, 2),
  (yX2_holdSameFrom, cX2_holdSameFrom, 7, (some .boolean), 0, 1, 3, 2, 2),
  (yX2_isSame, cX2_isSame, 5, (some .boolean), 0, 1, 4, 2, 2),
  (yX3_init, cX3_init, 2, none, 9, 2, 0, 3, 3),
  (yX3_broughtBy, cX3_broughtBy, 3, (some .int), 0, 1, 2, 3, 3),
  (yX3_bestLead, cX3_bestLead, 3, (some .int), 0, 1, 2, 3, 3),
  (yX3_lineMove, cX3_lineMove, 5, (some .int), 0, 1, 3, 3, 3),
  (yX3_search, cX3_search, 11, (some .int), 0, 1, 4, 3, 3),
  (yX3_rashBoard, cX3_rashBoard, 5, (some (.object "SownSeeds$Board")), 100, 1, 2, 3, 3),
  (yX3_rashHouse, cX3_rashHouse, 5, (some .int), 0, 1, 0, 3, 3),
  (yX3_bestGift, cX3_bestGift, 7, (some .int), 0, 1, 2, 3, 3),
  (yX3_odds, cX3_odds, 6, (some .int), 0, 1, 3, 3, 3)]
def am_inf_2 : List MI := [(yX3_leading, cX3_leading, 10, (some .int), 0, 1, 4, 3, 3),
  (yX3_commonDivisor, cX3_commonDivisor, 6, (some .int), 0, 0, 2, 3, 3),
  (yX4_isUnder, cX4_isUnder, 2, (some .boolean), 0, 0, 2, 8, 8),
  (yX4_lifted, cX4_lifted, 2, (some .int), 0, 0, 2, 8, 8),
  (yX4_takes, cX4_takes, 2, (some .boolean), 0, 0, 2, 8, 8),
  (yX4_yields, cX4_yields, 2, (some .boolean), 0, 0, 2, 8, 8),
  (yX5_init, cX5_init, 1, none, 9, 2, 0, 4, 4),
  (yX5_add, cX5_add, 5, (some .boolean), 0, 1, 4, 4, 4),
  (yX5_clear, cX5_clear, 1, none, 9, 1, 0, 4, 4),
  (yX5_size, cX5_size, 1, (some .int), 0, 1, 0, 4, 4),
  (yX5_possible, cX5_possible, 3, (some .int), 0, 1, 0, 4, 4),
  (yX5_fits, cX5_fits, 4, (some .boolean), 0, 1, 1, 4, 4),
  (yX5_question, cX5_question, 6, (some .int), 0, 1, 0, 4, 4),
  (yX5_greatestPart, cX5_greatestPart, 7, (some .int), 0, 0, 2, 4, 4),
  (yX5_doAlike, cX5_doAlike, 3, (some .boolean), 0, 0, 3, 4, 4),
  (yX6_init, cX6_init, 1, none, 9, 2, 0, 5, 5),
  (yX6_add, cX6_add, 2, (some .boolean), 0, 1, 1, 5, 5),
  (yX6_clear, cX6_clear, 1, none, 9, 1, 0, 5, 5),
  (yX6_length, cX6_length, 1, (some .int), 0, 1, 0, 5, 5),
  (yX6_clauses, cX6_clauses, 1, (some .int), 0, 1, 0, 5, 5),
  (yX6_read, cX6_read, 2, (some .int), 0, 1, 1, 5, 5),
  (yX6_readClause, cX6_readClause, 5, (some .boolean), 0, 1, 1, 5, 5),
  (yX6_readFirst, cX6_readFirst, 3, (some .int), 0, 1, 2, 5, 5),
  (yX6_readSecond, cX6_readSecond, 2, (some .int), 0, 1, 1, 5, 5),
  (yX6_perform, cX6_perform, 4, none, 9, 0, 4, 5, 5),
  (yX6_readNumber, cX6_readNumber, 5, (some .int), 0, 1, 2, 5, 5),
  (yX6_word, cX6_word, 1, (some .int), 0, 1, 0, 5, 5),
  (yX6_isWord, cX6_isWord, 3, (some .boolean), 0, 1, 1, 5, 5),
  (yX6_advance, cX6_advance, 1, none, 9, 1, 0, 5, 5),
  (yX6_isAt, cX6_isAt, 4, (some .boolean), 0, 1, 3, 5, 5)]
def am_inf_3 : List MI := [(yX7_init, cX7_init, 2, none, 9, 2, 0, 6, 6),
  (yX7_write, cX7_write, 2, (some .int), 0, 1, 1, 6, 6),
  (yX7_erase, cX7_erase, 2, (some .int), 0, 1, 0, 6, 6),
  (yX7_fault, cX7_fault, 1, (some .int), 0, 1, 0, 6, 6),
  (yX7_board, cX7_board, 2, (some .int), 0, 1, 0, 6, 6),
  (yX7_house, cX7_house, 3, (some .int), 0, 1, 2, 6, 6),
  (yX7_as, cX7_as, 3, (some .int), 0, 1, 2, 6, 6),
  (yX7_move, cX7_move, 2, (some .int), 0, 1, 1, 6, 6),
  (yX7_drop, cX7_drop, 3, (some .int), 0, 1, 2, 6, 6),
  (yX7_swap, cX7_swap, 3, (some .int), 0, 1, 2, 6, 6),
  (yX7_undo, cX7_undo, 1, (some .int), 0, 1, 0, 6, 6),
  (yX7_keep, cX7_keep, 2, (some .int), 0, 1, 1, 6, 6),
  (yX7_back, cX7_back, 2, (some .int), 0, 1, 1, 6, 6),
  (yX7_brings, cX7_brings, 2, (some .int), 0, 1, 1, 6, 6),
  (yX7_best, cX7_best, 3, (some .int), 0, 1, 2, 6, 6),
  (yX7_rash, cX7_rash, 2, (some .int), 0, 1, 1, 6, 6),
  (yX7_over, cX7_over, 2, (some .int), 0, 1, 0, 6, 6),
  (yX7_gift, cX7_gift, 2, (some .int), 0, 1, 1, 6, 6),
  (yX7_luck, cX7_luck, 3, (some .int), 0, 1, 2, 6, 6),
  (yX7_seen, cX7_seen, 5, (some .int), 0, 1, 4, 6, 6),
  (yX7_forget, cX7_forget, 2, (some .int), 0, 1, 0, 6, 6),
  (yX7_kinds, cX7_kinds, 1, (some .int), 0, 1, 0, 6, 6),
  (yX7_ask, cX7_ask, 1, (some .int), 0, 1, 0, 6, 6),
  (yX7_box, cX7_box, 3, (some .int), 0, 1, 2, 6, 6),
  (yX7_put, cX7_put, 7, (some .int), 0, 1, 3, 6, 6),
  (yX7_take, cX7_take, 3, (some .int), 0, 1, 2, 6, 6),
  (yX7_spill, cX7_spill, 2, (some .int), 0, 1, 1, 6, 6),
  (yX7_deep, cX7_deep, 3, (some .int), 0, 1, 2, 6, 6),
  (yX7_alike, cX7_alike, 3, (some .int), 0, 1, 2, 6, 6),
  (yX7_lose, cX7_lose, 2, (some .int), 0, 1, 1, 6, 6)]
def am_inf_4 : List MI := [(yX7_count, cX7_count, 2, (some .int), 0, 1, 1, 6, 6),
  (yX7_isWithin, cX7_isWithin, 3, (some .boolean), 0, 0, 3, 6, 6),
  (yX7_remember, cX7_remember, 3, none, 9, 1, 0, 6, 6),
  (yX8_in, cX8_in, 6, (some .boolean), 0, 0, 3, 7, 7),
  (yX8_init, cX8_init, 1, none, 9, 2, 0, 7, 7),
  (yX8_atFirst, cX8_atFirst, 3, none, 9, 0, 2, 7, 7),
  (yX8_write, cX8_write, 2, (some .int), 0, 1, 1, 7, 7),
  (yX8_erase, cX8_erase, 2, (some .int), 0, 1, 0, 7, 7),
  (yX8_letterAt, cX8_letterAt, 2, (some .int), 0, 1, 1, 7, 7),
  (yX8_word, cX8_word, 12, (some .long), 2, 0, 6, 7, 7),
  (yX8_said, cX8_said, 6, (some .int), 0, 1, 2, 7, 7),
  (yX8_looksOn, cX8_looksOn, 2, none, 9, 1, 0, 7, 7),
  (yX8_must, cX8_must, 2, none, 9, 1, 1, 7, 7),
  (yX8_number, cX8_number, 4, (some .int), 0, 1, 2, 7, 7),
  (yX8_reads, cX8_reads, 4, none, 9, 1, 0, 7, 7),
  (yX8_clauses, cX8_clauses, 3, (some .int), 0, 1, 0, 7, 7),
  (yX8_fault, cX8_fault, 1, (some .int), 0, 1, 0, 7, 7),
  (yX8_board, cX8_board, 3, (some .int), 0, 1, 0, 7, 7),
  (yX8_isHouse, cX8_isHouse, 2, (some .boolean), 0, 1, 1, 7, 7),
  (yX8_liftsOf, cX8_liftsOf, 2, (some .int), 0, 0, 2, 7, 7),
  (yX8_takesOne, cX8_takesOne, 2, (some .boolean), 0, 0, 2, 7, 7),
  (yX8_yieldsAll, cX8_yieldsAll, 2, (some .boolean), 0, 0, 2, 7, 7),
  (yX8_lifts, cX8_lifts, 2, (some .int), 0, 1, 1, 7, 7),
  (yX8_sideOf, cX8_sideOf, 2, (some .int), 0, 1, 1, 7, 7),
  (yX8_canGo, cX8_canGo, 2, (some .boolean), 0, 1, 1, 7, 7),
  (yX8_house, cX8_house, 5, (some .int), 0, 1, 2, 7, 7),
  (yX8_as, cX8_as, 5, (some .int), 0, 1, 2, 7, 7),
  (yX8_next, cX8_next, 2, (some .int), 0, 1, 1, 7, 7),
  (yX8_ahead, cX8_ahead, 2, (some .int), 0, 1, 1, 7, 7),
  (yX8_anyTakes, cX8_anyTakes, 4, (some .boolean), 0, 1, 1, 7, 7)]
def am_inf_5 : List MI := [(yX8_goes, cX8_goes, 7, (some .int), 0, 1, 1, 7, 7),
  (yX8_notes, cX8_notes, 2, none, 9, 1, 0, 7, 7),
  (yX8_move, cX8_move, 2, (some .int), 0, 1, 1, 7, 7),
  (yX8_drop, cX8_drop, 4, (some .int), 0, 1, 2, 7, 7),
  (yX8_swap, cX8_swap, 5, (some .int), 0, 1, 2, 7, 7),
  (yX8_undo, cX8_undo, 2, (some .int), 0, 1, 0, 7, 7),
  (yX8_keep, cX8_keep, 3, (some .int), 0, 1, 1, 7, 7),
  (yX8_back, cX8_back, 3, (some .int), 0, 1, 1, 7, 7),
  (yX8_asides, cX8_asides, 2, none, 9, 1, 0, 7, 7),
  (yX8_backs, cX8_backs, 2, none, 9, 1, 0, 7, 7),
  (yX8_lead, cX8_lead, 1, (some .int), 0, 1, 0, 7, 7),
  (yX8_wouldBring, cX8_wouldBring, 4, (some .int), 0, 1, 1, 7, 7),
  (yX8_brings, cX8_brings, 2, (some .int), 0, 1, 1, 7, 7),
  (yX8_noted, cX8_noted, 2, none, 9, 1, 1, 7, 7),
  (yX8_begins, cX8_begins, 3, none, 9, 1, 1, 7, 7),
  (yX8_laysBack, cX8_laysBack, 3, none, 9, 1, 1, 7, 7),
  (yX8_ends, cX8_ends, 6, none, 9, 1, 2, 7, 7),
  (yX8_looksAhead, cX8_looksAhead, 5, (some .int), 0, 1, 1, 7, 7),
  (yX8_best, cX8_best, 4, (some .int), 0, 1, 2, 7, 7),
  (yX8_rashOne, cX8_rashOne, 5, (some .int), 0, 1, 0, 7, 7),
  (yX8_rashOnes, cX8_rashOnes, 4, (some .int), 0, 1, 1, 7, 7),
  (yX8_rash, cX8_rash, 4, (some .int), 0, 1, 1, 7, 7),
  (yX8_over, cX8_over, 2, (some .int), 0, 1, 0, 7, 7),
  (yX8_gift, cX8_gift, 7, (some .int), 0, 1, 1, 7, 7),
  (yX8_movesThere, cX8_movesThere, 3, (some .int), 0, 1, 0, 7, 7),
  (yX8_luck, cX8_luck, 12, (some .int), 0, 1, 2, 7, 7),
  (yX8_part, cX8_part, 11, (some .int), 0, 0, 3, 7, 7),
  (yX8_seen, cX8_seen, 5, (some .int), 0, 1, 4, 7, 7),
  (yX8_forget, cX8_forget, 2, (some .int), 0, 1, 0, 7, 7),
  (yX8_isOf, cX8_isOf, 2, (some .int), 0, 0, 2, 7, 7)]
def am_inf_6 : List MI := [(yX8_kinds, cX8_kinds, 5, (some .int), 0, 1, 0, 7, 7),
  (yX8_ask, cX8_ask, 10, (some .int), 0, 1, 0, 7, 7),
  (yX8_noBoxes, cX8_noBoxes, 2, none, 9, 1, 0, 7, 7),
  (yX8_isBox, cX8_isBox, 1, (some .boolean), 0, 0, 1, 7, 7),
  (yX8_loses, cX8_loses, 5, none, 9, 1, 1, 7, 7),
  (yX8_box, cX8_box, 3, (some .int), 0, 1, 2, 7, 7),
  (yX8_isWithin, cX8_isWithin, 4, (some .boolean), 0, 1, 2, 7, 7),
  (yX8_whyNotPut, cX8_whyNotPut, 5, (some .int), 0, 1, 3, 7, 7),
  (yX8_put, cX8_put, 5, (some .int), 0, 1, 3, 7, 7),
  (yX8_whyNotOut, cX8_whyNotOut, 3, (some .int), 0, 1, 2, 7, 7),
  (yX8_take, cX8_take, 5, (some .int), 0, 1, 2, 7, 7),
  (yX8_spill, cX8_spill, 7, (some .int), 0, 1, 1, 7, 7),
  (yX8_boxesIn, cX8_boxesIn, 4, (some .int), 0, 1, 1, 7, 7),
  (yX8_depth, cX8_depth, 6, (some .int), 0, 1, 1, 7, 7),
  (yX8_deep, cX8_deep, 9, (some .int), 0, 1, 2, 7, 7),
  (yX8_alike, cX8_alike, 10, (some .int), 0, 1, 2, 7, 7),
  (yX8_lose, cX8_lose, 3, (some .int), 0, 1, 1, 7, 7),
  (yX8_seedsOfAll, cX8_seedsOfAll, 3, (some .int), 0, 1, 0, 7, 7),
  (yX8_goers, cX8_goers, 3, (some .int), 0, 1, 0, 7, 7),
  (yX8_boxesThere, cX8_boxesThere, 3, (some .int), 0, 1, 0, 7, 7),
  (yX8_count, cX8_count, 2, (some .int), 0, 1, 1, 7, 7),
  (yJ6_bitCount_0f7a4, cJ6_bitCount_0f7a4, 1, (some .int), 0, 0, 1, 9, 9),
  (yL_law, cL_law, 4, (some .boolean), 0, 0, 1, 9, 10)]
def am_inf : List MI := am_inf_0 ++ (am_inf_1 ++ (am_inf_2 ++ (am_inf_3 ++ (am_inf_4 ++ (am_inf_5 ++ (am_inf_6))))))
def ownN (o : Nat) : String := match o with
  | 0 => RX0
  | 1 => RX1
  | 2 => RX2
  | 3 => RX3
  | 4 => RX5
  | 5 => RX6
  | 6 => RX7
  | 7 => RX8
  | 8 => RX4
  | 9 => RJ6
  | _ => RL
/-- links by their pool numbers: number, kind, two words -/
def lkT_0 : List (Nat × Nat × Nat × Int) := [(3, 7, 0, 0), (21, 2, 1, 0), (25, 14, 0, 0), (31, 13, 0, 0), (11, 0, 0, 0), (15, 0, 0, 1), (18, 0, 0, 2), (34, 0, 0, 3), (40, 0, 0, 4), (43, 0, 0, 5), (46, 8, 0, 0), (52, 2, 3, 0), (56, 2, 63, 0), (59, 2, 64, 0), (63, 2, 65, 0), (66, 2, 5, 0), (70, 2, 12, 0), (76, 2, 25, 0), (82, 2, 26, 0), (79, 2, 27, 0), (85, 2, 14, 0), (72, 2, 15, 0)]
def lkT_1 : List (Nat × Nat × Nat × Int) := [(3, 7, 0, 0), (11, 0, 1, 0), (15, 0, 1, 1), (18, 0, 1, 2), (22, 0, 1, 3), (25, 0, 1, 4), (29, 0, 1, 5)]
def lkT_2 : List (Nat × Nat × Nat × Int) := [(3, 7, 0, 0), (11, 4, 1, 0), (17, 3, 28, 0), (62, 1, 1, 0), (57, 1, 1, 1), (29, 1, 1, 2), (33, 1, 1, 3), (18, 1, 1, 4), (40, 1, 1, 5), (13, 0, 2, 0), (25, 2, 41, 0), (36, 2, 31, 0), (43, 2, 36, 0), (22, 2, 37, 0), (46, 2, 47, 0), (50, 2, 29, 0), (54, 2, 30, 0), (61, 5, 0, 50000), (65, 2, 46, 0), (69, 2, 32, 0), (73, 2, 33, 0), (76, 2, 34, 0), (79, 13, 0, 0), (84, 2, 49, 0), (88, 2, 50, 0)]
def lkT_3 : List (Nat × Nat × Nat × Int) := [(3, 7, 0, 0), (11, 4, 0, 0), (21, 2, 0, 0), (13, 0, 3, 0), (17, 0, 3, 1), (22, 2, 2, 0), (26, 2, 24, 0), (30, 5, 0, (-1000000)), (31, 5, 0, 1000000), (32, 2, 55, 0), (36, 2, 3, 0), (40, 2, 15, 0), (44, 13, 0, 0), (50, 2, 7, 0), (53, 2, 9, 0), (56, 2, 57, 0), (59, 2, 5, 0), (62, 2, 22, 0), (66, 5, 0, 216000), (67, 2, 60, 0), (73, 2, 16, 0), (76, 2, 201, 0), (70, 2, 61, 0)]
def lkT_4 : List (Nat × Nat × Nat × Int) := [(3, 7, 0, 0), (11, 0, 4, 0), (15, 0, 4, 1), (18, 0, 4, 2), (22, 0, 4, 3), (25, 0, 4, 4), (31, 2, 71, 0), (35, 2, 63, 0), (38, 2, 64, 0), (41, 2, 65, 0), (43, 2, 70, 0), (47, 2, 201, 0), (53, 2, 73, 0), (56, 2, 74, 0), (60, 13, 0, 0)]
def lkT_5 : List (Nat × Nat × Nat × Int) := [(5, 7, 0, 0), (13, 0, 5, 0), (17, 0, 5, 1), (21, 0, 5, 2), (24, 0, 5, 3), (27, 0, 5, 4), (30, 2, 81, 0), (34, 2, 88, 0), (78, 2, 89, 0), (37, 2, 86, 0), (86, 12, 0, 0), (88, 2, 87, 0), (108, 9, 0, 0), (112, 10, 0, 0), (92, 12, 0, 1), (94, 12, 0, 2), (96, 12, 0, 3), (98, 12, 0, 4), (100, 12, 0, 5), (102, 12, 0, 6), (104, 12, 0, 7), (106, 12, 0, 8), (41, 2, 3, 0), (46, 2, 82, 0), (58, 2, 85, 0), (82, 3, 121, 0), (50, 2, 83, 0), (54, 2, 84, 0), (61, 2, 1, 0), (65, 2, 19, 0), (69, 2, 20, 0), (72, 2, 21, 0), (75, 2, 18, 0)]
def lkT_6 : List (Nat × Nat × Nat × Int) := [(1, 7, 0, 0), (7, 4, 0, 0), (9, 2, 0, 0), (33, 4, 5, 0), (35, 3, 75, 0), (40, 4, 3, 0), (42, 2, 51, 0), (47, 4, 4, 0), (49, 3, 66, 0), (54, 4, 2, 0), (56, 2, 35, 0), (10, 0, 6, 0), (16, 0, 6, 1), (19, 0, 6, 2), (22, 0, 6, 3), (26, 0, 6, 4), (29, 0, 6, 5), (36, 0, 6, 6), (43, 0, 6, 7), (50, 0, 6, 8), (57, 0, 6, 9), (61, 0, 6, 10), (65, 2, 121, 0), (69, 2, 76, 0), (73, 2, 78, 0), (77, 2, 77, 0), (80, 2, 2, 0), (84, 2, 80, 0), (88, 2, 68, 0), (89, 2, 39, 0), (90, 2, 79, 0), (93, 2, 4, 0), (96, 2, 10, 0), (100, 2, 11, 0), (103, 2, 12, 0), (106, 2, 13, 0), (109, 2, 14, 0), (114, 2, 62, 0), (118, 2, 63, 0), (121, 2, 15, 0), (124, 2, 6, 0), (127, 2, 122, 0), (130, 2, 24, 0), (133, 2, 22, 0), (137, 2, 23, 0), (140, 2, 52, 0), (144, 2, 53, 0), (147, 2, 54, 0), (151, 2, 56, 0), (155, 2, 9, 0), (158, 2, 16, 0), (161, 2, 58, 0), (164, 2, 59, 0), (167, 2, 67, 0), (170, 2, 69, 0), (173, 2, 70, 0), (176, 2, 72, 0), (179, 2, 36, 0), (182, 2, 40, 0), (185, 2, 42, 0), (189, 2, 43, 0), (192, 2, 44, 0), (195, 2, 37, 0), (198, 2, 45, 0), (201, 2, 48, 0), (204, 2, 41, 0), (207, 2, 3, 0), (210, 2, 7, 0), (213, 2, 8, 0), (216, 2, 17, 0), (219, 2, 38, 0)]
def lkT_7 : List (Nat × Nat × Nat × Int) := [(1, 7, 0, 0), (75, 2, 125, 0), (79, 2, 182, 0), (7, 0, 7, 0), (13, 0, 7, 1), (16, 0, 7, 2), (88, 0, 7, 3), (128, 0, 7, 4), (135, 0, 7, 5), (140, 0, 7, 6), (147, 0, 7, 7), (154, 0, 7, 8), (19, 0, 7, 9), (22, 0, 7, 10), (174, 0, 7, 11), (25, 0, 7, 12), (177, 0, 7, 13), (28, 0, 7, 14), (31, 0, 7, 15), (34, 0, 7, 16), (37, 0, 7, 17), (40, 0, 7, 18), (44, 0, 7, 19), (228, 0, 7, 20), (47, 0, 7, 21), (51, 0, 7, 22), (180, 0, 7, 23), (54, 0, 7, 24), (57, 0, 7, 25), (60, 0, 7, 26), (63, 0, 7, 27), (66, 0, 7, 28), (69, 0, 7, 29), (72, 0, 7, 30), (82, 6, 0, 255), (84, 2, 123, 0), (170, 2, 135, 0), (157, 2, 131, 0), (131, 2, 128, 0), (96, 6, 0, 97), (138, 6, 0, 122), (143, 2, 130, 0), (92, 6, 0, 98), (94, 6, 0, 111), (98, 6, 0, 114), (100, 6, 0, 100), (102, 2, 129, 0), (106, 6, 0, 115), (108, 6, 0, 101), (110, 6, 0, 110), (112, 6, 0, 116), (114, 6, 0, 117), (116, 6, 0, 112), (118, 6, 0, 108), (120, 6, 0, 105), (122, 6, 0, 99), (124, 6, 0, 104), (126, 6, 0, 109), (150, 6, 0, 48), (152, 6, 0, 57), (167, 2, 134, 0), (160, 2, 132, 0), (164, 2, 133, 0), (192, 2, 138, 0), (183, 2, 139, 0), (196, 2, 140, 0), (200, 2, 141, 0), (203, 6, 0, 5), (214, 2, 144, 0), (186, 2, 143, 0), (189, 2, 142, 0), (217, 2, 151, 0), (220, 2, 150, 0), (205, 2, 149, 0), (208, 2, 147, 0), (211, 2, 148, 0), (223, 6, 0, 30), (225, 2, 161, 0), (248, 6, 0, (-1)), (250, 6, 0, 4), (252, 2, 167, 0), (231, 2, 164, 0), (235, 2, 165, 0), (238, 2, 160, 0), (241, 2, 166, 0), (245, 2, 163, 0), (258, 6, 0, 40), (260, 2, 158, 0), (263, 2, 170, 0), (255, 2, 169, 0), (266, 2, 159, 0), (269, 6, 0, 3), (271, 6, 0, 60), (273, 2, 174, 0), (276, 2, 176, 0), (280, 6, 0, 20), (282, 2, 179, 0), (285, 2, 180, 0), (288, 2, 183, 0), (291, 2, 184, 0), (297, 6, 0, 2), (299, 6, 0, (-9999)), (301, 6, 0, 9999), (303, 2, 187, 0), (294, 2, 186, 0), (307, 2, 189, 0), (310, 5, 0, 50000), (311, 2, 192, 0), (314, 2, 193, 0), (317, 2, 197, 0), (320, 2, 198, 0), (323, 2, 199, 0)]
def lkT_8 : List (Nat × Nat × Nat × Int) := [(9, 3, 121, 0), (15, 11, 0, 0)]
def lkT_9 : List (Nat × Nat × Nat × Int) := [(265, 5, 0, 1431655765), (266, 5, 0, 858993459), (267, 5, 0, 252645135)]
def lkT_10 : List (Nat × Nat × Nat × Int) := [(7, 4, 6, 0), (9, 2, 90, 0), (13, 2, 91, 0), (18, 2, 92, 0), (23, 2, 93, 0), (27, 2, 94, 0), (31, 2, 95, 0), (36, 2, 96, 0), (40, 2, 97, 0), (44, 2, 98, 0), (48, 2, 99, 0), (52, 2, 100, 0), (56, 2, 101, 0), (60, 2, 102, 0), (64, 2, 103, 0), (68, 2, 104, 0), (72, 2, 105, 0), (76, 2, 106, 0), (80, 2, 107, 0), (84, 2, 108, 0), (88, 2, 109, 0), (93, 2, 110, 0), (97, 2, 111, 0), (101, 2, 112, 0), (105, 2, 113, 0), (109, 2, 114, 0), (114, 2, 115, 0), (118, 2, 116, 0), (122, 2, 117, 0), (126, 2, 118, 0), (130, 2, 119, 0), (134, 2, 120, 0), (10, 4, 7, 0), (12, 2, 124, 0), (17, 2, 126, 0), (22, 2, 127, 0), (26, 2, 136, 0), (30, 2, 137, 0), (35, 2, 145, 0), (39, 2, 146, 0), (43, 2, 152, 0), (47, 2, 153, 0), (51, 2, 154, 0), (55, 2, 155, 0), (59, 2, 156, 0), (63, 2, 157, 0), (67, 2, 162, 0), (71, 2, 168, 0), (75, 2, 171, 0), (79, 2, 172, 0), (83, 2, 173, 0), (87, 2, 175, 0), (92, 2, 177, 0), (96, 2, 178, 0), (100, 2, 180, 0), (104, 2, 181, 0), (108, 2, 185, 0), (113, 2, 188, 0), (117, 2, 190, 0), (121, 2, 191, 0), (125, 2, 194, 0), (129, 2, 195, 0), (133, 2, 196, 0), (137, 2, 200, 0)]
def lkT (o : Nat) : List (Nat × Nat × Nat × Int) := match o with
  | 0 => lkT_0
  | 1 => lkT_1
  | 2 => lkT_2
  | 3 => lkT_3
  | 4 => lkT_4
  | 5 => lkT_5
  | 6 => lkT_6
  | 7 => lkT_7
  | 8 => lkT_8
  | 9 => lkT_9
  | _ => lkT_10
def nestF : List Cond := [.fieldLinkNest RX2 62 RX1 "what" "[I" RX7, .fieldLinkNest RX2 57 RX1 "value" "[I" RX7, .fieldLinkNest RX2 29 RX1 "room" "I" RX7, .fieldLinkNest RX2 33 RX1 "size" "I" RX7, .fieldLinkNest RX2 18 RX1 "isThere" "Z" RX7, .fieldLinkNest RX2 40 RX1 "in" "I" RX7]
def nestM : List Cond := [.methodLinkNest RX2 17 yX1_init RX7, .methodLinkNest RX6 82 yX7_isWithin RX7, .methodLinkNest RX7 35 yX6_init RX7, .methodLinkNest RX7 49 yX5_init RX7, .methodLinkNest RX4 9 yX7_isWithin RX7]
