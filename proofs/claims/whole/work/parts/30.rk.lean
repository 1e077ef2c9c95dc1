/-! Each method answers by its kind, and only constructors write final fields: printed by program. -/
def am_rk (q : MI) (a : AQ) : Bool := match a.2.1 with
  | .ireturn => Nat.beq q.2.2.2.2.1 0 && (match q.2.2.2.1 with
    | some .boolean => Nat.beq a.2.2.1.1 6
    | some .int => true
    | _ => false)
  | .lreturn => Nat.beq q.2.2.2.2.1 2 && (match q.2.2.2.1 with
    | some .long => true
    | _ => false)
  | .areturn => Nat.beq a.2.2.1.1 q.2.2.2.2.1 && Nat.ble 100 q.2.2.2.2.1 && (match q.2.2.2.1 with
    | some (.object _) => true
    | _ => false)
  | .return_ => Nat.beq q.2.2.2.2.1 9 && (match q.2.2.2.1 with
    | none => true
    | _ => false)
  | .putfield _ => !(cT a.2.2.1.1 a.2.2.1.2.1).2.2.2 || Nat.beq q.2.2.2.2.2.1 2
  | _ => true
set_option maxRecDepth 100000 in
theorem rk_Bd_init : (pg_Bd_init).all (am_rk (am_inf_0.getD 0 mi0)) = true := by decide +kernel
set_option maxRecDepth 100000 in
theorem rk_Bd_setUp : (pg_Bd_setUp).all (am_rk (am_inf_0.getD 1 mi0)) = true := by decide +kernel
set_option maxRecDepth 100000 in
theorem rk_Bd_copy : (pg_Bd_copy).all (am_rk (am_inf_0.getD 2 mi0)) = true := by decide +kernel
set_option maxRecDepth 100000 in
theorem rk_Bd_houses : (pg_Bd_houses).all (am_rk (am_inf_0.getD 3 mi0)) = true := by decide +kernel
set_option maxRecDepth 100000 in
theorem rk_Bd_has : (pg_Bd_has).all (am_rk (am_inf_0.getD 4 mi0)) = true := by decide +kernel
set_option maxRecDepth 100000 in
theorem rk_Bd_sideOf : (pg_Bd_sideOf).all (am_rk (am_inf_0.getD 5 mi0)) = true := by decide +kernel
set_option maxRecDepth 100000 in
theorem rk_Bd_moves : (pg_Bd_moves).all (am_rk (am_inf_0.getD 6 mi0)) = true := by decide +kernel
set_option maxRecDepth 100000 in
theorem rk_Bd_turn : (pg_Bd_turn).all (am_rk (am_inf_0.getD 7 mi0)) = true := by decide +kernel
set_option maxRecDepth 100000 in
theorem rk_Bd_barn : (pg_Bd_barn).all (am_rk (am_inf_0.getD 8 mi0)) = true := by decide +kernel
set_option maxRecDepth 100000 in
theorem rk_Bd_lead : (pg_Bd_lead).all (am_rk (am_inf_0.getD 9 mi0)) = true := by decide +kernel
set_option maxRecDepth 100000 in
theorem rk_Bd_kind : (pg_Bd_kind).all (am_rk (am_inf_0.getD 10 mi0)) = true := by decide +kernel
set_option maxRecDepth 100000 in
theorem rk_Bd_seeds : (pg_Bd_seeds).all (am_rk (am_inf_0.getD 11 mi0)) = true := by decide +kernel
set_option maxRecDepth 100000 in
theorem rk_Bd_lifted : (pg_Bd_lifted).all (am_rk (am_inf_0.getD 12 mi0)) = true := by decide +kernel
set_option maxRecDepth 100000 in
theorem rk_Bd_takes : (pg_Bd_takes).all (am_rk (am_inf_0.getD 13 mi0)) = true := by decide +kernel
set_option maxRecDepth 100000 in
theorem rk_Bd_yields : (pg_Bd_yields).all (am_rk (am_inf_0.getD 14 mi0)) = true := by decide +kernel
set_option maxRecDepth 100000 in
theorem rk_Bd_goes : (pg_Bd_goes).all (am_rk (am_inf_0.getD 15 mi0)) = true := by decide +kernel
set_option maxRecDepth 100000 in
theorem rk_Bd_goingBits : (pg_Bd_goingBits).all (am_rk (am_inf_0.getD 16 mi0)) = true := by decide +kernel
set_option maxRecDepth 100000 in
theorem rk_Bd_allSeeds : (pg_Bd_allSeeds).all (am_rk (am_inf_0.getD 17 mi0)) = true := by decide +kernel
set_option maxRecDepth 100000 in
theorem rk_Bd_setKind : (pg_Bd_setKind).all (am_rk (am_inf_0.getD 18 mi0)) = true := by decide +kernel
set_option maxRecDepth 100000 in
theorem rk_Bd_setSeeds : (pg_Bd_setSeeds).all (am_rk (am_inf_0.getD 19 mi0)) = true := by decide +kernel
set_option maxRecDepth 100000 in
theorem rk_Bd_setBarn : (pg_Bd_setBarn).all (am_rk (am_inf_0.getD 20 mi0)) = true := by decide +kernel
set_option maxRecDepth 100000 in
theorem rk_Bd_setTurn : (pg_Bd_setTurn).all (am_rk (am_inf_0.getD 21 mi0)) = true := by decide +kernel
set_option maxRecDepth 100000 in
theorem rk_Bd_give : (pg_Bd_give).all (am_rk (am_inf_0.getD 22 mi0)) = true := by decide +kernel
set_option maxRecDepth 100000 in
theorem rk_Bd_exchangeKinds : (pg_Bd_exchangeKinds).all (am_rk (am_inf_0.getD 23 mi0)) = true := by decide +kernel
set_option maxRecDepth 100000 in
theorem rk_Bd_sow : (pg_Bd_sow).all (am_rk (am_inf_0.getD 24 mi0)) = true := by decide +kernel
set_option maxRecDepth 100000 in
theorem rk_Bd_spread : (pg_Bd_spread).all (am_rk (am_inf_0.getD 25 mi0)) = true := by decide +kernel
set_option maxRecDepth 100000 in
theorem rk_Bd_nextTaker : (pg_Bd_nextTaker).all (am_rk (am_inf_0.getD 26 mi0)) = true := by decide +kernel
set_option maxRecDepth 100000 in
theorem rk_Bd_reap : (pg_Bd_reap).all (am_rk (am_inf_0.getD 27 mi0)) = true := by decide +kernel
set_option maxRecDepth 100000 in
theorem rk_Bx_init : (pg_Bx_init).all (am_rk (am_inf_0.getD 28 mi0)) = true := by decide +kernel
set_option maxRecDepth 100000 in
theorem rk_Bx_push : (pg_Bx_push).all (am_rk (am_inf_0.getD 29 mi0)) = true := by decide +kernel
set_option maxRecDepth 100000 in
theorem rk_Bx_hasOnTop : (pg_Bx_hasOnTop).all (am_rk (am_inf_1.getD 0 mi0)) = true := by decide +kernel
set_option maxRecDepth 100000 in
theorem rk_Bx_pullBox : (pg_Bx_pullBox).all (am_rk (am_inf_1.getD 1 mi0)) = true := by decide +kernel
set_option maxRecDepth 100000 in
theorem rk_Bx_numbers : (pg_Bx_numbers).all (am_rk (am_inf_1.getD 2 mi0)) = true := by decide +kernel
set_option maxRecDepth 100000 in
theorem rk_Bx_sum : (pg_Bx_sum).all (am_rk (am_inf_1.getD 3 mi0)) = true := by decide +kernel
set_option maxRecDepth 100000 in
theorem rk_Bx_houseBits : (pg_Bx_houseBits).all (am_rk (am_inf_1.getD 4 mi0)) = true := by decide +kernel
set_option maxRecDepth 100000 in
theorem rk_Bs_init : (pg_Bs_init).all (am_rk (am_inf_1.getD 5 mi0)) = true := by decide +kernel
set_option maxRecDepth 100000 in
theorem rk_Bs_has : (pg_Bs_has).all (am_rk (am_inf_1.getD 6 mi0)) = true := by decide +kernel
set_option maxRecDepth 100000 in
theorem rk_Bs_isThere : (pg_Bs_isThere).all (am_rk (am_inf_1.getD 7 mi0)) = true := by decide +kernel
set_option maxRecDepth 100000 in
theorem rk_Bs_thereBits : (pg_Bs_thereBits).all (am_rk (am_inf_1.getD 8 mi0)) = true := by decide +kernel
set_option maxRecDepth 100000 in
theorem rk_Bs_clear : (pg_Bs_clear).all (am_rk (am_inf_1.getD 9 mi0)) = true := by decide +kernel
set_option maxRecDepth 100000 in
theorem rk_Bs_make : (pg_Bs_make).all (am_rk (am_inf_1.getD 10 mi0)) = true := by decide +kernel
set_option maxRecDepth 100000 in
theorem rk_Bs_remove : (pg_Bs_remove).all (am_rk (am_inf_1.getD 11 mi0)) = true := by decide +kernel
set_option maxRecDepth 100000 in
theorem rk_Bs_lay : (pg_Bs_lay).all (am_rk (am_inf_1.getD 12 mi0)) = true := by decide +kernel
set_option maxRecDepth 100000 in
theorem rk_Bs_lift : (pg_Bs_lift).all (am_rk (am_inf_1.getD 13 mi0)) = true := by decide +kernel
set_option maxRecDepth 100000 in
theorem rk_Bs_pour : (pg_Bs_pour).all (am_rk (am_inf_1.getD 14 mi0)) = true := by decide +kernel
set_option maxRecDepth 100000 in
theorem rk_Bs_throughout : (pg_Bs_throughout).all (am_rk (am_inf_1.getD 15 mi0)) = true := by decide +kernel
set_option maxRecDepth 100000 in
theorem rk_Bs_withInner : (pg_Bs_withInner).all (am_rk (am_inf_1.getD 16 mi0)) = true := by decide +kernel
set_option maxRecDepth 100000 in
theorem rk_Bs_stepsUp : (pg_Bs_stepsUp).all (am_rk (am_inf_1.getD 17 mi0)) = true := by decide +kernel
set_option maxRecDepth 100000 in
theorem rk_Bs_holdSame : (pg_Bs_holdSame).all (am_rk (am_inf_1.getD 18 mi0)) = true := by decide +kernel
set_option maxRecDepth 100000 in
theorem rk_Bs_holdSameFrom : (pg_Bs_holdSameFrom).all (am_rk (am_inf_1.getD 19 mi0)) = true := by decide +kernel
set_option maxRecDepth 100000 in
theorem rk_Bs_isSame : (pg_Bs_isSame).all (am_rk (am_inf_1.getD 20 mi0)) = true := by decide +kernel
set_option maxRecDepth 100000 in
theorem rk_Fo_init : (pg_Fo_init).all (am_rk (am_inf_1.getD 21 mi0)) = true := by decide +kernel
set_option maxRecDepth 100000 in
theorem rk_Fo_broughtBy : (pg_Fo_broughtBy).all (am_rk (am_inf_1.getD 22 mi0)) = true := by decide +kernel
set_option maxRecDepth 100000 in
theorem rk_Fo_bestLead : (pg_Fo_bestLead).all (am_rk (am_inf_1.getD 23 mi0)) = true := by decide +kernel
set_option maxRecDepth 100000 in
theorem rk_Fo_lineMove : (pg_Fo_lineMove).all (am_rk (am_inf_1.getD 24 mi0)) = true := by decide +kernel
set_option maxRecDepth 100000 in
theorem rk_Fo_search : (pg_Fo_search).all (am_rk (am_inf_1.getD 25 mi0)) = true := by decide +kernel
set_option maxRecDepth 100000 in
theorem rk_Fo_rashBoard : (pg_Fo_rashBoard).all (am_rk (am_inf_1.getD 26 mi0)) = true := by decide +kernel
set_option maxRecDepth 100000 in
theorem rk_Fo_rashHouse : (pg_Fo_rashHouse).all (am_rk (am_inf_1.getD 27 mi0)) = true := by decide +kernel
set_option maxRecDepth 100000 in
theorem rk_Fo_bestGift : (pg_Fo_bestGift).all (am_rk (am_inf_1.getD 28 mi0)) = true := by decide +kernel
set_option maxRecDepth 100000 in
theorem rk_Fo_odds : (pg_Fo_odds).all (am_rk (am_inf_1.getD 29 mi0)) = true := by decide +kernel
set_option maxRecDepth 100000 in
theorem rk_Fo_leading : (pg_Fo_leading).all (am_rk (am_inf_2.getD 0 mi0)) = true := by decide +kernel
set_option maxRecDepth 100000 in
theorem rk_Fo_commonDivisor : (pg_Fo_commonDivisor).all (am_rk (am_inf_2.getD 1 mi0)) = true := by decide +kernel
set_option maxRecDepth 100000 in
theorem rk_Ki_isUnder : (pg_Ki_isUnder).all (am_rk (am_inf_2.getD 2 mi0)) = true := by decide +kernel
set_option maxRecDepth 100000 in
theorem rk_Ki_lifted : (pg_Ki_lifted).all (am_rk (am_inf_2.getD 3 mi0)) = true := by decide +kernel
set_option maxRecDepth 100000 in
theorem rk_Ki_takes : (pg_Ki_takes).all (am_rk (am_inf_2.getD 4 mi0)) = true := by decide +kernel
set_option maxRecDepth 100000 in
theorem rk_Ki_yields : (pg_Ki_yields).all (am_rk (am_inf_2.getD 5 mi0)) = true := by decide +kernel
set_option maxRecDepth 100000 in
theorem rk_Si_init : (pg_Si_init).all (am_rk (am_inf_2.getD 6 mi0)) = true := by decide +kernel
set_option maxRecDepth 100000 in
theorem rk_Si_add : (pg_Si_add).all (am_rk (am_inf_2.getD 7 mi0)) = true := by decide +kernel
set_option maxRecDepth 100000 in
theorem rk_Si_clear : (pg_Si_clear).all (am_rk (am_inf_2.getD 8 mi0)) = true := by decide +kernel
set_option maxRecDepth 100000 in
theorem rk_Si_size : (pg_Si_size).all (am_rk (am_inf_2.getD 9 mi0)) = true := by decide +kernel
set_option maxRecDepth 100000 in
theorem rk_Si_possible : (pg_Si_possible).all (am_rk (am_inf_2.getD 10 mi0)) = true := by decide +kernel
set_option maxRecDepth 100000 in
theorem rk_Si_fits : (pg_Si_fits).all (am_rk (am_inf_2.getD 11 mi0)) = true := by decide +kernel
set_option maxRecDepth 100000 in
theorem rk_Si_question : (pg_Si_question).all (am_rk (am_inf_2.getD 12 mi0)) = true := by decide +kernel
set_option maxRecDepth 100000 in
theorem rk_Si_greatestPart : (pg_Si_greatestPart).all (am_rk (am_inf_2.getD 13 mi0)) = true := by decide +kernel
set_option maxRecDepth 100000 in
theorem rk_Si_doAlike : (pg_Si_doAlike).all (am_rk (am_inf_2.getD 14 mi0)) = true := by decide +kernel
set_option maxRecDepth 100000 in
theorem rk_Te_init : (pg_Te_init).all (am_rk (am_inf_2.getD 15 mi0)) = true := by decide +kernel
set_option maxRecDepth 100000 in
theorem rk_Te_add : (pg_Te_add).all (am_rk (am_inf_2.getD 16 mi0)) = true := by decide +kernel
set_option maxRecDepth 100000 in
theorem rk_Te_clear : (pg_Te_clear).all (am_rk (am_inf_2.getD 17 mi0)) = true := by decide +kernel
set_option maxRecDepth 100000 in
theorem rk_Te_length : (pg_Te_length).all (am_rk (am_inf_2.getD 18 mi0)) = true := by decide +kernel
set_option maxRecDepth 100000 in
theorem rk_Te_clauses : (pg_Te_clauses).all (am_rk (am_inf_2.getD 19 mi0)) = true := by decide +kernel
set_option maxRecDepth 100000 in
theorem rk_Te_read : (pg_Te_read).all (am_rk (am_inf_2.getD 20 mi0)) = true := by decide +kernel
set_option maxRecDepth 100000 in
theorem rk_Te_readClause : (pg_Te_readClause).all (am_rk (am_inf_2.getD 21 mi0)) = true := by decide +kernel
set_option maxRecDepth 100000 in
theorem rk_Te_readFirst : (pg_Te_readFirst).all (am_rk (am_inf_2.getD 22 mi0)) = true := by decide +kernel
set_option maxRecDepth 100000 in
theorem rk_Te_readSecond : (pg_Te_readSecond).all (am_rk (am_inf_2.getD 23 mi0)) = true := by decide +kernel
set_option maxRecDepth 100000 in
theorem rk_Te_perform : (pg_Te_perform).all (am_rk (am_inf_2.getD 24 mi0)) = true := by decide +kernel
set_option maxRecDepth 100000 in
theorem rk_Te_readNumber : (pg_Te_readNumber).all (am_rk (am_inf_2.getD 25 mi0)) = true := by decide +kernel
set_option maxRecDepth 100000 in
theorem rk_Te_word : (pg_Te_word).all (am_rk (am_inf_2.getD 26 mi0)) = true := by decide +kernel
set_option maxRecDepth 100000 in
theorem rk_Te_isWord : (pg_Te_isWord).all (am_rk (am_inf_2.getD 27 mi0)) = true := by decide +kernel
set_option maxRecDepth 100000 in
theorem rk_Te_advance : (pg_Te_advance).all (am_rk (am_inf_2.getD 28 mi0)) = true := by decide +kernel
set_option maxRecDepth 100000 in
theorem rk_Te_isAt : (pg_Te_isAt).all (am_rk (am_inf_2.getD 29 mi0)) = true := by decide +kernel
set_option maxRecDepth 100000 in
theorem rk_Ss_init : (pg_Ss_init).all (am_rk (am_inf_3.getD 0 mi0)) = true := by decide +kernel
set_option maxRecDepth 100000 in
theorem rk_Ss_write : (pg_Ss_write).all (am_rk (am_inf_3.getD 1 mi0)) = true := by decide +kernel
set_option maxRecDepth 100000 in
theorem rk_Ss_erase : (pg_Ss_erase).all (am_rk (am_inf_3.getD 2 mi0)) = true := by decide +kernel
set_option maxRecDepth 100000 in
theorem rk_Ss_fault : (pg_Ss_fault).all (am_rk (am_inf_3.getD 3 mi0)) = true := by decide +kernel
set_option maxRecDepth 100000 in
theorem rk_Ss_board : (pg_Ss_board).all (am_rk (am_inf_3.getD 4 mi0)) = true := by decide +kernel
set_option maxRecDepth 100000 in
theorem rk_Ss_house : (pg_Ss_house).all (am_rk (am_inf_3.getD 5 mi0)) = true := by decide +kernel
set_option maxRecDepth 100000 in
theorem rk_Ss_as : (pg_Ss_as).all (am_rk (am_inf_3.getD 6 mi0)) = true := by decide +kernel
set_option maxRecDepth 100000 in
theorem rk_Ss_move : (pg_Ss_move).all (am_rk (am_inf_3.getD 7 mi0)) = true := by decide +kernel
set_option maxRecDepth 100000 in
theorem rk_Ss_drop : (pg_Ss_drop).all (am_rk (am_inf_3.getD 8 mi0)) = true := by decide +kernel
set_option maxRecDepth 100000 in
theorem rk_Ss_swap : (pg_Ss_swap).all (am_rk (am_inf_3.getD 9 mi0)) = true := by decide +kernel
set_option maxRecDepth 100000 in
theorem rk_Ss_undo : (pg_Ss_undo).all (am_rk (am_inf_3.getD 10 mi0)) = true := by decide +kernel
set_option maxRecDepth 100000 in
theorem rk_Ss_keep : (pg_Ss_keep).all (am_rk (am_inf_3.getD 11 mi0)) = true := by decide +kernel
set_option maxRecDepth 100000 in
theorem rk_Ss_back : (pg_Ss_back).all (am_rk (am_inf_3.getD 12 mi0)) = true := by decide +kernel
set_option maxRecDepth 100000 in
theorem rk_Ss_brings : (pg_Ss_brings).all (am_rk (am_inf_3.getD 13 mi0)) = true := by decide +kernel
set_option maxRecDepth 100000 in
theorem rk_Ss_best : (pg_Ss_best).all (am_rk (am_inf_3.getD 14 mi0)) = true := by decide +kernel
set_option maxRecDepth 100000 in
theorem rk_Ss_rash : (pg_Ss_rash).all (am_rk (am_inf_3.getD 15 mi0)) = true := by decide +kernel
set_option maxRecDepth 100000 in
theorem rk_Ss_over : (pg_Ss_over).all (am_rk (am_inf_3.getD 16 mi0)) = true := by decide +kernel
set_option maxRecDepth 100000 in
theorem rk_Ss_gift : (pg_Ss_gift).all (am_rk (am_inf_3.getD 17 mi0)) = true := by decide +kernel
set_option maxRecDepth 100000 in
theorem rk_Ss_luck : (pg_Ss_luck).all (am_rk (am_inf_3.getD 18 mi0)) = true := by decide +kernel
set_option maxRecDepth 100000 in
theorem rk_Ss_seen : (pg_Ss_seen).all (am_rk (am_inf_3.getD 19 mi0)) = true := by decide +kernel
set_option maxRecDepth 100000 in
theorem rk_Ss_forget : (pg_Ss_forget).all (am_rk (am_inf_3.getD 20 mi0)) = true := by decide +kernel
set_option maxRecDepth 100000 in
theorem rk_Ss_kinds : (pg_Ss_kinds).all (am_rk (am_inf_3.getD 21 mi0)) = true := by decide +kernel
set_option maxRecDepth 100000 in
theorem rk_Ss_ask : (pg_Ss_ask).all (am_rk (am_inf_3.getD 22 mi0)) = true := by decide +kernel
set_option maxRecDepth 100000 in
theorem rk_Ss_box : (pg_Ss_box).all (am_rk (am_inf_3.getD 23 mi0)) = true := by decide +kernel
set_option maxRecDepth 100000 in
theorem rk_Ss_put : (pg_Ss_put).all (am_rk (am_inf_3.getD 24 mi0)) = true := by decide +kernel
set_option maxRecDepth 100000 in
theorem rk_Ss_take : (pg_Ss_take).all (am_rk (am_inf_3.getD 25 mi0)) = true := by decide +kernel
set_option maxRecDepth 100000 in
theorem rk_Ss_spill : (pg_Ss_spill).all (am_rk (am_inf_3.getD 26 mi0)) = true := by decide +kernel
set_option maxRecDepth 100000 in
theorem rk_Ss_deep : (pg_Ss_deep).all (am_rk (am_inf_3.getD 27 mi0)) = true := by decide +kernel
set_option maxRecDepth 100000 in
theorem rk_Ss_alike : (pg_Ss_alike).all (am_rk (am_inf_3.getD 28 mi0)) = true := by decide +kernel
set_option maxRecDepth 100000 in
theorem rk_Ss_lose : (pg_Ss_lose).all (am_rk (am_inf_3.getD 29 mi0)) = true := by decide +kernel
set_option maxRecDepth 100000 in
theorem rk_Ss_count : (pg_Ss_count).all (am_rk (am_inf_4.getD 0 mi0)) = true := by decide +kernel
set_option maxRecDepth 100000 in
theorem rk_Ss_isWithin : (pg_Ss_isWithin).all (am_rk (am_inf_4.getD 1 mi0)) = true := by decide +kernel
set_option maxRecDepth 100000 in
theorem rk_Ss_remember : (pg_Ss_remember).all (am_rk (am_inf_4.getD 2 mi0)) = true := by decide +kernel
set_option maxRecDepth 100000 in
theorem rk_Mo_in : (pg_Mo_in).all (am_rk (am_inf_4.getD 3 mi0)) = true := by decide +kernel
set_option maxRecDepth 100000 in
theorem rk_Mo_init : (pg_Mo_init).all (am_rk (am_inf_4.getD 4 mi0)) = true := by decide +kernel
set_option maxRecDepth 100000 in
theorem rk_Mo_atFirst : (pg_Mo_atFirst).all (am_rk (am_inf_4.getD 5 mi0)) = true := by decide +kernel
set_option maxRecDepth 100000 in
theorem rk_Mo_write : (pg_Mo_write).all (am_rk (am_inf_4.getD 6 mi0)) = true := by decide +kernel
set_option maxRecDepth 100000 in
theorem rk_Mo_erase : (pg_Mo_erase).all (am_rk (am_inf_4.getD 7 mi0)) = true := by decide +kernel
set_option maxRecDepth 100000 in
theorem rk_Mo_letterAt : (pg_Mo_letterAt).all (am_rk (am_inf_4.getD 8 mi0)) = true := by decide +kernel
set_option maxRecDepth 100000 in
theorem rk_Mo_word : (pg_Mo_word).all (am_rk (am_inf_4.getD 9 mi0)) = true := by decide +kernel
set_option maxRecDepth 100000 in
theorem rk_Mo_said : (pg_Mo_said).all (am_rk (am_inf_4.getD 10 mi0)) = true := by decide +kernel
set_option maxRecDepth 100000 in
theorem rk_Mo_looksOn : (pg_Mo_looksOn).all (am_rk (am_inf_4.getD 11 mi0)) = true := by decide +kernel
set_option maxRecDepth 100000 in
theorem rk_Mo_must : (pg_Mo_must).all (am_rk (am_inf_4.getD 12 mi0)) = true := by decide +kernel
set_option maxRecDepth 100000 in
theorem rk_Mo_number : (pg_Mo_number).all (am_rk (am_inf_4.getD 13 mi0)) = true := by decide +kernel
set_option maxRecDepth 100000 in
theorem rk_Mo_reads : (pg_Mo_reads).all (am_rk (am_inf_4.getD 14 mi0)) = true := by decide +kernel
set_option maxRecDepth 100000 in
theorem rk_Mo_clauses : (pg_Mo_clauses).all (am_rk (am_inf_4.getD 15 mi0)) = true := by decide +kernel
set_option maxRecDepth 100000 in
theorem rk_Mo_fault : (pg_Mo_fault).all (am_rk (am_inf_4.getD 16 mi0)) = true := by decide +kernel
set_option maxRecDepth 100000 in
theorem rk_Mo_board : (pg_Mo_board).all (am_rk (am_inf_4.getD 17 mi0)) = true := by decide +kernel
set_option maxRecDepth 100000 in
theorem rk_Mo_isHouse : (pg_Mo_isHouse).all (am_rk (am_inf_4.getD 18 mi0)) = true := by decide +kernel
set_option maxRecDepth 100000 in
theorem rk_Mo_liftsOf : (pg_Mo_liftsOf).all (am_rk (am_inf_4.getD 19 mi0)) = true := by decide +kernel
set_option maxRecDepth 100000 in
theorem rk_Mo_takesOne : (pg_Mo_takesOne).all (am_rk (am_inf_4.getD 20 mi0)) = true := by decide +kernel
set_option maxRecDepth 100000 in
theorem rk_Mo_yieldsAll : (pg_Mo_yieldsAll).all (am_rk (am_inf_4.getD 21 mi0)) = true := by decide +kernel
set_option maxRecDepth 100000 in
theorem rk_Mo_lifts : (pg_Mo_lifts).all (am_rk (am_inf_4.getD 22 mi0)) = true := by decide +kernel
set_option maxRecDepth 100000 in
theorem rk_Mo_sideOf : (pg_Mo_sideOf).all (am_rk (am_inf_4.getD 23 mi0)) = true := by decide +kernel
set_option maxRecDepth 100000 in
theorem rk_Mo_canGo : (pg_Mo_canGo).all (am_rk (am_inf_4.getD 24 mi0)) = true := by decide +kernel
set_option maxRecDepth 100000 in
theorem rk_Mo_house : (pg_Mo_house).all (am_rk (am_inf_4.getD 25 mi0)) = true := by decide +kernel
set_option maxRecDepth 100000 in
theorem rk_Mo_as : (pg_Mo_as).all (am_rk (am_inf_4.getD 26 mi0)) = true := by decide +kernel
set_option maxRecDepth 100000 in
theorem rk_Mo_next : (pg_Mo_next).all (am_rk (am_inf_4.getD 27 mi0)) = true := by decide +kernel
set_option maxRecDepth 100000 in
theorem rk_Mo_ahead : (pg_Mo_ahead).all (am_rk (am_inf_4.getD 28 mi0)) = true := by decide +kernel
set_option maxRecDepth 100000 in
theorem rk_Mo_anyTakes : (pg_Mo_anyTakes).all (am_rk (am_inf_4.getD 29 mi0)) = true := by decide +kernel
set_option maxRecDepth 100000 in
theorem rk_Mo_goes : (pg_Mo_goes).all (am_rk (am_inf_5.getD 0 mi0)) = true := by decide +kernel
set_option maxRecDepth 100000 in
theorem rk_Mo_notes : (pg_Mo_notes).all (am_rk (am_inf_5.getD 1 mi0)) = true := by decide +kernel
set_option maxRecDepth 100000 in
theorem rk_Mo_move : (pg_Mo_move).all (am_rk (am_inf_5.getD 2 mi0)) = true := by decide +kernel
set_option maxRecDepth 100000 in
theorem rk_Mo_drop : (pg_Mo_drop).all (am_rk (am_inf_5.getD 3 mi0)) = true := by decide +kernel
set_option maxRecDepth 100000 in
theorem rk_Mo_swap : (pg_Mo_swap).all (am_rk (am_inf_5.getD 4 mi0)) = true := by decide +kernel
set_option maxRecDepth 100000 in
theorem rk_Mo_undo : (pg_Mo_undo).all (am_rk (am_inf_5.getD 5 mi0)) = true := by decide +kernel
set_option maxRecDepth 100000 in
theorem rk_Mo_keep : (pg_Mo_keep).all (am_rk (am_inf_5.getD 6 mi0)) = true := by decide +kernel
set_option maxRecDepth 100000 in
theorem rk_Mo_back : (pg_Mo_back).all (am_rk (am_inf_5.getD 7 mi0)) = true := by decide +kernel
set_option maxRecDepth 100000 in
theorem rk_Mo_asides : (pg_Mo_asides).all (am_rk (am_inf_5.getD 8 mi0)) = true := by decide +kernel
set_option maxRecDepth 100000 in
theorem rk_Mo_backs : (pg_Mo_backs).all (am_rk (am_inf_5.getD 9 mi0)) = true := by decide +kernel
set_option maxRecDepth 100000 in
theorem rk_Mo_lead : (pg_Mo_lead).all (am_rk (am_inf_5.getD 10 mi0)) = true := by decide +kernel
set_option maxRecDepth 100000 in
theorem rk_Mo_wouldBring : (pg_Mo_wouldBring).all (am_rk (am_inf_5.getD 11 mi0)) = true := by decide +kernel
set_option maxRecDepth 100000 in
theorem rk_Mo_brings : (pg_Mo_brings).all (am_rk (am_inf_5.getD 12 mi0)) = true := by decide +kernel
set_option maxRecDepth 100000 in
theorem rk_Mo_noted : (pg_Mo_noted).all (am_rk (am_inf_5.getD 13 mi0)) = true := by decide +kernel
set_option maxRecDepth 100000 in
theorem rk_Mo_begins : (pg_Mo_begins).all (am_rk (am_inf_5.getD 14 mi0)) = true := by decide +kernel
set_option maxRecDepth 100000 in
theorem rk_Mo_laysBack : (pg_Mo_laysBack).all (am_rk (am_inf_5.getD 15 mi0)) = true := by decide +kernel
set_option maxRecDepth 100000 in
theorem rk_Mo_ends : (pg_Mo_ends).all (am_rk (am_inf_5.getD 16 mi0)) = true := by decide +kernel
set_option maxRecDepth 100000 in
theorem rk_Mo_looksAhead : (pg_Mo_looksAhead).all (am_rk (am_inf_5.getD 17 mi0)) = true := by decide +kernel
set_option maxRecDepth 100000 in
theorem rk_Mo_best : (pg_Mo_best).all (am_rk (am_inf_5.getD 18 mi0)) = true := by decide +kernel
set_option maxRecDepth 100000 in
theorem rk_Mo_rashOne : (pg_Mo_rashOne).all (am_rk (am_inf_5.getD 19 mi0)) = true := by decide +kernel
set_option maxRecDepth 100000 in
theorem rk_Mo_rashOnes : (pg_Mo_rashOnes).all (am_rk (am_inf_5.getD 20 mi0)) = true := by decide +kernel
set_option maxRecDepth 100000 in
theorem rk_Mo_rash : (pg_Mo_rash).all (am_rk (am_inf_5.getD 21 mi0)) = true := by decide +kernel
set_option maxRecDepth 100000 in
theorem rk_Mo_over : (pg_Mo_over).all (am_rk (am_inf_5.getD 22 mi0)) = true := by decide +kernel
set_option maxRecDepth 100000 in
theorem rk_Mo_gift : (pg_Mo_gift).all (am_rk (am_inf_5.getD 23 mi0)) = true := by decide +kernel
set_option maxRecDepth 100000 in
theorem rk_Mo_movesThere : (pg_Mo_movesThere).all (am_rk (am_inf_5.getD 24 mi0)) = true := by decide +kernel
set_option maxRecDepth 100000 in
theorem rk_Mo_luck : (pg_Mo_luck).all (am_rk (am_inf_5.getD 25 mi0)) = true := by decide +kernel
set_option maxRecDepth 100000 in
theorem rk_Mo_part : (pg_Mo_part).all (am_rk (am_inf_5.getD 26 mi0)) = true := by decide +kernel
set_option maxRecDepth 100000 in
theorem rk_Mo_seen : (pg_Mo_seen).all (am_rk (am_inf_5.getD 27 mi0)) = true := by decide +kernel
set_option maxRecDepth 100000 in
theorem rk_Mo_forget : (pg_Mo_forget).all (am_rk (am_inf_5.getD 28 mi0)) = true := by decide +kernel
set_option maxRecDepth 100000 in
theorem rk_Mo_isOf : (pg_Mo_isOf).all (am_rk (am_inf_5.getD 29 mi0)) = true := by decide +kernel
set_option maxRecDepth 100000 in
theorem rk_Mo_kinds : (pg_Mo_kinds).all (am_rk (am_inf_6.getD 0 mi0)) = true := by decide +kernel
set_option maxRecDepth 100000 in
theorem rk_Mo_ask : (pg_Mo_ask).all (am_rk (am_inf_6.getD 1 mi0)) = true := by decide +kernel
set_option maxRecDepth 100000 in
theorem rk_Mo_noBoxes : (pg_Mo_noBoxes).all (am_rk (am_inf_6.getD 2 mi0)) = true := by decide +kernel
set_option maxRecDepth 100000 in
theorem rk_Mo_isBox : (pg_Mo_isBox).all (am_rk (am_inf_6.getD 3 mi0)) = true := by decide +kernel
set_option maxRecDepth 100000 in
theorem rk_Mo_loses : (pg_Mo_loses).all (am_rk (am_inf_6.getD 4 mi0)) = true := by decide +kernel
set_option maxRecDepth 100000 in
theorem rk_Mo_box : (pg_Mo_box).all (am_rk (am_inf_6.getD 5 mi0)) = true := by decide +kernel
set_option maxRecDepth 100000 in
theorem rk_Mo_isWithin : (pg_Mo_isWithin).all (am_rk (am_inf_6.getD 6 mi0)) = true := by decide +kernel
set_option maxRecDepth 100000 in
theorem rk_Mo_whyNotPut : (pg_Mo_whyNotPut).all (am_rk (am_inf_6.getD 7 mi0)) = true := by decide +kernel
set_option maxRecDepth 100000 in
theorem rk_Mo_put : (pg_Mo_put).all (am_rk (am_inf_6.getD 8 mi0)) = true := by decide +kernel
set_option maxRecDepth 100000 in
theorem rk_Mo_whyNotOut : (pg_Mo_whyNotOut).all (am_rk (am_inf_6.getD 9 mi0)) = true := by decide +kernel
set_option maxRecDepth 100000 in
theorem rk_Mo_take : (pg_Mo_take).all (am_rk (am_inf_6.getD 10 mi0)) = true := by decide +kernel
set_option maxRecDepth 100000 in
theorem rk_Mo_spill : (pg_Mo_spill).all (am_rk (am_inf_6.getD 11 mi0)) = true := by decide +kernel
set_option maxRecDepth 100000 in
theorem rk_Mo_boxesIn : (pg_Mo_boxesIn).all (am_rk (am_inf_6.getD 12 mi0)) = true := by decide +kernel
set_option maxRecDepth 100000 in
theorem rk_Mo_depth : (pg_Mo_depth).all (am_rk (am_inf_6.getD 13 mi0)) = true := by decide +kernel
set_option maxRecDepth 100000 in
theorem rk_Mo_deep : (pg_Mo_deep).all (am_rk (am_inf_6.getD 14 mi0)) = true := by decide +kernel
set_option maxRecDepth 100000 in
theorem rk_Mo_alike : (pg_Mo_alike).all (am_rk (am_inf_6.getD 15 mi0)) = true := by decide +kernel
set_option maxRecDepth 100000 in
theorem rk_Mo_lose : (pg_Mo_lose).all (am_rk (am_inf_6.getD 16 mi0)) = true := by decide +kernel
set_option maxRecDepth 100000 in
theorem rk_Mo_seedsOfAll : (pg_Mo_seedsOfAll).all (am_rk (am_inf_6.getD 17 mi0)) = true := by decide +kernel
set_option maxRecDepth 100000 in
theorem rk_Mo_goers : (pg_Mo_goers).all (am_rk (am_inf_6.getD 18 mi0)) = true := by decide +kernel
set_option maxRecDepth 100000 in
theorem rk_Mo_boxesThere : (pg_Mo_boxesThere).all (am_rk (am_inf_6.getD 19 mi0)) = true := by decide +kernel
set_option maxRecDepth 100000 in
theorem rk_Mo_count : (pg_Mo_count).all (am_rk (am_inf_6.getD 20 mi0)) = true := by decide +kernel
set_option maxRecDepth 100000 in
theorem rk_Jd_bitCount : (pg_Jd_bitCount).all (am_rk (am_inf_6.getD 21 mi0)) = true := by decide +kernel
set_option maxRecDepth 100000 in
theorem rk_La_law : (pg_La_law).all (am_rk (am_inf_6.getD 22 mi0)) = true := by decide +kernel
theorem rkOK_0 : ∀ (k : Nat) q a, (am_inf_0)[k]? = some q → am_ms[0 + k]? = some a → a.1.all (am_rk q) = true := by
  intro k q a hq ha
  match k, hq, ha with
  | 0, hq, ha => cases hq; cases ha; exact rk_Bd_init
  | 1, hq, ha => cases hq; cases ha; exact rk_Bd_setUp
  | 2, hq, ha => cases hq; cases ha; exact rk_Bd_copy
  | 3, hq, ha => cases hq; cases ha; exact rk_Bd_houses
  | 4, hq, ha => cases hq; cases ha; exact rk_Bd_has
  | 5, hq, ha => cases hq; cases ha; exact rk_Bd_sideOf
  | 6, hq, ha => cases hq; cases ha; exact rk_Bd_moves
  | 7, hq, ha => cases hq; cases ha; exact rk_Bd_turn
  | 8, hq, ha => cases hq; cases ha; exact rk_Bd_barn
  | 9, hq, ha => cases hq; cases ha; exact rk_Bd_lead
  | 10, hq, ha => cases hq; cases ha; exact rk_Bd_kind
  | 11, hq, ha => cases hq; cases ha; exact rk_Bd_seeds
  | 12, hq, ha => cases hq; cases ha; exact rk_Bd_lifted
  | 13, hq, ha => cases hq; cases ha; exact rk_Bd_takes
  | 14, hq, ha => cases hq; cases ha; exact rk_Bd_yields
  | 15, hq, ha => cases hq; cases ha; exact rk_Bd_goes
  | 16, hq, ha => cases hq; cases ha; exact rk_Bd_goingBits
  | 17, hq, ha => cases hq; cases ha; exact rk_Bd_allSeeds
  | 18, hq, ha => cases hq; cases ha; exact rk_Bd_setKind
  | 19, hq, ha => cases hq; cases ha; exact rk_Bd_setSeeds
  | 20, hq, ha => cases hq; cases ha; exact rk_Bd_setBarn
  | 21, hq, ha => cases hq; cases ha; exact rk_Bd_setTurn
  | 22, hq, ha => cases hq; cases ha; exact rk_Bd_give
  | 23, hq, ha => cases hq; cases ha; exact rk_Bd_exchangeKinds
  | 24, hq, ha => cases hq; cases ha; exact rk_Bd_sow
  | 25, hq, ha => cases hq; cases ha; exact rk_Bd_spread
  | 26, hq, ha => cases hq; cases ha; exact rk_Bd_nextTaker
  | 27, hq, ha => cases hq; cases ha; exact rk_Bd_reap
  | 28, hq, ha => cases hq; cases ha; exact rk_Bx_init
  | 29, hq, ha => cases hq; cases ha; exact rk_Bx_push
  | k + 30, hq, _ => cases hq
theorem rkOK_1 : ∀ (k : Nat) q a, (am_inf_1)[k]? = some q → am_ms[30 + k]? = some a → a.1.all (am_rk q) = true := by
  intro k q a hq ha
  match k, hq, ha with
  | 0, hq, ha => cases hq; cases ha; exact rk_Bx_hasOnTop
  | 1, hq, ha => cases hq; cases ha; exact rk_Bx_pullBox
  | 2, hq, ha => cases hq; cases ha; exact rk_Bx_numbers
  | 3, hq, ha => cases hq; cases ha; exact rk_Bx_sum
  | 4, hq, ha => cases hq; cases ha; exact rk_Bx_houseBits
  | 5, hq, ha => cases hq; cases ha; exact rk_Bs_init
  | 6, hq, ha => cases hq; cases ha; exact rk_Bs_has
  | 7, hq, ha => cases hq; cases ha; exact rk_Bs_isThere
  | 8, hq, ha => cases hq; cases ha; exact rk_Bs_thereBits
  | 9, hq, ha => cases hq; cases ha; exact rk_Bs_clear
  | 10, hq, ha => cases hq; cases ha; exact rk_Bs_make
  | 11, hq, ha => cases hq; cases ha; exact rk_Bs_remove
  | 12, hq, ha => cases hq; cases ha; exact rk_Bs_lay
  | 13, hq, ha => cases hq; cases ha; exact rk_Bs_lift
  | 14, hq, ha => cases hq; cases ha; exact rk_Bs_pour
  | 15, hq, ha => cases hq; cases ha; exact rk_Bs_throughout
  | 16, hq, ha => cases hq; cases ha; exact rk_Bs_withInner
  | 17, hq, ha => cases hq; cases ha; exact rk_Bs_stepsUp
  | 18, hq, ha => cases hq; cases ha; exact rk_Bs_holdSame
  | 19, hq, ha => cases hq; cases ha; exact rk_Bs_holdSameFrom
  | 20, hq, ha => cases hq; cases ha; exact rk_Bs_isSame
  | 21, hq, ha => cases hq; cases ha; exact rk_Fo_init
  | 22, hq, ha => cases hq; cases ha; exact rk_Fo_broughtBy
  | 23, hq, ha => cases hq; cases ha; exact rk_Fo_bestLead
  | 24, hq, ha => cases hq; cases ha; exact rk_Fo_lineMove
  | 25, hq, ha => cases hq; cases ha; exact rk_Fo_search
  | 26, hq, ha => cases hq; cases ha; exact rk_Fo_rashBoard
  | 27, hq, ha => cases hq; cases ha; exact rk_Fo_rashHouse
  | 28, hq, ha => cases hq; cases ha; exact rk_Fo_bestGift
  | 29, hq, ha => cases hq; cases ha; exact rk_Fo_odds
  | k + 30, hq, _ => cases hq
theorem rkOK_2 : ∀ (k : Nat) q a, (am_inf_2)[k]? = some q → am_ms[60 + k]? = some a → a.1.all (am_rk q) = true := by
  intro k q a hq ha
  match k, hq, ha with
  | 0, hq, ha => cases hq; cases ha; exact rk_Fo_leading
  | 1, hq, ha => cases hq; cases ha; exact rk_Fo_commonDivisor
  | 2, hq, ha => cases hq; cases ha; exact rk_Ki_isUnder
  | 3, hq, ha => cases hq; cases ha; exact rk_Ki_lifted
  | 4, hq, ha => cases hq; cases ha; exact rk_Ki_takes
  | 5, hq, ha => cases hq; cases ha; exact rk_Ki_yields
  | 6, hq, ha => cases hq; cases ha; exact rk_Si_init
  | 7, hq, ha => cases hq; cases ha; exact rk_Si_add
  | 8, hq, ha => cases hq; cases ha; exact rk_Si_clear
  | 9, hq, ha => cases hq; cases ha; exact rk_Si_size
  | 10, hq, ha => cases hq; cases ha; exact rk_Si_possible
  | 11, hq, ha => cases hq; cases ha; exact rk_Si_fits
  | 12, hq, ha => cases hq; cases ha; exact rk_Si_question
  | 13, hq, ha => cases hq; cases ha; exact rk_Si_greatestPart
  | 14, hq, ha => cases hq; cases ha; exact rk_Si_doAlike
  | 15, hq, ha => cases hq; cases ha; exact rk_Te_init
  | 16, hq, ha => cases hq; cases ha; exact rk_Te_add
  | 17, hq, ha => cases hq; cases ha; exact rk_Te_clear
  | 18, hq, ha => cases hq; cases ha; exact rk_Te_length
  | 19, hq, ha => cases hq; cases ha; exact rk_Te_clauses
  | 20, hq, ha => cases hq; cases ha; exact rk_Te_read
  | 21, hq, ha => cases hq; cases ha; exact rk_Te_readClause
  | 22, hq, ha => cases hq; cases ha; exact rk_Te_readFirst
  | 23, hq, ha => cases hq; cases ha; exact rk_Te_readSecond
  | 24, hq, ha => cases hq; cases ha; exact rk_Te_perform
  | 25, hq, ha => cases hq; cases ha; exact rk_Te_readNumber
  | 26, hq, ha => cases hq; cases ha; exact rk_Te_word
  | 27, hq, ha => cases hq; cases ha; exact rk_Te_isWord
  | 28, hq, ha => cases hq; cases ha; exact rk_Te_advance
  | 29, hq, ha => cases hq; cases ha; exact rk_Te_isAt
  | k + 30, hq, _ => cases hq
theorem rkOK_3 : ∀ (k : Nat) q a, (am_inf_3)[k]? = some q → am_ms[90 + k]? = some a → a.1.all (am_rk q) = true := by
  intro k q a hq ha
  match k, hq, ha with
  | 0, hq, ha => cases hq; cases ha; exact rk_Ss_init
  | 1, hq, ha => cases hq; cases ha; exact rk_Ss_write
  | 2, hq, ha => cases hq; cases ha; exact rk_Ss_erase
  | 3, hq, ha => cases hq; cases ha; exact rk_Ss_fault
  | 4, hq, ha => cases hq; cases ha; exact rk_Ss_board
  | 5, hq, ha => cases hq; cases ha; exact rk_Ss_house
  | 6, hq, ha => cases hq; cases ha; exact rk_Ss_as
  | 7, hq, ha => cases hq; cases ha; exact rk_Ss_move
  | 8, hq, ha => cases hq; cases ha; exact rk_Ss_drop
  | 9, hq, ha => cases hq; cases ha; exact rk_Ss_swap
  | 10, hq, ha => cases hq; cases ha; exact rk_Ss_undo
  | 11, hq, ha => cases hq; cases ha; exact rk_Ss_keep
  | 12, hq, ha => cases hq; cases ha; exact rk_Ss_back
  | 13, hq, ha => cases hq; cases ha; exact rk_Ss_brings
  | 14, hq, ha => cases hq; cases ha; exact rk_Ss_best
  | 15, hq, ha => cases hq; cases ha; exact rk_Ss_rash
  | 16, hq, ha => cases hq; cases ha; exact rk_Ss_over
  | 17, hq, ha => cases hq; cases ha; exact rk_Ss_gift
  | 18, hq, ha => cases hq; cases ha; exact rk_Ss_luck
  | 19, hq, ha => cases hq; cases ha; exact rk_Ss_seen
  | 20, hq, ha => cases hq; cases ha; exact rk_Ss_forget
  | 21, hq, ha => cases hq; cases ha; exact rk_Ss_kinds
  | 22, hq, ha => cases hq; cases ha; exact rk_Ss_ask
  | 23, hq, ha => cases hq; cases ha; exact rk_Ss_box
  | 24, hq, ha => cases hq; cases ha; exact rk_Ss_put
  | 25, hq, ha => cases hq; cases ha; exact rk_Ss_take
  | 26, hq, ha => cases hq; cases ha; exact rk_Ss_spill
  | 27, hq, ha => cases hq; cases ha; exact rk_Ss_deep
  | 28, hq, ha => cases hq; cases ha; exact rk_Ss_alike
  | 29, hq, ha => cases hq; cases ha; exact rk_Ss_lose
  | k + 30, hq, _ => cases hq
theorem rkOK_4 : ∀ (k : Nat) q a, (am_inf_4)[k]? = some q → am_ms[120 + k]? = some a → a.1.all (am_rk q) = true := by
  intro k q a hq ha
  match k, hq, ha with
  | 0, hq, ha => cases hq; cases ha; exact rk_Ss_count
  | 1, hq, ha => cases hq; cases ha; exact rk_Ss_isWithin
  | 2, hq, ha => cases hq; cases ha; exact rk_Ss_remember
  | 3, hq, ha => cases hq; cases ha; exact rk_Mo_in
  | 4, hq, ha => cases hq; cases ha; exact rk_Mo_init
  | 5, hq, ha => cases hq; cases ha; exact rk_Mo_atFirst
  | 6, hq, ha => cases hq; cases ha; exact rk_Mo_write
  | 7, hq, ha => cases hq; cases ha; exact rk_Mo_erase
  | 8, hq, ha => cases hq; cases ha; exact rk_Mo_letterAt
  | 9, hq, ha => cases hq; cases ha; exact rk_Mo_word
  | 10, hq, ha => cases hq; cases ha; exact rk_Mo_said
  | 11, hq, ha => cases hq; cases ha; exact rk_Mo_looksOn
  | 12, hq, ha => cases hq; cases ha; exact rk_Mo_must
  | 13, hq, ha => cases hq; cases ha; exact rk_Mo_number
  | 14, hq, ha => cases hq; cases ha; exact rk_Mo_reads
  | 15, hq, ha => cases hq; cases ha; exact rk_Mo_clauses
  | 16, hq, ha => cases hq; cases ha; exact rk_Mo_fault
  | 17, hq, ha => cases hq; cases ha; exact rk_Mo_board
  | 18, hq, ha => cases hq; cases ha; exact rk_Mo_isHouse
  | 19, hq, ha => cases hq; cases ha; exact rk_Mo_liftsOf
  | 20, hq, ha => cases hq; cases ha; exact rk_Mo_takesOne
  | 21, hq, ha => cases hq; cases ha; exact rk_Mo_yieldsAll
  | 22, hq, ha => cases hq; cases ha; exact rk_Mo_lifts
  | 23, hq, ha => cases hq; cases ha; exact rk_Mo_sideOf
  | 24, hq, ha => cases hq; cases ha; exact rk_Mo_canGo
  | 25, hq, ha => cases hq; cases ha; exact rk_Mo_house
  | 26, hq, ha => cases hq; cases ha; exact rk_Mo_as
  | 27, hq, ha => cases hq; cases ha; exact rk_Mo_next
  | 28, hq, ha => cases hq; cases ha; exact rk_Mo_ahead
  | 29, hq, ha => cases hq; cases ha; exact rk_Mo_anyTakes
  | k + 30, hq, _ => cases hq
theorem rkOK_5 : ∀ (k : Nat) q a, (am_inf_5)[k]? = some q → am_ms[150 + k]? = some a → a.1.all (am_rk q) = true := by
  intro k q a hq ha
  match k, hq, ha with
  | 0, hq, ha => cases hq; cases ha; exact rk_Mo_goes
  | 1, hq, ha => cases hq; cases ha; exact rk_Mo_notes
  | 2, hq, ha => cases hq; cases ha; exact rk_Mo_move
  | 3, hq, ha => cases hq; cases ha; exact rk_Mo_drop
  | 4, hq, ha => cases hq; cases ha; exact rk_Mo_swap
  | 5, hq, ha => cases hq; cases ha; exact rk_Mo_undo
  | 6, hq, ha => cases hq; cases ha; exact rk_Mo_keep
  | 7, hq, ha => cases hq; cases ha; exact rk_Mo_back
  | 8, hq, ha => cases hq; cases ha; exact rk_Mo_asides
  | 9, hq, ha => cases hq; cases ha; exact rk_Mo_backs
  | 10, hq, ha => cases hq; cases ha; exact rk_Mo_lead
  | 11, hq, ha => cases hq; cases ha; exact rk_Mo_wouldBring
  | 12, hq, ha => cases hq; cases ha; exact rk_Mo_brings
  | 13, hq, ha => cases hq; cases ha; exact rk_Mo_noted
  | 14, hq, ha => cases hq; cases ha; exact rk_Mo_begins
  | 15, hq, ha => cases hq; cases ha; exact rk_Mo_laysBack
  | 16, hq, ha => cases hq; cases ha; exact rk_Mo_ends
  | 17, hq, ha => cases hq; cases ha; exact rk_Mo_looksAhead
  | 18, hq, ha => cases hq; cases ha; exact rk_Mo_best
  | 19, hq, ha => cases hq; cases ha; exact rk_Mo_rashOne
  | 20, hq, ha => cases hq; cases ha; exact rk_Mo_rashOnes
  | 21, hq, ha => cases hq; cases ha; exact rk_Mo_rash
  | 22, hq, ha => cases hq; cases ha; exact rk_Mo_over
  | 23, hq, ha => cases hq; cases ha; exact rk_Mo_gift
  | 24, hq, ha => cases hq; cases ha; exact rk_Mo_movesThere
  | 25, hq, ha => cases hq; cases ha; exact rk_Mo_luck
  | 26, hq, ha => cases hq; cases ha; exact rk_Mo_part
  | 27, hq, ha => cases hq; cases ha; exact rk_Mo_seen
  | 28, hq, ha => cases hq; cases ha; exact rk_Mo_forget
  | 29, hq, ha => cases hq; cases ha; exact rk_Mo_isOf
  | k + 30, hq, _ => cases hq
theorem rkOK_6 : ∀ (k : Nat) q a, (am_inf_6)[k]? = some q → am_ms[180 + k]? = some a → a.1.all (am_rk q) = true := by
  intro k q a hq ha
  match k, hq, ha with
  | 0, hq, ha => cases hq; cases ha; exact rk_Mo_kinds
  | 1, hq, ha => cases hq; cases ha; exact rk_Mo_ask
  | 2, hq, ha => cases hq; cases ha; exact rk_Mo_noBoxes
  | 3, hq, ha => cases hq; cases ha; exact rk_Mo_isBox
  | 4, hq, ha => cases hq; cases ha; exact rk_Mo_loses
  | 5, hq, ha => cases hq; cases ha; exact rk_Mo_box
  | 6, hq, ha => cases hq; cases ha; exact rk_Mo_isWithin
  | 7, hq, ha => cases hq; cases ha; exact rk_Mo_whyNotPut
  | 8, hq, ha => cases hq; cases ha; exact rk_Mo_put
  | 9, hq, ha => cases hq; cases ha; exact rk_Mo_whyNotOut
  | 10, hq, ha => cases hq; cases ha; exact rk_Mo_take
  | 11, hq, ha => cases hq; cases ha; exact rk_Mo_spill
  | 12, hq, ha => cases hq; cases ha; exact rk_Mo_boxesIn
  | 13, hq, ha => cases hq; cases ha; exact rk_Mo_depth
  | 14, hq, ha => cases hq; cases ha; exact rk_Mo_deep
  | 15, hq, ha => cases hq; cases ha; exact rk_Mo_alike
  | 16, hq, ha => cases hq; cases ha; exact rk_Mo_lose
  | 17, hq, ha => cases hq; cases ha; exact rk_Mo_seedsOfAll
  | 18, hq, ha => cases hq; cases ha; exact rk_Mo_goers
  | 19, hq, ha => cases hq; cases ha; exact rk_Mo_boxesThere
  | 20, hq, ha => cases hq; cases ha; exact rk_Mo_count
  | 21, hq, ha => cases hq; cases ha; exact rk_Jd_bitCount
  | 22, hq, ha => cases hq; cases ha; exact rk_La_law
  | k + 23, hq, _ => cases hq
theorem inf_len : am_ms.length = 203 ∧ am_inf.length = 203 := by decide +kernel
theorem ms_ok : ∀ (m : Nat) q a, am_inf[m]? = some q → am_ms[m]? = some a → a.1.all (am_chk q.2.2.2.2.2.2.2.2 q.2.1) = true ∧ a.2 = q.2.2.1 := by
  intro m q a hq ha
  unfold am_inf at hq
  rw [List.getElem?_append] at hq
  by_cases h0 : m < am_inf_0.length
  · rw [if_pos h0] at hq
    exact msOK_0 _ q a hq (by rw [show 0 + (m) = m by omega]; exact ha)
  rw [if_neg h0] at hq
  have e0 : am_inf_0.length = 30 := rfl
  rw [e0] at hq h0
  rw [List.getElem?_append] at hq
  by_cases h1 : m - 30 < am_inf_1.length
  · rw [if_pos h1] at hq
    exact msOK_1 _ q a hq (by rw [show 30 + (m - 30) = m by omega]; exact ha)
  rw [if_neg h1] at hq
  have e1 : am_inf_1.length = 30 := rfl
  rw [e1] at hq h1
  rw [List.getElem?_append] at hq
  by_cases h2 : m - 30 - 30 < am_inf_2.length
  · rw [if_pos h2] at hq
    exact msOK_2 _ q a hq (by rw [show 60 + (m - 30 - 30) = m by omega]; exact ha)
  rw [if_neg h2] at hq
  have e2 : am_inf_2.length = 30 := rfl
  rw [e2] at hq h2
  rw [List.getElem?_append] at hq
  by_cases h3 : m - 30 - 30 - 30 < am_inf_3.length
  · rw [if_pos h3] at hq
    exact msOK_3 _ q a hq (by rw [show 90 + (m - 30 - 30 - 30) = m by omega]; exact ha)
  rw [if_neg h3] at hq
  have e3 : am_inf_3.length = 30 := rfl
  rw [e3] at hq h3
  rw [List.getElem?_append] at hq
  by_cases h4 : m - 30 - 30 - 30 - 30 < am_inf_4.length
  · rw [if_pos h4] at hq
    exact msOK_4 _ q a hq (by rw [show 120 + (m - 30 - 30 - 30 - 30) = m by omega]; exact ha)
  rw [if_neg h4] at hq
  have e4 : am_inf_4.length = 30 := rfl
  rw [e4] at hq h4
  rw [List.getElem?_append] at hq
  by_cases h5 : m - 30 - 30 - 30 - 30 - 30 < am_inf_5.length
  · rw [if_pos h5] at hq
    exact msOK_5 _ q a hq (by rw [show 150 + (m - 30 - 30 - 30 - 30 - 30) = m by omega]; exact ha)
  rw [if_neg h5] at hq
  have e5 : am_inf_5.length = 30 := rfl
  rw [e5] at hq h5
  exact msOK_6 _ q a hq (by rw [show 180 + (m - 30 - 30 - 30 - 30 - 30 - 30) = m by omega]; exact ha)
theorem rk_ok : ∀ (m : Nat) q a, am_inf[m]? = some q → am_ms[m]? = some a → a.1.all (am_rk q) = true := by
  intro m q a hq ha
  unfold am_inf at hq
  rw [List.getElem?_append] at hq
  by_cases h0 : m < am_inf_0.length
  · rw [if_pos h0] at hq
    exact rkOK_0 _ q a hq (by rw [show 0 + (m) = m by omega]; exact ha)
  rw [if_neg h0] at hq
  have e0 : am_inf_0.length = 30 := rfl
  rw [e0] at hq h0
  rw [List.getElem?_append] at hq
  by_cases h1 : m - 30 < am_inf_1.length
  · rw [if_pos h1] at hq
    exact rkOK_1 _ q a hq (by rw [show 30 + (m - 30) = m by omega]; exact ha)
  rw [if_neg h1] at hq
  have e1 : am_inf_1.length = 30 := rfl
  rw [e1] at hq h1
  rw [List.getElem?_append] at hq
  by_cases h2 : m - 30 - 30 < am_inf_2.length
  · rw [if_pos h2] at hq
    exact rkOK_2 _ q a hq (by rw [show 60 + (m - 30 - 30) = m by omega]; exact ha)
  rw [if_neg h2] at hq
  have e2 : am_inf_2.length = 30 := rfl
  rw [e2] at hq h2
  rw [List.getElem?_append] at hq
  by_cases h3 : m - 30 - 30 - 30 < am_inf_3.length
  · rw [if_pos h3] at hq
    exact rkOK_3 _ q a hq (by rw [show 90 + (m - 30 - 30 - 30) = m by omega]; exact ha)
  rw [if_neg h3] at hq
  have e3 : am_inf_3.length = 30 := rfl
  rw [e3] at hq h3
  rw [List.getElem?_append] at hq
  by_cases h4 : m - 30 - 30 - 30 - 30 < am_inf_4.length
  · rw [if_pos h4] at hq
    exact rkOK_4 _ q a hq (by rw [show 120 + (m - 30 - 30 - 30 - 30) = m by omega]; exact ha)
  rw [if_neg h4] at hq
  have e4 : am_inf_4.length = 30 := rfl
  rw [e4] at hq h4
  rw [List.getElem?_append] at hq
  by_cases h5 : m - 30 - 30 - 30 - 30 - 30 < am_inf_5.length
  · rw [if_pos h5] at hq
    exact rkOK_5 _ q a hq (by rw [show 150 + (m - 30 - 30 - 30 - 30 - 30) = m by omega]; exact ha)
  rw [if_neg h5] at hq
  have e5 : am_inf_5.length = 30 := rfl
  rw [e5] at hq h5
  exact rkOK_6 _ q a hq (by rw [show 180 + (m - 30 - 30 - 30 - 30 - 30 - 30) = m by omega]; exact ha)
theorem inf_ok : ∀ q ∈ am_inf, infOK q := by
  intro q hq
  unfold am_inf at hq
  rcases List.mem_append.mp hq with hq | hq
  · exact infOK_0 q hq
  rcases List.mem_append.mp hq with hq | hq
  · exact infOK_1 q hq
  rcases List.mem_append.mp hq with hq | hq
  · exact infOK_2 q hq
  rcases List.mem_append.mp hq with hq | hq
  · exact infOK_3 q hq
  rcases List.mem_append.mp hq with hq | hq
  · exact infOK_4 q hq
  rcases List.mem_append.mp hq with hq | hq
  · exact infOK_5 q hq
  exact infOK_6 q hq
theorem inf_mx : ∀ q ∈ am_inf, q.2.2.1 ≤ 60 ∧ q.2.2.2.2.2.2.2.2 ≤ 10 := by decide +kernel
theorem lk_ok (o : Nat) : ∀ e ∈ lkT o, lnkOK o e := by
  intro e he
  match o, he with
  | 0, he => exact lkT_0_ok e he
  | 1, he => exact lkT_1_ok e he
  | 2, he => exact lkT_2_ok e he
  | 3, he => exact lkT_3_ok e he
  | 4, he => exact lkT_4_ok e he
  | 5, he => exact lkT_5_ok e he
  | 6, he => exact lkT_6_ok e he
  | 7, he => exact lkT_7_ok e he
  | 8, he => exact lkT_8_ok e he
  | 9, he => exact lkT_9_ok e he
  | o + 10, he => exact lkT_10_ok e he
