/-! words of the tables by place; the methods' rows; checks -/
def z_chunk (k : Nat) : List Cond := match k with
  | 0 => k2_sels lw_privs
  | 1 => tables_1_1
  | 2 => tables_1_2
  | 3 => tables_1_3
  | 4 => tables_1_4
  | 5 => tables_1_5
  | 6 => tables_1_6
  | 7 => tables_1_7
  | 8 => tables_1_8
  | 9 => tables_1_9
  | _ => []
theorem z_chunk_in (k : Nat) : ∀ w ∈ z_chunk k, w ∈ lw_tbl := by
  intro w h
  unfold lw_tbl tables_1
  unfold z_chunk at h
  split at h <;> first
    | exact absurd h List.not_mem_nil
    | (simp only [List.mem_append]; simp only [h, true_or, or_true])
def z_TB : List Cond := lw_tbl.filter goodWord
def z_has (kj : Nat) (w : Cond) : Bool := match (z_chunk (kj / 1000))[kj % 1000]? with
  | some w' => decide (w' = w) && goodWord w
  | none => false
theorem z_has_in {kj : Nat} {w : Cond} (h : z_has kj w = true) : w ∈ z_TB := by
  unfold z_has at h
  split at h
  · rename_i w' hw
    rw [Bool.and_eq_true, decide_eq_true_eq] at h
    obtain ⟨rfl, hg⟩ := h
    exact List.mem_filter.mpr ⟨z_chunk_in _ _ (List.mem_of_getElem? hw), hg⟩
  · exact absurd h (by decide)
theorem z_TB_good : GoodIn lw_tbl z_TB := fun w hw => ⟨(List.mem_filter.mp hw).1, good_of_word (List.mem_filter.mp hw).2⟩
theorem z_TB_self : GoodIn z_TB z_TB := fun w hw => ⟨hw, good_of_word (List.mem_filter.mp hw).2⟩
/-- own, name, bytes, locals, what it returns, how many arguments, static -/
abbrev z_MR : Type := String × (MethodName × (ByteArray × (Nat × (Option FieldType × (Nat × Bool)))))
def z_MT_0 : List z_MR := [(RX0, yX0_look, cX0_look, 3, none, 1, false),
  (RX0, yX0_isOpen, cX0_isOpen, 2, some .boolean, 1, false),
  (RX0, yX0_isBeside, cX0_isBeside, 2, some .boolean, 1, false),
  (RX0, yX0_ofSearch, cX0_ofSearch, 3, some .int, 2, false),
  (RX0, yX0_reached, cX0_reached, 6, some .int, 2, false),
  (RX0, yX0_countParts, cX0_countParts, 4, some .int, 0, false),
  (RX0, yX0_cutBits, cX0_cutBits, 3, some .int, 0, false),
  (RX1, yX1_solve, cX1_solve, 3, none, 1, false),
  (RX1, yX1_wholeWays, cX1_wholeWays, 2, some .long, 1, false),
  (RX1, yX1_mending, cX1_mending, 6, some .int, 2, false),
  (RX1, yX1_mends, cX1_mends, 5, some .boolean, 3, false),
  (RX1, yX1_begin, cX1_begin, 4, none, 3, false),
  (RX1, yX1_clear, cX1_clear, 1, none, 0, false),
  (RX1, yX1_goOn, cX1_goOn, 10, some .boolean, 3, false),
  (RX1, yX1_goOnWith, cX1_goOnWith, 13, some .boolean, 5, false),
  (RX1, yX1_nextOf, cX1_nextOf, 9, some .int, 3, false),
  (RX1, yX1_fitting, cX1_fitting, 9, some .long, 3, false),
  (RX1, yX1_spoilt, cX1_spoilt, 2, some .long, 1, false),
  (RX1, yX1_halfWay, cX1_halfWay, 3, some .long, 2, true),
  (RX1, yX1_note, cX1_note, 5, some .boolean, 1, false),
  (RX2, yX2_space, cX2_space, 8, none, 3, false),
  (RX2, yX2_overTwo, cX2_overTwo, 4, some .int, 2, true),
  (RX2, yX2_sums, cX2_sums, 7, some .long, 2, true),
  (RX2, yX2_bind, cX2_bind, 5, none, 1, false),
  (RX2, yX2_goOn, cX2_goOn, 7, some .boolean, 2, false),
  (RX2, yX2_goOnWith, cX2_goOnWith, 5, some .boolean, 4, false),
  (RX2, yX2_fitting, cX2_fitting, 6, some .long, 2, false),
  (RX2, yX2_around, cX2_around, 4, some .long, 2, true),
  (RX3, yX3_take, cX3_take, 3, none, 1, false),
  (RX3, yX3_read, cX3_read, 4, some .boolean, 1, false),
  (RX3, yX3_wrong, cX3_wrong, 2, some .boolean, 1, false),
  (RX3, yX3_expect, cX3_expect, 2, some .boolean, 1, false),
  (RX3, yX3_clause, cX3_clause, 4, some .boolean, 0, false),
  (RX3, yX3_startsClause, cX3_startsClause, 1, some .boolean, 1, true),
  (RX3, yX3_doClause, cX3_doClause, 4, some .boolean, 1, false),
  (RX3, yX3_number, cX3_number, 3, some .boolean, 1, false),
  (RX3, yX3_mostOf, cX3_mostOf, 1, some .int, 1, true),
  (RX3, yX3_sum, cX3_sum, 4, some .boolean, 1, false),
  (RX3, yX3_product, cX3_product, 4, some .boolean, 1, false),
  (RX3, yX3_one, cX3_one, 3, some .boolean, 1, false)]
def z_MT_1 : List z_MR := [(RX3, yX3_isOfLaw, cX3_isOfLaw, 2, some .boolean, 1, false),
  (RX3, yX3_nested, cX3_nested, 3, some .boolean, 2, false),
  (RX3, yX3_choice, cX3_choice, 4, some .boolean, 1, false),
  (RX3, yX3_either, cX3_either, 3, some .boolean, 1, false),
  (RX3, yX3_both, cX3_both, 3, some .boolean, 1, false),
  (RX3, yX3_ask, cX3_ask, 3, some .boolean, 1, false),
  (RX3, yX3_denied, cX3_denied, 2, some .boolean, 1, false),
  (RX3, yX3_advance, cX3_advance, 2, none, 0, false),
  (RX3, yX3_isLetter, cX3_isLetter, 1, some .boolean, 1, true),
  (RX3, yX3_isDigit, cX3_isDigit, 1, some .boolean, 1, true),
  (RX3, yX3_word, cX3_word, 6, some .int, 0, false),
  (RX3, yX3_digits, cX3_digits, 3, some .int, 0, false),
  (RX3, yX3_signToken, cX3_signToken, 3, some .int, 1, false),
  (RX4, yX4_become, cX4_become, 2, none, 1, false),
  (RX4, yX4_draw, cX4_draw, 2, some .int, 0, false),
  (RX4, yX4_write, cX4_write, 4, none, 3, false),
  (RX4, yX4_told, cX4_told, 4, some .int, 2, false),
  (RX5, yX5_tell, cX5_tell, 12, some .int, 5, false),
  (RX5, yX5_push, cX5_push, 2, none, 1, false),
  (RX5, yX5_pop, cX5_pop, 1, some .int, 0, false),
  (RX5, yX5_valueOf, cX5_valueOf, 5, some .int, 3, false),
  (RX5, yX5_nameOf, cX5_nameOf, 3, some .int, 2, false),
  (RX5, yX5_signOf, cX5_signOf, 2, some .int, 2, true),
  (RX5, yX5_endSign, cX5_endSign, 3, some .int, 2, false),
  (RX5, yX5_joined, cX5_joined, 3, some .int, 3, true),
  (RX5, yX5_product, cX5_product, 4, some .int, 2, true),
  (RX5, yX5_holds, cX5_holds, 3, some .boolean, 3, true),
  (RX6, yX6_clear, cX6_clear, 1, none, 0, false),
  (RX6, yX6_become, cX6_become, 2, none, 1, false),
  (RX6, yX6_has, cX6_has, 2, some .boolean, 1, false),
  (RX6, yX6_emit, cX6_emit, 3, some .int, 2, false),
  (RX6, yX6_land, cX6_land, 2, none, 1, false),
  (RX6, yX6_addLaw, cX6_addLaw, 3, none, 2, false),
  (RX6, yX6_add, cX6_add, 4, none, 3, false),
  (RX7, yX7_leastFares, cX7_leastFares, 6, some .int, 1, false),
  (RX7, yX7_swaps, cX7_swaps, 4, some .int, 1, false),
  (RX7, yX7_swapsFrom, cX7_swapsFrom, 7, some .int, 3, false),
  (RX7, yX7_swapsWith, cX7_swapsWith, 5, some .int, 4, false),
  (RX7, yX7_keepsBeside, cX7_keepsBeside, 6, some .boolean, 3, false),
  (RX7, yX7_winner, cX7_winner, 6, some .int, 2, false)]
def z_MT_2 : List z_MR := [(RX7, yX7_rideFares, cX7_rideFares, 5, some .int, 4, false),
  (RX7, yX7_rideHalt, cX7_rideHalt, 8, some .int, 5, false),
  (RX7, yX7_reckon, cX7_reckon, 9, none, 3, false),
  (RX7, yX7_stepWorth, cX7_stepWorth, 3, some .int, 3, true),
  (RX7, yX7_nextHalt, cX7_nextHalt, 6, some .int, 3, false),
  (RX8, yX8_solveAlike, cX8_solveAlike, 3, none, 1, false),
  (RX8, yX8_begin, cX8_begin, 4, none, 2, false),
  (RX8, yX8_goAlike, cX8_goAlike, 9, none, 2, false),
  (RX8, yX8_goAlikeWith, cX8_goAlikeWith, 7, none, 4, false),
  (RX8, yX8_put, cX8_put, 6, none, 5, false),
  (RX8, yX8_takeOff, cX8_takeOff, 5, none, 4, false),
  (RX8, yX8_canBe, cX8_canBe, 5, some .boolean, 2, false),
  (RX8, yX8_tightest, cX8_tightest, 7, some .int, 2, false),
  (RX8, yX8_keepLowest, cX8_keepLowest, 2, none, 1, false),
  (RX8, yX8_isLower, cX8_isLower, 3, some .boolean, 1, false),
  (RX8, yX8_solveUnlike, cX8_solveUnlike, 2, none, 1, false),
  (RX8, yX8_hasLone, cX8_hasLone, 3, some .boolean, 1, false),
  (RX8, yX8_goUnlike, cX8_goUnlike, 5, some .boolean, 2, false),
  (RX8, yX8_goUnlikeWith, cX8_goUnlikeWith, 6, some .boolean, 3, false),
  (RX8, yX8_isMet, cX8_isMet, 5, some .boolean, 2, false),
  (RX9, yX9_become, cX9_become, 3, none, 1, false),
  (RX9, yX9_hasLine, cX9_hasLine, 2, some .boolean, 1, false),
  (RX9, yX9_hasText, cX9_hasText, 2, some .boolean, 1, false),
  (RX9, yX9_openBits, cX9_openBits, 1, some .int, 0, false),
  (RX9, yX9_fareOf, cX9_fareOf, 2, some .int, 1, false),
  (RX9, yX9_besideBits, cX9_besideBits, 4, some .int, 1, false),
  (RX9, yX9_theText, cX9_theText, 1, some (.object "FareNumbers$Text"), 0, false),
  (RX9, yX9_lawSays, cX9_lawSays, 4, some .int, 3, false),
  (RX9, yX9_saysAll, cX9_saysAll, 3, some .boolean, 1, false),
  (RX9, yX9_addLine, cX9_addLine, 4, some .int, 2, false),
  (RX9, yX9_keepStep, cX9_keepStep, 1, none, 0, false),
  (RX9, yX9_takeBack, cX9_takeBack, 1, some .int, 0, false),
  (RX9, yX9_putPlate, cX9_putPlate, 5, some .int, 3, false),
  (RX9, yX9_turnLine, cX9_turnLine, 3, some .boolean, 2, false),
  (RX9, yX9_giveGrant, cX9_giveGrant, 3, some .boolean, 2, false),
  (RX9, yX9_passDay, cX9_passDay, 7, some .int, 1, false),
  (RX9, yX9_drawOnce, cX9_drawOnce, 3, none, 1, false),
  (RX9, yX9_perform, cX9_perform, 6, some .boolean, 3, false),
  (RX10, yX10_lay, cX10_lay, 3, some .int, 2, false),
  (RX10, yX10_feed, cX10_feed, 6, some .int, 5, false)]
def z_MT_3 : List z_MR := [(RX10, yX10_end, cX10_end, 2, some .int, 1, false),
  (RX10, yX10_text, cX10_text, 1, some .int, 0, false),
  (RX10, yX10_fault, cX10_fault, 2, some .int, 1, false),
  (RX10, yX10_by, cX10_by, 2, some .boolean, 1, false),
  (RX10, yX10_plate, cX10_plate, 3, some .int, 2, false),
  (RX10, yX10_turn, cX10_turn, 2, some .boolean, 1, false),
  (RX10, yX10_grant, cX10_grant, 2, some .boolean, 1, false),
  (RX10, yX10_day, cX10_day, 4, some .int, 1, false),
  (RX10, yX10_played, cX10_played, 4, some .int, 1, false),
  (RX10, yX10_years, cX10_years, 4, some .int, 2, false),
  (RX10, yX10_undo, cX10_undo, 1, some .int, 0, false),
  (RX10, yX10_of, cX10_of, 3, some .int, 2, false),
  (RX10, yX10_ofHalt, cX10_ofHalt, 3, some .int, 2, false),
  (RX10, yX10_costs, cX10_costs, 3, some .int, 2, false),
  (RX10, yX10_is, cX10_is, 2, some .int, 1, false),
  (RX10, yX10_openFares, cX10_openFares, 4, some .int, 0, false),
  (RX10, yX10_book, cX10_book, 3, some .int, 2, false),
  (RX10, yX10_foretold, cX10_foretold, 3, some .int, 1, false),
  (RX10, yX10_fair, cX10_fair, 3, some .boolean, 0, false),
  (RX10, yX10_likeAbove, cX10_likeAbove, 5, some .int, 2, false),
  (RX10, yX10_left, cX10_left, 6, some .int, 0, false),
  (RX10, yX10_twin, cX10_twin, 5, some .int, 1, false),
  (RX10, yX10_whole, cX10_whole, 2, some .int, 1, false),
  (RX10, yX10_wholes, cX10_wholes, 1, some .long, 0, false),
  (RX10, yX10_span, cX10_span, 2, some .int, 1, false),
  (RX10, yX10_apart, cX10_apart, 4, some .int, 3, false),
  (RX10, yX10_alike, cX10_alike, 2, some .int, 1, false),
  (RX10, yX10_alikes, cX10_alikes, 1, some .long, 0, false),
  (RX10, yX10_unlike, cX10_unlike, 2, some .int, 1, false),
  (RX10, yX10_band, cX10_band, 2, some .int, 1, false),
  (RX10, yX10_total, cX10_total, 1, some .int, 0, false),
  (RX10, yX10_mend, cX10_mend, 1, some .int, 0, false),
  (RX10, yX10_names, cX10_names, 1, some .int, 0, false),
  (RX10, yX10_parts, cX10_parts, 1, some .int, 0, false),
  (RX10, yX10_cuts, cX10_cuts, 1, some .int, 0, false),
  (RX10, yX10_game, cX10_game, 2, some .int, 1, false),
  (RX10, yX10_mark, cX10_mark, 2, some .int, 1, false),
  (RX10, yX10_ride, cX10_ride, 3, some .int, 2, false),
  (RX10, yX10_change, cX10_change, 4, some .int, 3, false),
  (RX10, yX10_said, cX10_said, 3, some .int, 2, false)]
def z_MT_4 : List z_MR := [(RX10, yX10_whose, cX10_whose, 3, some .int, 0, false),
  (RX10, yX10_dearest, cX10_dearest, 4, some .int, 0, false),
  (RX10, yX10_highest, cX10_highest, 3, some .int, 0, false),
  (RX10, yX10_ledger, cX10_ledger, 4, some .int, 1, false),
  (RX10, yX10_image, cX10_image, 1, some .int, 0, false),
  (RX10, yX10_back, cX10_back, 1, some .int, 0, false),
  (RX10, yX10_about, cX10_about, 2, some .int, 1, false),
  (RX11, yX11_copy, cX11_copy, 3, none, 2, true),
  (RX11, yX11_isIn, cX11_isIn, 3, some .boolean, 3, true),
  (RX11, yX11_held, cX11_held, 4, some .int, 3, true),
  (RX11, yX11_has, cX11_has, 2, some .boolean, 2, true),
  (RX11, yX11_bits, cX11_bits, 3, some .int, 1, true),
  (RX11, yX11_apartBy, cX11_apartBy, 2, some .int, 2, true),
  (RX11, yX11_isLine, cX11_isLine, 2, some .boolean, 1, false),
  (RX11, yX11_isHalt, cX11_isHalt, 1, some .boolean, 1, true),
  (RX11, yX11_isOpen, cX11_isOpen, 2, some .boolean, 1, false),
  (RX11, yX11_one, cX11_one, 2, some .int, 1, false),
  (RX11, yX11_other, cX11_other, 2, some .int, 1, false),
  (RX11, yX11_isOn, cX11_isOn, 3, some .boolean, 2, false),
  (RX11, yX11_fareOf, cX11_fareOf, 2, some .int, 1, false),
  (RX11, yX11_openMany, cX11_openMany, 1, some .int, 0, false),
  (RX11, yX11_besideOf, cX11_besideOf, 4, some .int, 1, false),
  (RX11, yX11_areBeside, cX11_areBeside, 3, some .boolean, 2, false),
  (RX11, yX11_lay, cX11_lay, 4, some .int, 2, false),
  (RX11, yX11_four, cX11_four, 3, none, 1, false),
  (RX11, yX11_feed, cX11_feed, 6, some .int, 5, false),
  (RX11, yX11_end, cX11_end, 2, some .int, 1, false),
  (RX11, yX11_byteAt, cX11_byteAt, 2, some .int, 1, false),
  (RX11, yX11_isLetterByte, cX11_isLetterByte, 1, some .boolean, 1, true),
  (RX11, yX11_isFigure, cX11_isFigure, 1, some .boolean, 1, true),
  (RX11, yX11_isSign, cX11_isSign, 1, some .boolean, 1, true),
  (RX11, yX11_nextToken, cX11_nextToken, 2, none, 0, false),
  (RX11, yX11_w2, cX11_w2, 2, some .long, 2, true),
  (RX11, yX11_w3, cX11_w3, 3, some .long, 3, true),
  (RX11, yX11_w4, cX11_w4, 4, some .long, 4, true),
  (RX11, yX11_w5, cX11_w5, 5, some .long, 5, true),
  (RX11, yX11_w6, cX11_w6, 6, some .long, 6, true),
  (RX11, yX11_isWord, cX11_isWord, 3, some .boolean, 1, false),
  (RX11, yX11_emit, cX11_emit, 3, none, 2, false),
  (RX11, yX11_nameOf, cX11_nameOf, 1, some .int, 0, false)]
def z_MT_5 : List z_MR := [(RX11, yX11_isOf, cX11_isOf, 2, some .boolean, 1, false),
  (RX11, yX11_rank, cX11_rank, 1, some .int, 1, true),
  (RX11, yX11_settle, cX11_settle, 2, none, 1, false),
  (RX11, yX11_openAt, cX11_openAt, 2, some .int, 0, false),
  (RX11, yX11_openNow, cX11_openNow, 1, some .int, 0, false),
  (RX11, yX11_isCompared, cX11_isCompared, 2, some .boolean, 0, false),
  (RX11, yX11_isAskAhead, cX11_isAskAhead, 1, some .boolean, 0, false),
  (RX11, yX11_opened, cX11_opened, 2, some .int, 1, false),
  (RX11, yX11_beginOne, cX11_beginOne, 2, some .int, 0, false),
  (RX11, yX11_compareOf, cX11_compareOf, 1, some .int, 0, false),
  (RX11, yX11_betweenOf, cX11_betweenOf, 1, some .int, 0, false),
  (RX11, yX11_partOf, cX11_partOf, 2, some .int, 1, false),
  (RX11, yX11_behindOne, cX11_behindOne, 4, some .boolean, 0, false),
  (RX11, yX11_summed, cX11_summed, 2, some .int, 0, false),
  (RX11, yX11_figure, cX11_figure, 4, some .int, 3, false),
  (RX11, yX11_lawClause, cX11_lawClause, 3, some .int, 1, false),
  (RX11, yX11_pair, cX11_pair, 6, some .int, 3, false),
  (RX11, yX11_body, cX11_body, 3, some .int, 2, false),
  (RX11, yX11_sortOf, cX11_sortOf, 1, some .int, 0, false),
  (RX11, yX11_clause, cX11_clause, 5, some .int, 0, false),
  (RX11, yX11_readText, cX11_readText, 2, some .int, 0, false),
  (RX11, yX11_text, cX11_text, 1, some .int, 0, false),
  (RX11, yX11_fault, cX11_fault, 2, some .int, 1, false),
  (RX11, yX11_by, cX11_by, 2, some .boolean, 1, false),
  (RX11, yX11_clip, cX11_clip, 2, some .long, 1, true),
  (RX11, yX11_two, cX11_two, 5, some .long, 3, true),
  (RX11, yX11_isAsked, cX11_isAsked, 5, some .boolean, 3, true),
  (RX11, yX11_ofOne, cX11_ofOne, 4, some .long, 2, false),
  (RX11, yX11_joined, cX11_joined, 3, some .boolean, 3, true),
  (RX11, yX11_summedUp, cX11_summedUp, 10, some .long, 2, false),
  (RX11, yX11_says, cX11_says, 6, some .int, 4, false),
  (RX11, yX11_name, cX11_name, 2, none, 1, false),
  (RX11, yX11_ridesOf, cX11_ridesOf, 5, some .int, 2, false),
  (RX11, yX11_costsOf, cX11_costsOf, 3, some .int, 2, false),
  (RX11, yX11_write, cX11_write, 5, none, 3, false),
  (RX11, yX11_drawnBy, cX11_drawnBy, 3, some .int, 1, false),
  (RX11, yX11_anew, cX11_anew, 1, none, 0, false),
  (RX11, yX11_canPlate, cX11_canPlate, 3, some .boolean, 2, false),
  (RX11, yX11_plateNow, cX11_plateNow, 4, some .int, 2, false),
  (RX11, yX11_turnNow, cX11_turnNow, 2, none, 1, false)]
def z_MT_6 : List z_MR := [(RX11, yX11_canGrant, cX11_canGrant, 2, some .boolean, 1, false),
  (RX11, yX11_pass, cX11_pass, 2, none, 0, false),
  (RX11, yX11_keep, cX11_keep, 3, none, 0, false),
  (RX11, yX11_undo, cX11_undo, 3, some .int, 0, false),
  (RX11, yX11_plate, cX11_plate, 3, some .int, 2, false),
  (RX11, yX11_turn, cX11_turn, 2, some .boolean, 1, false),
  (RX11, yX11_grant, cX11_grant, 2, some .boolean, 1, false),
  (RX11, yX11_arePassed, cX11_arePassed, 3, some .boolean, 1, false),
  (RX11, yX11_day, cX11_day, 2, some .int, 1, false),
  (RX11, yX11_isPlayed, cX11_isPlayed, 4, some .boolean, 1, false),
  (RX11, yX11_played, cX11_played, 3, some .int, 1, false),
  (RX11, yX11_happens, cX11_happens, 5, none, 1, false),
  (RX11, yX11_years, cX11_years, 5, some .int, 2, false),
  (RX11, yX11_of, cX11_of, 3, some .int, 2, false),
  (RX11, yX11_ofHalt, cX11_ofHalt, 3, some .int, 2, false),
  (RX11, yX11_costs, cX11_costs, 3, some .int, 2, false),
  (RX11, yX11_is, cX11_is, 4, some .int, 1, false),
  (RX11, yX11_lineOf, cX11_lineOf, 4, some .int, 2, false),
  (RX11, yX11_book, cX11_book, 3, some .int, 2, false),
  (RX11, yX11_ledger, cX11_ledger, 4, some .int, 1, false),
  (RX11, yX11_dearest, cX11_dearest, 3, some .int, 0, false),
  (RX11, yX11_highest, cX11_highest, 3, some .int, 0, false),
  (RX11, yX11_foretold, cX11_foretold, 4, some .int, 1, false),
  (RX11, yX11_twins, cX11_twins, 3, some .int, 0, false),
  (RX11, yX11_isFair, cX11_isFair, 2, some .boolean, 0, false),
  (RX11, yX11_fair, cX11_fair, 1, some .boolean, 0, false),
  (RX11, yX11_left, cX11_left, 3, some .int, 0, false),
  (RX11, yX11_twin, cX11_twin, 3, some .int, 1, false),
  (RX11, yX11_layWho, cX11_layWho, 2, none, 0, false),
  (RX11, yX11_areUnlike, cX11_areUnlike, 5, some .boolean, 1, false),
  (RX11, yX11_isLaid, cX11_isLaid, 4, some .boolean, 2, false),
  (RX11, yX11_areOverTwo, cX11_areOverTwo, 3, some .boolean, 2, false),
  (RX11, yX11_doFit, cX11_doFit, 5, some .boolean, 3, false),
  (RX11, yX11_canLabel, cX11_canLabel, 4, some .boolean, 2, false),
  (RX11, yX11_labelled, cX11_labelled, 7, some .long, 3, false),
  (RX11, yX11_whole, cX11_whole, 2, some .int, 1, false),
  (RX11, yX11_wholes, cX11_wholes, 1, some .long, 0, false),
  (RX11, yX11_span, cX11_span, 3, some .int, 1, false),
  (RX11, yX11_apart, cX11_apart, 5, some .int, 3, false),
  (RX11, yX11_band, cX11_band, 3, some .int, 1, false)]
def z_MT_7 : List z_MR := [(RX11, yX11_labelSum, cX11_labelSum, 3, some .int, 0, false),
  (RX11, yX11_isUsed, cX11_isUsed, 4, some .boolean, 2, false),
  (RX11, yX11_total, cX11_total, 4, some .int, 0, false),
  (RX11, yX11_layOpened, cX11_layOpened, 2, none, 0, false),
  (RX11, yX11_weightAt, cX11_weightAt, 4, some .int, 1, false),
  (RX11, yX11_isDone, cX11_isDone, 4, some .boolean, 2, false),
  (RX11, yX11_isWeighed, cX11_isWeighed, 3, some .boolean, 1, false),
  (RX11, yX11_areSums, cX11_areSums, 5, some .boolean, 2, false),
  (RX11, yX11_weighed, cX11_weighed, 8, some .long, 2, false),
  (RX11, yX11_alike, cX11_alike, 2, some .int, 1, false),
  (RX11, yX11_alikes, cX11_alikes, 1, some .long, 0, false),
  (RX11, yX11_unlike, cX11_unlike, 2, some .int, 1, false),
  (RX11, yX11_isFareLaid, cX11_isFareLaid, 4, some .boolean, 3, false),
  (RX11, yX11_isFairSoFar, cX11_isFairSoFar, 6, some .boolean, 2, false),
  (RX11, yX11_isMended, cX11_isMended, 4, some .boolean, 1, false),
  (RX11, yX11_mend, cX11_mend, 3, some .int, 0, false),
  (RX11, yX11_names, cX11_names, 3, some .int, 0, false),
  (RX11, yX11_isNamed, cX11_isNamed, 3, some .boolean, 1, false),
  (RX11, yX11_comeBy, cX11_comeBy, 6, some .int, 2, false),
  (RX11, yX11_partsBy, cX11_partsBy, 5, some .int, 1, false),
  (RX11, yX11_parts, cX11_parts, 1, some .int, 0, false),
  (RX11, yX11_cuts, cX11_cuts, 3, some .int, 0, false),
  (RX11, yX11_markOf, cX11_markOf, 3, some .int, 1, false),
  (RX11, yX11_areHalts, cX11_areHalts, 1, some .boolean, 1, true),
  (RX11, yX11_markFirst, cX11_markFirst, 3, some .int, 1, false),
  (RX11, yX11_game, cX11_game, 2, some .int, 1, false),
  (RX11, yX11_mark, cX11_mark, 2, some .int, 1, false),
  (RX11, yX11_layRides, cX11_layRides, 5, none, 1, false),
  (RX11, yX11_ride, cX11_ride, 3, some .int, 2, false),
  (RX11, yX11_isNext, cX11_isNext, 4, some .boolean, 2, false),
  (RX11, yX11_change, cX11_change, 7, some .int, 3, false),
  (RX11, yX11_said, cX11_said, 3, some .int, 2, false),
  (RX11, yX11_whose, cX11_whose, 5, some .int, 0, false),
  (RX11, yX11_image, cX11_image, 1, some .int, 0, false),
  (RX11, yX11_back, cX11_back, 1, some .int, 0, false),
  (RX11, yX11_about, cX11_about, 2, some .int, 1, false),
  (RJ6, yJ6_bitCount_0f7a4, cJ6_bitCount_0f7a4, 1, some .int, 1, true),
  (RJ13, yJ13_bitCount_95d88, cJ13_bitCount_95d88, 2, some .int, 1, true)]
def z_MT : List z_MR := z_MT_0 ++ (z_MT_1 ++ (z_MT_2 ++ (z_MT_3 ++ (z_MT_4 ++ (z_MT_5 ++ (z_MT_6 ++ (z_MT_7)))))))
def z_words : String := "rides  costs  lay    to     plate  at     turn   grant  day    which  fund   open   diff   low    high   old    new    beside fare   sign   if     then   else   end    or     and    not    "
def z_TT (a b : Nat) : String × (String × (String × Bool)) := match vwCl[a]? with
  | some (_, T, _) => T b
  | none => ("", "", "", true)
def z_cn (a : Nat) : String := match vwCl[a]? with
  | some (C, _, _) => C
  | none => ""
/-- an instruction's length -/
def z_il (ins : Instr) (a : Nat) : Nat := match ins with
  | .aload _ => 2
  | .iload _ => 2
  | .lload _ => 2
  | .istore _ => 2
  | .lstore _ => 2
  | .bipush _ => 2
  | .ldc _ => 2
  | .iinc _ _ => 3
  | .sipush _ => 3
  | .ldc_w _ => 3
  | .ldc2_w _ => 3
  | .goto _ => 3
  | .ifCond _ _ => 3
  | .if_icmp _ _ => 3
  | .ifnull _ => 3
  | .getfield _ => 3
  | .putfield _ => 3
  | .invokestatic _ => 3
  | .invokevirtual _ => 3
  | .tableswitch _ _ _ _ => a
  | .lookupswitch _ _ => a
  | _ => 1
def z_prim (a : Nat) : MethodName := match a with
  | 900 => Lib.Math.max.name
  | 901 => Lib.Math.min.name
  | 902 => Lib.Math.abs.name
  | 903 => Lib.MathLoose.max_long.x
  | 904 => Lib.MathLoose.min_long.x
  | _ => arraycopyName
def z_rko (rk : Nat) (ret : Option FieldType) : Bool := match rk with
  | 0 => decide (ret = none)
  | 1 => decide (ret = some .int)
  | 2 => decide (ret = some .long)
  | 4 => decide (ret = some .boolean)
  | _ => decide (rk = 3) && (match ret with
    | some (.object _) => true
    | _ => false)
/-- what is checked of one row of a method's code -/
def z_ick (own : String) (pc : Nat) (ins : Instr) (a b : Nat) (c : Int32) (cl : Int64) (pl : Nat) : Bool := match ins with
  | .iconst n => decide (Int32.ofInt n = c)
  | .bipush n => decide ((Int8.ofInt n).toInt32 = c)
  | .sipush n => decide ((Int16.ofInt n).toInt32 = c)
  | .lconst n => decide (Int64.ofNat (n : Nat) = cl)
  | .iinc _ n => decide (Int32.ofInt n = c)
  | .ldc i => match a with
    | 0 => z_has pl (.constant own i c)
    | _ => decide (own = RX3) && Nat.beq i 150
  | .ldc_w i => Nat.beq a 0 && z_has pl (.constant own i c)
  | .ldc2_w i => z_has pl (.constantLong own i cl)
  | .goto off => decide (0 ≤ (pc : Int) + off)
  | .ifCond _ off => decide (0 ≤ (pc : Int) + off)
  | .if_icmp _ off => decide (0 ≤ (pc : Int) + off)
  | .ifnull off => decide (0 ≤ (pc : Int) + off)
  | .tableswitch d lo hi offs => decide (0 ≤ (pc : Int) + d) && (offs.toList.all (fun o => decide (0 ≤ (pc : Int) + o)) && (decide (hi = lo + offs.size - 1) && (decide (-1000 ≤ lo) && decide (hi ≤ 1000))))
  | .lookupswitch d ps => decide (0 ≤ (pc : Int) + d) && (ps.toList.all (fun o => decide (0 ≤ (pc : Int) + o.2) && (decide (-1000 ≤ o.1) && decide (o.1 ≤ 1000))) && (ps.toList.zip (ps.toList.drop 1)).all (fun (a, next) => a.1 < next.1))
  | .getfield i => Nat.blt a 12 && (Nat.blt b (z_nf a) && z_has pl (.fieldLink own i (z_TT a b).1 (z_TT a b).2.1 (z_TT a b).2.2.1))
  | .putfield i => Nat.blt a 12 && (Nat.blt b (z_nf a) && (z_has pl (.fieldLink own i (z_TT a b).1 (z_TT a b).2.1 (z_TT a b).2.2.1) && !(z_TT a b).2.2.2))
  | .invokestatic i => match Nat.blt a 900 with
    | false => Nat.blt a 907 && !(Nat.beq a 905) && z_has pl (.methodLink own i (z_prim a))
    | true => match z_MT[a]?, z_MD[a]? with
      | some (_, y, _, nL, _, na, st), some (rk, nL', _) => z_has pl (.methodLink own i y) && (st && (Nat.beq (b % 16) na && (Nat.beq (b / 16) rk && Nat.beq nL nL')))
      | _, _ => false
  | .invokevirtual i => match Nat.blt a 900 with
    | false => Nat.beq a 907 && z_has pl (.methodLink own i yJ0_charAt_5068e)
    | true => match z_MT[a]?, z_MD[a]? with
      | some (_, y, _, nL, _, na, st), some (rk, nL', _) => z_has pl (.methodLink own i y) && (!st && (Nat.beq (b % 16) na && (Nat.beq (b / 16 % 16) rk && (Nat.beq nL nL' && (Nat.blt (b / 256) 12 && decide (y.cls = z_cn (b / 256)))))))
      | _, _ => false
  | _ => true
def z_eck (own : String) (bytes : ByteArray) : List z_E → List Nat → Bool
  | [], _ => true
  | (pc, ins, a, b, _, c, cl) :: r, [] => decide (decode bytes pc = .ok (ins, z_il ins a)) && (z_ick own pc ins a b c cl 0 && z_eck own bytes r [])
  | (pc, ins, a, b, _, c, cl) :: r, pl :: ps => decide (decode bytes pc = .ok (ins, z_il ins a)) && (z_ick own pc ins a b c cl pl && z_eck own bytes r ps)
/-- what is checked of a method: places of its code, its class's word, its kind's word, of selects -/
def z_mck (M : z_MR) (D : Nat × (Nat × List z_E)) (p1 p2 p3 p4 : Nat) : Bool := match M, D with
  | (own, y, bytes, nL, ret, na, st), (rk, nL', cd) =>
    (plainName y.cls && (decide (y.cls ≠ "java/lang/invoke/MethodHandle") && (decide (y.cls ≠ "java/lang/invoke/VarHandle") && (decide ((parseMethodDescriptor y.desc).map (fun d => d.parameters.length) = some na) && (decide (own = y.cls) &&
    (Nat.beq nL nL' && (Nat.ble nL 40 && (z_rko rk ret && (z_has p1 (.code y bytes nL ret) && (z_has p2 (.initialized y.cls) &&
    (match st with
      | true => z_has p3 (.static y)
      | false => z_has p3 (.instanceMethod y) && z_has p4 (.selects y.cls y y))))))))))))
def z_pair (i : Nat) (p1 p2 p3 p4 : Nat) (ps : List Nat) : Bool := match z_MT[i]?, z_MD[i]? with
  | some M, some D => z_mck M D p1 p2 p3 p4 && z_eck M.1 M.2.2.1 D.2.2 ps
  | _, _ => false
