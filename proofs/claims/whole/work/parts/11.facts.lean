-- what the tables say of each method, link, field, number
theorem some_ite {α : Type} {P : Prop} {dP : Decidable P} (a b : α) : some (if P then a else b) = if P then some a else some b := by
  split <;> rfl
theorem j_zret {α : Type} {l : Launch} {M : MC} {K : α → Option AV × Nat × Hp} {pc n : Nat} {L S : List AV} {C : Hp} {q : Nat × Nat} {v : Int} {Xk : Bool → Option α} (k0 : v = 0 → J l M K (Xk false) pc L S n C q) (k1 : v = 1 → J l M K (Xk true) pc L S n C q) : J l M K ((zret v).bind Xk) pc L S n C q := by
  unfold zret
  by_cases h0 : v = 0
  · rw [if_pos h0]
    exact k0 h0
  · rw [if_neg h0]
    by_cases h1 : v = 1
    · rw [if_pos h1]
      exact k1 h1
    · rw [if_neg h1]
      exact j_none
theorem j_lsw {α : Type} {l : Launch} {M : MC} {K : α → Option AV × Nat × Hp} {X : Option α} {pc n : Nat} {L S : List AV} {C : Hp} {q : Nat × Nat} {dflt a off : Int} {ps : Array (Int × Int)} {len tgt : Nat} (hd : decode M.cc pc = .ok (.lookupswitch dflt ps, len)) (hp : (ps.toList.zip (ps.toList.drop 1)).all (fun (a, next) => a.1 < next.1) = true) (ho : Op.lookupswitch.offset ps.toList dflt a = off) (ht : (pc : Int) + off = (tgt : Int)) (k : J l M K X tgt L S n C q) : J l M K X pc L ((0, a) :: S) n C q := by
  intro r hr w p e R s m args below meth c H locs ls Qf cx ro rt wr vs lr rs hsz
  have ra : r32 a := rs.hd.1 rfl
  exact lv_lookup (x := I32 a) cx.1 cx.2.1 hd hp (by rw [I32_toInt ra]; exact ho) ht (k r hr w p e R s m args below meth c H locs ls Qf cx ro rt wr vs lr rs.tl hsz)
abbrev M_cTo_append : MC := (yX8_append, cX8_append, 3, (none : Option FieldType), 1, 0, 0)
abbrev M_cX_feed : MC := (yX10_feed, cX10_feed, 6, (some FieldType.int), 2, 0, 0)
abbrev M_cX_end : MC := (yX10_end, cX10_end, 2, (some FieldType.int), 1, 0, 0)
abbrev M_cNe_clear : MC := (yX2_clear, cX2_clear, 2, (none : Option FieldType), 1, 0, 0)
abbrev M_cPa_clear : MC := (yX3_clear, cX3_clear, 2, (none : Option FieldType), 2, 0, 0)
abbrev M_cSc_byteAt : MC := (yX6_byteAt, cX6_byteAt, 2, (some FieldType.int), 1, 0, 0)
abbrev M_cSc_isLetter : MC := (yX6_isLetter, cX6_isLetter, 1, (some FieldType.boolean), 1, 0, 0)
abbrev M_cSc_isDigit : MC := (yX6_isDigit, cX6_isDigit, 1, (some FieldType.boolean), 1, 0, 0)
abbrev M_cSc_moveOverDigits : MC := (yX6_moveOverDigits, cX6_moveOverDigits, 1, (none : Option FieldType), 2, 0, 0)
abbrev M_cSc_move : MC := (yX6_move, cX6_move, 1, (none : Option FieldType), 3, 0, 0)
abbrev M_cSc_spells : MC := (yX6_spells, cX6_spells, 4, (some FieldType.boolean), 5, 0, 0)
abbrev M_cSc_lineOf : MC := (yX6_lineOf, cX6_lineOf, 2, (some FieldType.int), 6, 0, 0)
abbrev M_cSc_breakOff : MC := (yX6_breakOff, cX6_breakOff, 1, (none : Option FieldType), 1, 0, 0)
abbrev M_cSc_isFull : MC := (yX6_isFull, cX6_isFull, 2, (some FieldType.boolean), 1, 0, 0)
abbrev M_cSc_note : MC := (yX6_note, cX6_note, 3, (none : Option FieldType), 1, 0, 0)
abbrev M_cSc_mayBe : MC := (yX6_mayBe, cX6_mayBe, 4, (some FieldType.boolean), 1, 0, 0)
abbrev M_cX_put : MC := (yX10_put, cX10_put, 3, (some FieldType.int), 1, 0, 0)
abbrev M_cPa_addPlace : MC := (yX3_addPlace, cX3_addPlace, 2, (none : Option FieldType), 2, 0, 0)
abbrev M_cX_isWord : MC := (yX10_isWord, cX10_isWord, 1, (some FieldType.boolean), 1, 0, 0)
abbrev M_cNe_join : MC := (yX2_join, cX2_join, 3, (none : Option FieldType), 2, 0, 0)
abbrev M_cPa_addReader : MC := (yX3_addReader, cX3_addReader, 3, (none : Option FieldType), 1, 0, 0)
abbrev M_cPa_want : MC := (yX3_want, cX3_want, 4, (none : Option FieldType), 1, 0, 0)
abbrev M_cLg_add : MC := (yX0_add, cX0_add, 3, (none : Option FieldType), 1, 0, 0)
abbrev M_cWe_add : MC := (yX9_add, cX9_add, 4, (none : Option FieldType), 1, 0, 0)
abbrev M_cSc_keep : MC := (yX6_keep, cX6_keep, 3, (none : Option FieldType), 3, 0, 0)
abbrev M_cSc_line : MC := (yX6_line, cX6_line, 5, (none : Option FieldType), 7, 0, 0)
abbrev M_cSc_take : MC := (yX6_take, cX6_take, 5, (none : Option FieldType), 8, 0, 0)
abbrev M_cNe_copy : MC := (yX2_copy, cX2_copy, 2, (none : Option FieldType), 2, 0, 0)
abbrev M_cPa_copy : MC := (yX3_copy, cX3_copy, 2, (none : Option FieldType), 3, 0, 0)
abbrev M_cWe_copy : MC := (yX9_copy, cX9_copy, 2, (none : Option FieldType), 2, 0, 0)
abbrev M_cLg_copy : MC := (yX0_copy, cX0_copy, 2, (none : Option FieldType), 2, 0, 0)
abbrev M_cTo_take : MC := (yX8_take, cX8_take, 4, (none : Option FieldType), 4, 0, 0)
abbrev M_cRw_forget : MC := (yX5_forget, cX5_forget, 1, (none : Option FieldType), 1, 0, 0)
abbrev M_cX_text : MC := (yX10_text, cX10_text, 6, (some FieldType.int), 9, 0, 0)
abbrev M_cX_fault : MC := (yX10_fault, cX10_fault, 2, (some FieldType.int), 1, 0, 0)
abbrev M_cX_count : MC := (yX10_count, cX10_count, 2, (some FieldType.int), 1, 0, 0)
abbrev M_cTo_copy : MC := (yX8_copy, cX8_copy, 3, (none : Option FieldType), 4, 0, 0)
abbrev M_cX_image : MC := (yX10_image, cX10_image, 2, (some FieldType.boolean), 5, 0, 0)
abbrev M_cX_again : MC := (yX10_again, cX10_again, 2, (some FieldType.boolean), 5, 0, 0)
abbrev M_cX_paperAt : MC := (yX10_paperAt, cX10_paperAt, 2, (some (FieldType.object "ProofLine$Paper")), 1, 0, 0)
abbrev M_cX_weekAt : MC := (yX10_weekAt, cX10_weekAt, 2, (some (FieldType.object "ProofLine$Week")), 1, 0, 0)
abbrev M_cX_logAt : MC := (yX10_logAt, cX10_logAt, 2, (some (FieldType.object "ProofLine$Log")), 1, 0, 0)
abbrev M_cX_wordAt : MC := (yX10_wordAt, cX10_wordAt, 2, (some FieldType.int), 1, 0, 0)
abbrev M_cPa_wish : MC := (yX3_wish, cX3_wish, 3, (some FieldType.int), 1, 0, 0)
abbrev M_cPa_tell : MC := (yX3_tell, cX3_tell, 4, (some FieldType.int), 2, 0, 0)
abbrev M_cX_paper : MC := (yX10_paper, cX10_paper, 4, (some FieldType.int), 3, 0, 0)
abbrev M_cX_deed : MC := (yX10_deed, cX10_deed, 5, (some FieldType.int), 2, 0, 0)
abbrev M_cX_fact : MC := (yX10_fact, cX10_fact, 5, (some FieldType.int), 2, 0, 0)
abbrev M_cSt_begin : MC := (yX7_begin, cX7_begin, 3, (none : Option FieldType), 3, 0, 0)
abbrev M_cNe_near : MC := (yX2_near, cX2_near, 3, (some FieldType.boolean), 2, 0, 0)
abbrev M_cSt_can : MC := (yX7_can, cX7_can, 5, (some FieldType.boolean), 3, 0, 0)
abbrev M_cNe_reach : MC := (yX2_reach, cX2_reach, 10, (none : Option FieldType), 1, 0, 0)
abbrev M_cNe_next : MC := (yX2_next, cX2_next, 3, (some FieldType.int), 2, 0, 0)
abbrev M_cPa_readIn : MC := (yX3_readIn, cX3_readIn, 10, (some FieldType.int), 3, 0, 0)
abbrev M_cX_unlikePlaces : MC := (yX10_unlikePlaces, cX10_unlikePlaces, 4, (some FieldType.int), 2, 0, 0)
abbrev M_jI_bitCount : MC := (yJ6_bitCount_0f7a4, cJ6_bitCount_0f7a4, 1, (some FieldType.int), 1, 0, 0)
abbrev M_cSt_read : MC := (yX7_read, cX7_read, 5, (none : Option FieldType), 4, 0, 0)
abbrev M_cNe_part : MC := (yX2_part, cX2_part, 3, (none : Option FieldType), 2, 0, 0)
abbrev M_cSt_print : MC := (yX7_print, cX7_print, 2, (none : Option FieldType), 1, 0, 0)
abbrev M_cSt_does : MC := (yX7_does, cX7_does, 4, (some FieldType.boolean), 5, 0, 0)
abbrev M_cSt_run : MC := (yX7_run, cX7_run, 5, (some FieldType.int), 6, 0, 0)
abbrev M_cX_stop : MC := (yX10_stop, cX10_stop, 5, (some FieldType.int), 7, 0, 0)
abbrev M_cPa_content : MC := (yX3_content, cX3_content, 5, (some FieldType.int), 2, 0, 0)
abbrev M_cSt_tell : MC := (yX7_tell, cX7_tell, 3, (some FieldType.int), 3, 0, 0)
abbrev M_cX_state : MC := (yX10_state, cX10_state, 7, (some FieldType.int), 7, 0, 0)
abbrev M_cSt_busiest : MC := (yX7_busiest, cX7_busiest, 3, (some FieldType.int), 1, 0, 0)
abbrev M_cX_after : MC := (yX10_after, cX10_after, 6, (some FieldType.int), 7, 0, 0)
abbrev M_cLo_below : MC := (yX1_below, cX1_below, 2, (some FieldType.int), 1, 0, 0)
abbrev M_cLo_drawDeed : MC := (yX1_drawDeed, cX1_drawDeed, 5, (none : Option FieldType), 2, 0, 0)
abbrev M_cLo_draw : MC := (yX1_draw, cX1_draw, 5, (none : Option FieldType), 3, 0, 0)
abbrev M_cSt_runWhatMay : MC := (yX7_runWhatMay, cX7_runWhatMay, 4, (none : Option FieldType), 6, 0, 0)
abbrev M_cX_drawn : MC := (yX10_drawn, cX10_drawn, 6, (some FieldType.int), 7, 0, 0)
abbrev M_cNe_between : MC := (yX2_between, cX2_between, 3, (some FieldType.int), 2, 0, 0)
abbrev M_cX_steps : MC := (yX10_steps, cX10_steps, 5, (some FieldType.int), 3, 0, 0)
abbrev M_cX_towards : MC := (yX10_towards, cX10_towards, 5, (some FieldType.int), 3, 0, 0)
abbrev M_cNe_kinOf : MC := (yX2_kinOf, cX2_kinOf, 4, (some FieldType.int), 3, 0, 0)
abbrev M_cNe_kinds : MC := (yX2_kinds, cX2_kinds, 3, (some FieldType.int), 4, 0, 0)
abbrev M_cNe_largest : MC := (yX2_largest, cX2_largest, 3, (some FieldType.int), 4, 0, 0)
abbrev M_cNe_widest : MC := (yX2_widest, cX2_widest, 4, (some FieldType.int), 3, 0, 0)
abbrev M_cNe_lone : MC := (yX2_lone, cX2_lone, 3, (some FieldType.int), 1, 0, 0)
abbrev M_cX_aroundTo : MC := (yX10_aroundTo, cX10_aroundTo, 4, (some FieldType.int), 3, 0, 0)
abbrev M_cX_bridges : MC := (yX10_bridges, cX10_bridges, 5, (some FieldType.int), 4, 0, 0)
abbrev M_cX_circle : MC := (yX10_circle, cX10_circle, 6, (some FieldType.int), 4, 0, 0)
abbrev M_cX_kin : MC := (yX10_kin, cX10_kin, 4, (some FieldType.int), 5, 0, 0)
abbrev M_cPa_readBy : MC := (yX3_readBy, cX3_readBy, 3, (some FieldType.int), 4, 0, 0)
abbrev M_cPa_contentOfAll : MC := (yX3_contentOfAll, cX3_contentOfAll, 4, (some FieldType.int), 3, 0, 0)
abbrev M_cX_standsAt : MC := (yX10_standsAt, cX10_standsAt, 4, (some FieldType.int), 2, 0, 0)
abbrev M_cX_reading : MC := (yX10_reading, cX10_reading, 6, (some FieldType.int), 5, 0, 0)
abbrev M_cRo_lap : MC := (yX4_lap, cX4_lap, 5, (some FieldType.boolean), 5, 0, 0)
abbrev M_cRo_seek : MC := (yX4_seek, cX4_seek, 3, (none : Option FieldType), 1, 0, 0)
abbrev M_cRo_run : MC := (yX4_run, cX4_run, 4, (none : Option FieldType), 6, 0, 0)
abbrev M_cX_rounds : MC := (yX10_rounds, cX10_rounds, 4, (some FieldType.int), 7, 0, 0)
abbrev M_cPa_farFrom : MC := (yX3_farFrom, cX3_farFrom, 4, (some FieldType.int), 3, 0, 0)
abbrev M_cPa_readingsOf : MC := (yX3_readingsOf, cX3_readingsOf, 5, (some FieldType.int), 5, 0, 0)
abbrev M_cPa_areRivals : MC := (yX3_areRivals, cX3_areRivals, 6, (some FieldType.boolean), 2, 0, 0)
abbrev M_cPa_rivals : MC := (yX3_rivals, cX3_rivals, 4, (some FieldType.int), 3, 0, 0)
abbrev M_cX_distance : MC := (yX10_distance, cX10_distance, 5, (some FieldType.int), 6, 0, 0)
abbrev M_cPa_idle : MC := (yX3_idle, cX3_idle, 3, (some FieldType.int), 5, 0, 0)
abbrev M_cX_better : MC := (yX10_better, cX10_better, 3, (some FieldType.int), 1, 0, 0)
abbrev M_cX_bestLast : MC := (yX10_bestLast, cX10_bestLast, 5, (some FieldType.int), 5, 0, 0)
abbrev M_cX_which : MC := (yX10_which, cX10_which, 1, (some FieldType.int), 1, 0, 0)
abbrev M_cX_howMuch : MC := (yX10_howMuch, cX10_howMuch, 1, (some FieldType.int), 1, 0, 0)
abbrev M_cX_bestSwap : MC := (yX10_bestSwap, cX10_bestSwap, 6, (some FieldType.int), 5, 0, 0)
abbrev M_cPa_round : MC := (yX3_round, cX3_round, 5, (some FieldType.int), 4, 0, 0)
abbrev M_cX_bestCouple : MC := (yX10_bestCouple, cX10_bestCouple, 5, (some FieldType.int), 5, 0, 0)
abbrev M_cX_blame : MC := (yX10_blame, cX10_blame, 6, (some FieldType.int), 5, 0, 0)
abbrev M_cX_lastWord : MC := (yX10_lastWord, cX10_lastWord, 4, (some FieldType.int), 6, 0, 0)
abbrev M_cX_clearRow : MC := (yX10_clearRow, cX10_clearRow, 2, (none : Option FieldType), 1, 0, 0)
abbrev M_cX_longestDesk : MC := (yX10_longestDesk, cX10_longestDesk, 8, (some FieldType.int), 2, 0, 0)
abbrev M_cX_deskOf : MC := (yX10_deskOf, cX10_deskOf, 6, (some FieldType.int), 1, 0, 0)
abbrev M_cX_desks : MC := (yX10_desks, cX10_desks, 10, (some FieldType.int), 3, 0, 0)
abbrev M_cPa_leadAt : MC := (yX3_leadAt, cX3_leadAt, 5, (some FieldType.int), 2, 0, 0)
abbrev M_cPa_gain : MC := (yX3_gain, cX3_gain, 6, (some FieldType.int), 3, 0, 0)
abbrev M_cX_bestLead (n : Nat) : MC := (yX10_bestLead, cX10_bestLead, 10, (some FieldType.int), 20 + n, 0, 0)
abbrev M_cX_bestPlace : MC := (yX10_bestPlace, cX10_bestPlace, 11, (some FieldType.int), 26, 0, 0)
abbrev M_cX_quarrel : MC := (yX10_quarrel, cX10_quarrel, 8, (some FieldType.int), 27, 0, 0)
abbrev M_cPa_unlikeWishes : MC := (yX3_unlikeWishes, cX3_unlikeWishes, 5, (some FieldType.int), 2, 0, 0)
abbrev M_cX_tellsApart : MC := (yX10_tellsApart, cX10_tellsApart, 4, (some FieldType.boolean), 1, 0, 0)
abbrev M_cX_signs : MC := (yX10_signs, cX10_signs, 7, (some FieldType.int), 3, 0, 0)
abbrev M_cX_mostOfRow : MC := (yX10_mostOfRow, cX10_mostOfRow, 3, (some FieldType.int), 1, 0, 0)
abbrev M_cX_vote : MC := (yX10_vote, cX10_vote, 6, (some FieldType.int), 2, 0, 0)
abbrev M_cX_atPeace : MC := (yX10_atPeace, cX10_atPeace, 4, (some FieldType.boolean), 1, 0, 0)
abbrev M_cX_peace : MC := (yX10_peace, cX10_peace, 6, (some FieldType.int), 4, 0, 0)
abbrev M_cPa_stepsToAll : MC := (yX3_stepsToAll, cX3_stepsToAll, 7, (some FieldType.int), 3, 0, 0)
abbrev M_cX_median : MC := (yX10_median, cX10_median, 9, (some FieldType.int), 4, 0, 0)
abbrev M_cX_longestRise : MC := (yX10_longestRise, cX10_longestRise, 6, (some FieldType.int), 2, 0, 0)
abbrev M_cPa_bend : MC := (yX3_bend, cX3_bend, 3, (some FieldType.int), 2, 0, 0)
abbrev M_cPa_alikeFrom : MC := (yX3_alikeFrom, cX3_alikeFrom, 4, (some FieldType.int), 2, 0, 0)
abbrev M_cPa_twice : MC := (yX3_twice, cX3_twice, 4, (some FieldType.int), 3, 0, 0)
abbrev M_cX_countWords : MC := (yX10_countWords, cX10_countWords, 4, (none : Option FieldType), 2, 0, 0)
abbrev M_cX_unlikeWords : MC := (yX10_unlikeWords, cX10_unlikeWords, 4, (some FieldType.int), 3, 0, 0)
abbrev M_cX_commonWord : MC := (yX10_commonWord, cX10_commonWord, 2, (some FieldType.int), 3, 0, 0)
abbrev M_cX_riseAt : MC := (yX10_riseAt, cX10_riseAt, 9, (some FieldType.int), 3, 0, 0)
abbrev M_cX_rise : MC := (yX10_rise, cX10_rise, 4, (some FieldType.int), 4, 0, 0)
abbrev M_cRw_keep : MC := (yX5_keep, cX5_keep, 4, (none : Option FieldType), 4, 0, 0)
abbrev M_cRw_swap : MC := (yX5_swap, cX5_swap, 4, (none : Option FieldType), 1, 0, 0)
abbrev M_cRw_turn : MC := (yX5_turn, cX5_turn, 5, (some FieldType.int), 2, 0, 0)
abbrev M_cRw_make : MC := (yX5_make, cX5_make, 6, (none : Option FieldType), 5, 0, 0)
abbrev M_cRw_mostContent : MC := (yX5_mostContent, cX5_mostContent, 3, (some FieldType.int), 1, 0, 0)
abbrev M_cRw_readerAt : MC := (yX5_readerAt, cX5_readerAt, 3, (some FieldType.int), 1, 0, 0)
abbrev M_cX_order : MC := (yX10_order, cX10_order, 5, (some FieldType.int), 6, 0, 0)
abbrev M_cLg_agrees : MC := (yX0_agrees, cX0_agrees, 4, (some FieldType.boolean), 2, 0, 0)
abbrev M_cRw_choose : MC := (yX5_choose, cX5_choose, 3, (none : Option FieldType), 3, 0, 0)
abbrev M_cRw_mostAlike : MC := (yX5_mostAlike, cX5_mostAlike, 6, (some FieldType.int), 2, 0, 0)
abbrev M_cRw_ask : MC := (yX5_ask, cX5_ask, 6, (some FieldType.int), 3, 0, 0)
abbrev M_cRw_sure : MC := (yX5_sure, cX5_sure, 4, (some FieldType.int), 2, 0, 0)
abbrev M_cX_fits : MC := (yX10_fits, cX10_fits, 7, (some FieldType.int), 6, 0, 0)
abbrev M_cRw_manyAhead : MC := (yX5_manyAhead, cX5_manyAhead, 7, (some FieldType.int), 2, 0, 0)
abbrev M_cX_inLeast : MC := (yX10_inLeast, cX10_inLeast, 12, (some FieldType.long), 1, 0, 0)
abbrev M_cX_ahead : MC := (yX10_ahead, cX10_ahead, 8, (some FieldType.int), 6, 0, 0)
abbrev M_cRw_readersAt : MC := (yX5_readersAt, cX5_readersAt, 5, (some FieldType.int), 2, 0, 0)
abbrev M_cRw_mostFitting : MC := (yX5_mostFitting, cX5_mostFitting, 3, (some FieldType.int), 1, 0, 0)
abbrev M_cRw_leastFitting : MC := (yX5_leastFitting, cX5_leastFitting, 4, (some FieldType.int), 1, 0, 0)
abbrev M_cX_firsts : MC := (yX10_firsts, cX10_firsts, 6, (some FieldType.int), 6, 0, 0)
abbrev M_cX_come : MC := (yX10_come, cX10_come, 15, (some FieldType.long), 2, 0, 0)
abbrev M_mm_isIn : MC := (yX11_isIn, cX11_isIn, 3, (some FieldType.boolean), 1, 0, 0)
abbrev M_mm_feed : MC := (yX11_feed, cX11_feed, 8, (some FieldType.int), 1, 0, 0)
abbrev M_mm_end : MC := (yX11_end, cX11_end, 2, (some FieldType.int), 1, 0, 0)
abbrev M_mm_byteAt : MC := (yX11_byteAt, cX11_byteAt, 2, (some FieldType.int), 1, 0, 0)
abbrev M_mm_isLetter : MC := (yX11_isLetter, cX11_isLetter, 1, (some FieldType.boolean), 1, 0, 0)
abbrev M_mm_isDigit : MC := (yX11_isDigit, cX11_isDigit, 1, (some FieldType.boolean), 1, 0, 0)
abbrev M_mm_four : MC := (yX11_four, cX11_four, 4, (some FieldType.long), 1, 0, 0)
abbrev M_mm_eight : MC := (yX11_eight, cX11_eight, 8, (some FieldType.long), 2, 0, 0)
abbrev M_mm_wordOf : MC := (yX11_wordOf, cX11_wordOf, 2, (some FieldType.int), 3, 0, 0)
abbrev M_mm_advance : MC := (yX11_advance, cX11_advance, 4, (none : Option FieldType), 4, 0, 0)
abbrev M_mm_ends : MC := (yX11_ends, cX11_ends, 1, (none : Option FieldType), 1, 0, 0)
abbrev M_mm_also : MC := (yX11_also, cX11_also, 3, (none : Option FieldType), 1, 0, 0)
abbrev M_mm_numbered : MC := (yX11_numbered, cX11_numbered, 4, (some FieldType.int), 5, 0, 0)
abbrev M_mm_wordIn : MC := (yX11_wordIn, cX11_wordIn, 4, (some FieldType.int), 5, 0, 0)
abbrev M_mm_endsLine : MC := (yX11_endsLine, cX11_endsLine, 1, (none : Option FieldType), 5, 0, 0)
abbrev M_mm_otherWord : MC := (yX11_otherWord, cX11_otherWord, 2, (some FieldType.int), 6, 0, 0)
abbrev M_mm_wordTold : MC := (yX11_wordTold, cX11_wordTold, 3, (none : Option FieldType), 6, 0, 0)
abbrev M_mm_nearTold : MC := (yX11_nearTold, cX11_nearTold, 3, (none : Option FieldType), 7, 0, 0)
abbrev M_mm_readerTold : MC := (yX11_readerTold, cX11_readerTold, 4, (none : Option FieldType), 6, 0, 0)
abbrev M_mm_wantTold : MC := (yX11_wantTold, cX11_wantTold, 3, (none : Option FieldType), 6, 0, 0)
abbrev M_mm_paperLine : MC := (yX11_paperLine, cX11_paperLine, 3, (none : Option FieldType), 8, 0, 0)
abbrev M_mm_weekLine : MC := (yX11_weekLine, cX11_weekLine, 6, (none : Option FieldType), 7, 0, 0)
abbrev M_mm_logLine : MC := (yX11_logLine, cX11_logLine, 4, (none : Option FieldType), 6, 0, 0)
abbrev M_mm_placeOf : MC := (yX11_placeOf, cX11_placeOf, 2, (some FieldType.int), 1, 0, 0)
abbrev M_mm_sizeOf : MC := (yX11_sizeOf, cX11_sizeOf, 1, (some FieldType.int), 1, 0, 0)
abbrev M_mm_isOf : MC := (yX11_isOf, cX11_isOf, 3, (some FieldType.boolean), 2, 0, 0)
abbrev M_mm_beginsText : MC := (yX11_beginsText, cX11_beginsText, 3, (none : Option FieldType), 2, 0, 0)
abbrev M_mm_text : MC := (yX11_text, cX11_text, 5, (some FieldType.int), 9, 0, 0)
abbrev M_mm_fault : MC := (yX11_fault, cX11_fault, 2, (some FieldType.int), 1, 0, 0)
abbrev M_mm_wordTold0 : MC := (yX11_wordTold0, cX11_wordTold0, 2, (some FieldType.int), 1, 0, 0)
abbrev M_mm_beginsProof : MC := (yX11_beginsProof, cX11_beginsProof, 2, (none : Option FieldType), 2, 0, 0)
abbrev M_mm_laysSteps : MC := (yX11_laysSteps, cX11_laysSteps, 6, (none : Option FieldType), 1, 0, 0)
abbrev M_mm_begins : MC := (yX11_begins, cX11_begins, 2, (none : Option FieldType), 3, 0, 0)
abbrev M_mm_isPaper : MC := (yX11_isPaper, cX11_isPaper, 2, (some FieldType.boolean), 4, 0, 0)
abbrev M_mm_isPlace : MC := (yX11_isPlace, cX11_isPlace, 2, (some FieldType.boolean), 2, 0, 0)
abbrev M_mm_isReader : MC := (yX11_isReader, cX11_isReader, 2, (some FieldType.boolean), 2, 0, 0)
abbrev M_mm_patienceOf : MC := (yX11_patienceOf, cX11_patienceOf, 2, (some FieldType.int), 1, 0, 0)
abbrev M_mm_daysOf : MC := (yX11_daysOf, cX11_daysOf, 2, (some FieldType.int), 1, 0, 0)
abbrev M_mm_wantOf : MC := (yX11_wantOf, cX11_wantOf, 3, (some FieldType.int), 1, 0, 0)
abbrev M_mm_paper : MC := (yX11_paper, cX11_paper, 4, (some FieldType.int), 5, 0, 0)
abbrev M_mm_areNear : MC := (yX11_areNear, cX11_areNear, 3, (some FieldType.boolean), 1, 0, 0)
abbrev M_mm_joins : MC := (yX11_joins, cX11_joins, 4, (none : Option FieldType), 2, 0, 0)
abbrev M_mm_towardsOf : MC := (yX11_towardsOf, cX11_towardsOf, 5, (some FieldType.int), 2, 0, 0)
abbrev M_mm_isWord : MC := (yX11_isWord, cX11_isWord, 1, (some FieldType.boolean), 2, 0, 0)
abbrev M_mm_steps : MC := (yX11_steps, cX11_steps, 4, (some FieldType.int), 5, 0, 0)
abbrev M_mm_towards : MC := (yX11_towards, cX11_towards, 4, (some FieldType.int), 5, 0, 0)
abbrev M_mm_putOf : MC := (yX11_putOf, cX11_putOf, 3, (some FieldType.int), 3, 0, 0)
abbrev M_mm_reads : MC := (yX11_reads, cX11_reads, 5, (some FieldType.int), 4, 0, 0)
abbrev M_mm_contentOf : MC := (yX11_contentOf, cX11_contentOf, 4, (some FieldType.int), 2, 0, 0)
abbrev M_mm_contentAll : MC := (yX11_contentAll, cX11_contentAll, 3, (some FieldType.int), 3, 0, 0)
abbrev M_mm_reading : MC := (yX11_reading, cX11_reading, 5, (some FieldType.int), 5, 0, 0)
abbrev M_mm_round : MC := (yX11_round, cX11_round, 3, (some FieldType.int), 5, 0, 0)
abbrev M_mm_isAsAt : MC := (yX11_isAsAt, cX11_isAsAt, 5, (some FieldType.boolean), 1, 0, 0)
abbrev M_mm_keeps : MC := (yX11_keeps, cX11_keeps, 4, (none : Option FieldType), 1, 0, 0)
abbrev M_mm_roundsOf : MC := (yX11_roundsOf, cX11_roundsOf, 4, (some FieldType.int), 6, 0, 0)
abbrev M_mm_rounds : MC := (yX11_rounds, cX11_rounds, 3, (some FieldType.int), 7, 0, 0)
abbrev M_mm_firstRow : MC := (yX11_firstRow, cX11_firstRow, 2, (none : Option FieldType), 1, 0, 0)
abbrev M_mm_changesPlaces : MC := (yX11_changesPlaces, cX11_changesPlaces, 4, (none : Option FieldType), 1, 0, 0)
abbrev M_mm_nextRow : MC := (yX11_nextRow, cX11_nextRow, 5, (some FieldType.boolean), 2, 0, 0)
abbrev M_mm_readsRow : MC := (yX11_readsRow, cX11_readsRow, 2, (some FieldType.int), 5, 0, 0)
abbrev M_mm_order : MC := (yX11_order, cX11_order, 7, (some FieldType.int), 6, 0, 0)
abbrev M_mm_deskOf : MC := (yX11_deskOf, cX11_deskOf, 6, (some FieldType.int), 1, 0, 0)
abbrev M_mm_longest : MC := (yX11_longest, cX11_longest, 6, (some FieldType.int), 2, 0, 0)
abbrev M_mm_desks : MC := (yX11_desks, cX11_desks, 7, (some FieldType.int), 5, 0, 0)
abbrev M_mm_laysTurn : MC := (yX11_laysTurn, cX11_laysTurn, 2, (none : Option FieldType), 1, 0, 0)
abbrev M_mm_puts : MC := (yX11_puts, cX11_puts, 4, (none : Option FieldType), 4, 0, 0)
abbrev M_mm_comesBack : MC := (yX11_comesBack, cX11_comesBack, 3, (none : Option FieldType), 1, 0, 0)
abbrev M_mm_quarrelOf : MC := (yX11_quarrelOf, cX11_quarrelOf, 7, (some FieldType.int), 5, 0, 0)
abbrev M_mm_quarrel : MC := (yX11_quarrel, cX11_quarrel, 7, (some FieldType.int), 6, 0, 0)
abbrev M_mm_bitsOf : MC := (yX11_bitsOf, cX11_bitsOf, 3, (some FieldType.int), 1, 0, 0)
abbrev M_mm_unlikeAt : MC := (yX11_unlikeAt, cX11_unlikeAt, 5, (some FieldType.int), 2, 0, 0)
abbrev M_mm_areSigns : MC := (yX11_areSigns, cX11_areSigns, 5, (some FieldType.boolean), 3, 0, 0)
abbrev M_mm_signs : MC := (yX11_signs, cX11_signs, 5, (some FieldType.int), 5, 0, 0)
abbrev M_mm_vote : MC := (yX11_vote, cX11_vote, 8, (some FieldType.int), 5, 0, 0)
abbrev M_mm_common : MC := (yX11_common, cX11_common, 10, (some FieldType.long), 1, 0, 0)
abbrev M_mm_parted : MC := (yX11_parted, cX11_parted, 5, (some FieldType.long), 2, 0, 0)
abbrev M_mm_powerOf : MC := (yX11_powerOf, cX11_powerOf, 6, (some FieldType.long), 1, 0, 0)
abbrev M_mm_come : MC := (yX11_come, cX11_come, 7, (some FieldType.long), 5, 0, 0)
abbrev M_mm_kinOf : MC := (yX11_kinOf, cX11_kinOf, 4, (some FieldType.int), 1, 0, 0)
abbrev M_mm_kinAll : MC := (yX11_kinAll, cX11_kinAll, 5, (some FieldType.int), 2, 0, 0)
abbrev M_mm_widest : MC := (yX11_widest, cX11_widest, 3, (some FieldType.int), 1, 0, 0)
abbrev M_mm_lone : MC := (yX11_lone, cX11_lone, 3, (some FieldType.int), 1, 0, 0)
abbrev M_mm_parting : MC := (yX11_parting, cX11_parting, 7, (some FieldType.int), 3, 0, 0)
abbrev M_mm_kin : MC := (yX11_kin, cX11_kin, 3, (some FieldType.int), 5, 0, 0)
abbrev M_mm_distanceOf : MC := (yX11_distanceOf, cX11_distanceOf, 5, (some FieldType.int), 2, 0, 0)
abbrev M_mm_aloneOf : MC := (yX11_aloneOf, cX11_aloneOf, 3, (some FieldType.int), 5, 0, 0)
abbrev M_mm_rivalsOf : MC := (yX11_rivalsOf, cX11_rivalsOf, 5, (some FieldType.int), 2, 0, 0)
abbrev M_mm_distance : MC := (yX11_distance, cX11_distance, 4, (some FieldType.int), 6, 0, 0)
abbrev M_mm_isPeace : MC := (yX11_isPeace, cX11_isPeace, 4, (some FieldType.boolean), 3, 0, 0)
abbrev M_mm_peace : MC := (yX11_peace, cX11_peace, 5, (some FieldType.int), 5, 0, 0)
abbrev M_mm_togetherFrom : MC := (yX11_togetherFrom, cX11_togetherFrom, 6, (some FieldType.int), 2, 0, 0)
abbrev M_mm_median : MC := (yX11_median, cX11_median, 6, (some FieldType.int), 5, 0, 0)
abbrev M_mm_laysRise : MC := (yX11_laysRise, cX11_laysRise, 4, (some FieldType.int), 1, 0, 0)
abbrev M_mm_riseAt : MC := (yX11_riseAt, cX11_riseAt, 6, (some FieldType.int), 2, 0, 0)
abbrev M_mm_bendOf : MC := (yX11_bendOf, cX11_bendOf, 3, (some FieldType.int), 1, 0, 0)
abbrev M_mm_twiceOf : MC := (yX11_twiceOf, cX11_twiceOf, 5, (some FieldType.int), 1, 0, 0)
abbrev M_mm_standsAt : MC := (yX11_standsAt, cX11_standsAt, 4, (some FieldType.int), 1, 0, 0)
abbrev M_mm_wordsOf : MC := (yX11_wordsOf, cX11_wordsOf, 5, (some FieldType.int), 2, 0, 0)
abbrev M_mm_rise : MC := (yX11_rise, cX11_rise, 3, (some FieldType.int), 5, 0, 0)
abbrev M_mm_idleOf : MC := (yX11_idleOf, cX11_idleOf, 3, (some FieldType.int), 5, 0, 0)
abbrev M_mm_lastWordOf : MC := (yX11_lastWordOf, cX11_lastWordOf, 7, (some FieldType.int), 6, 0, 0)
abbrev M_mm_swapOf : MC := (yX11_swapOf, cX11_swapOf, 7, (some FieldType.int), 6, 0, 0)
abbrev M_mm_teachOf : MC := (yX11_teachOf, cX11_teachOf, 7, (some FieldType.int), 6, 0, 0)
abbrev M_mm_lastWord : MC := (yX11_lastWord, cX11_lastWord, 3, (some FieldType.int), 7, 0, 0)
abbrev M_mm_isWeek : MC := (yX11_isWeek, cX11_isWeek, 2, (some FieldType.boolean), 3, 0, 0)
abbrev M_mm_deed : MC := (yX11_deed, cX11_deed, 4, (some FieldType.int), 4, 0, 0)
abbrev M_mm_readsDeed : MC := (yX11_readsDeed, cX11_readsDeed, 3, (some FieldType.boolean), 5, 0, 0)
abbrev M_mm_setsWord : MC := (yX11_setsWord, cX11_setsWord, 3, (some FieldType.boolean), 3, 0, 0)
abbrev M_mm_stets : MC := (yX11_stets, cX11_stets, 3, (some FieldType.boolean), 3, 0, 0)
abbrev M_mm_joinsWords : MC := (yX11_joinsWords, cX11_joinsWords, 4, (some FieldType.boolean), 3, 0, 0)
abbrev M_mm_printsAll : MC := (yX11_printsAll, cX11_printsAll, 2, (some FieldType.boolean), 2, 0, 0)
abbrev M_mm_does : MC := (yX11_does, cX11_does, 4, (some FieldType.boolean), 6, 0, 0)
abbrev M_mm_runs : MC := (yX11_runs, cX11_runs, 2, (none : Option FieldType), 7, 0, 0)
abbrev M_mm_stop : MC := (yX11_stop, cX11_stop, 3, (some FieldType.int), 8, 0, 0)
abbrev M_mm_nowOf : MC := (yX11_nowOf, cX11_nowOf, 3, (some FieldType.int), 3, 0, 0)
abbrev M_mm_state : MC := (yX11_state, cX11_state, 5, (some FieldType.int), 8, 0, 0)
abbrev M_mm_editionsOf : MC := (yX11_editionsOf, cX11_editionsOf, 7, (some FieldType.int), 1, 0, 0)
abbrev M_mm_busiestOf : MC := (yX11_busiestOf, cX11_busiestOf, 3, (some FieldType.int), 1, 0, 0)
abbrev M_mm_after : MC := (yX11_after, cX11_after, 4, (some FieldType.int), 8, 0, 0)
abbrev M_mm_isLog : MC := (yX11_isLog, cX11_isLog, 2, (some FieldType.boolean), 3, 0, 0)
abbrev M_mm_fact : MC := (yX11_fact, cX11_fact, 4, (some FieldType.int), 4, 0, 0)
abbrev M_mm_isSo : MC := (yX11_isSo, cX11_isSo, 3, (some FieldType.boolean), 3, 0, 0)
abbrev M_mm_laysNoFits : MC := (yX11_laysNoFits, cX11_laysNoFits, 2, (none : Option FieldType), 1, 0, 0)
abbrev M_mm_laysFit : MC := (yX11_laysFit, cX11_laysFit, 4, (none : Option FieldType), 1, 0, 0)
abbrev M_mm_numberOf : MC := (yX11_numberOf, cX11_numberOf, 3, (some FieldType.int), 1, 0, 0)
abbrev M_mm_laysFits : MC := (yX11_laysFits, cX11_laysFits, 5, (some FieldType.int), 6, 0, 0)
abbrev M_mm_askOf : MC := (yX11_askOf, cX11_askOf, 6, (some FieldType.int), 1, 0, 0)
abbrev M_mm_sureOf : MC := (yX11_sureOf, cX11_sureOf, 3, (some FieldType.int), 2, 0, 0)
abbrev M_mm_fits : MC := (yX11_fits, cX11_fits, 5, (some FieldType.int), 7, 0, 0)
abbrev M_mm_ahead : MC := (yX11_ahead, cX11_ahead, 6, (some FieldType.int), 7, 0, 0)
abbrev M_mm_firsts : MC := (yX11_firsts, cX11_firsts, 4, (some FieldType.int), 7, 0, 0)
abbrev M_mm_below : MC := (yX11_below, cX11_below, 2, (some FieldType.int), 1, 0, 0)
abbrev M_mm_draws : MC := (yX11_draws, cX11_draws, 5, (none : Option FieldType), 7, 0, 0)
abbrev M_mm_drawn : MC := (yX11_drawn, cX11_drawn, 6, (some FieldType.int), 8, 0, 0)
abbrev M_mm_count : MC := (yX11_count, cX11_count, 2, (some FieldType.int), 2, 0, 0)
abbrev M_mm_image : MC := (yX11_image, cX11_image, 3, (some FieldType.boolean), 2, 0, 0)
abbrev M_mm_again : MC := (yX11_again, cX11_again, 3, (some FieldType.boolean), 2, 0, 0)
abbrev M_cX_copyRow : MC := (yX10_copyRow, cX10_copyRow, 2, (none : Option FieldType), 1, 0, 0)
theorem rm_bl {n : Nat} : RmOK (M_cX_bestLead (n + 1)) (M_cX_bestLead n) := ⟨by show 20 + n + 1 ≤ 20 + (n + 1); omega, by show 8 + (M_cX_bestLead n).nL + 11 + 100 * (20 + n) ≤ 100 * (20 + (n + 1)); have : (M_cX_bestLead n).nL ≤ 60 := Nat.le_of_ble_eq_true rfl; omega⟩
theorem rm_b {n : Nat} {M' : MC} (h : M'.d ≤ 18 ∧ M'.nL ≤ 60) : RmOK (M_cX_bestLead (n + 1)) M' := ⟨by show _ ≤ 20 + (n + 1); omega, by show _ ≤ 100 * (20 + (n + 1)); omega⟩
theorem im_cTo_append : IM M_cTo_append 1 8 8 := ⟨⟨(gt_in 567 (by decide +kernel) (by decide +kernel)), (gt_in 139 (by decide +kernel) (by decide +kernel)), by decide +kernel⟩, (gt_in 565 (by decide +kernel) (by decide +kernel)), (gt_in 566 (by decide +kernel) (by decide +kernel)), ⟨_, _, cls8⟩, rfl, rfl⟩
theorem im_cX_feed : IM M_cX_feed 5 10 11 := ⟨⟨(gt_in 563 (by decide +kernel) (by decide +kernel)), (gt_in 138 (by decide +kernel) (by decide +kernel)), by decide +kernel⟩, (gt_in 561 (by decide +kernel) (by decide +kernel)), (gt_in 562 (by decide +kernel) (by decide +kernel)), ⟨_, _, cls10⟩, rfl, rfl⟩
theorem im_cX_end : IM M_cX_end 1 10 11 := ⟨⟨(gt_in 571 (by decide +kernel) (by decide +kernel)), (gt_in 138 (by decide +kernel) (by decide +kernel)), by decide +kernel⟩, (gt_in 569 (by decide +kernel) (by decide +kernel)), (gt_in 570 (by decide +kernel) (by decide +kernel)), ⟨_, _, cls10⟩, rfl, rfl⟩
theorem im_cNe_clear : IM M_cNe_clear 0 2 4 := ⟨⟨(gt_in 596 (by decide +kernel) (by decide +kernel)), (gt_in 141 (by decide +kernel) (by decide +kernel)), by decide +kernel⟩, (gt_in 594 (by decide +kernel) (by decide +kernel)), (gt_in 595 (by decide +kernel) (by decide +kernel)), ⟨_, _, cls2⟩, rfl, rfl⟩
theorem im_cPa_clear : IM M_cPa_clear 0 3 7 := ⟨⟨(gt_in 592 (by decide +kernel) (by decide +kernel)), (gt_in 140 (by decide +kernel) (by decide +kernel)), by decide +kernel⟩, (gt_in 590 (by decide +kernel) (by decide +kernel)), (gt_in 591 (by decide +kernel) (by decide +kernel)), ⟨_, _, cls3⟩, rfl, rfl⟩
theorem im_cSc_byteAt : IM M_cSc_byteAt 1 6 14 := ⟨⟨(gt_in 604 (by decide +kernel) (by decide +kernel)), (gt_in 144 (by decide +kernel) (by decide +kernel)), by decide +kernel⟩, (gt_in 603 (by decide +kernel) (by decide +kernel)), (gt_in 1 (by decide +kernel) (by decide +kernel)), ⟨_, _, cls6⟩, rfl, rfl⟩
theorem sm_cSc_isLetter : SM M_cSc_isLetter 1 := ⟨⟨(gt_in 607 (by decide +kernel) (by decide +kernel)), (gt_in 144 (by decide +kernel) (by decide +kernel)), by decide +kernel⟩, (gt_in 606 (by decide +kernel) (by decide +kernel)), rfl, rfl⟩
theorem sm_cSc_isDigit : SM M_cSc_isDigit 1 := ⟨⟨(gt_in 610 (by decide +kernel) (by decide +kernel)), (gt_in 144 (by decide +kernel) (by decide +kernel)), by decide +kernel⟩, (gt_in 609 (by decide +kernel) (by decide +kernel)), rfl, rfl⟩
theorem im_cSc_moveOverDigits : IM M_cSc_moveOverDigits 0 6 14 := ⟨⟨(gt_in 614 (by decide +kernel) (by decide +kernel)), (gt_in 144 (by decide +kernel) (by decide +kernel)), by decide +kernel⟩, (gt_in 613 (by decide +kernel) (by decide +kernel)), (gt_in 2 (by decide +kernel) (by decide +kernel)), ⟨_, _, cls6⟩, rfl, rfl⟩
theorem im_cSc_move : IM M_cSc_move 0 6 14 := ⟨⟨(gt_in 600 (by decide +kernel) (by decide +kernel)), (gt_in 144 (by decide +kernel) (by decide +kernel)), by decide +kernel⟩, (gt_in 599 (by decide +kernel) (by decide +kernel)), (gt_in 0 (by decide +kernel) (by decide +kernel)), ⟨_, _, cls6⟩, rfl, rfl⟩
theorem im_cSc_spells : IM M_cSc_spells 1 6 14 := ⟨⟨(gt_in 627 (by decide +kernel) (by decide +kernel)), (gt_in 144 (by decide +kernel) (by decide +kernel)), by decide +kernel⟩, (gt_in 626 (by decide +kernel) (by decide +kernel)), (gt_in 5 (by decide +kernel) (by decide +kernel)), ⟨_, _, cls6⟩, rfl, rfl⟩
theorem im_cSc_lineOf : IM M_cSc_lineOf 1 6 14 := ⟨⟨(gt_in 622 (by decide +kernel) (by decide +kernel)), (gt_in 144 (by decide +kernel) (by decide +kernel)), by decide +kernel⟩, (gt_in 621 (by decide +kernel) (by decide +kernel)), (gt_in 4 (by decide +kernel) (by decide +kernel)), ⟨_, _, cls6⟩, rfl, rfl⟩
theorem im_cSc_breakOff : IM M_cSc_breakOff 0 6 14 := ⟨⟨(gt_in 689 (by decide +kernel) (by decide +kernel)), (gt_in 144 (by decide +kernel) (by decide +kernel)), by decide +kernel⟩, (gt_in 688 (by decide +kernel) (by decide +kernel)), (gt_in 6 (by decide +kernel) (by decide +kernel)), ⟨_, _, cls6⟩, rfl, rfl⟩
theorem im_cSc_isFull : IM M_cSc_isFull 1 6 14 := ⟨⟨(gt_in 693 (by decide +kernel) (by decide +kernel)), (gt_in 144 (by decide +kernel) (by decide +kernel)), by decide +kernel⟩, (gt_in 692 (by decide +kernel) (by decide +kernel)), (gt_in 7 (by decide +kernel) (by decide +kernel)), ⟨_, _, cls6⟩, rfl, rfl⟩
theorem im_cSc_note : IM M_cSc_note 2 6 14 := ⟨⟨(gt_in 697 (by decide +kernel) (by decide +kernel)), (gt_in 144 (by decide +kernel) (by decide +kernel)), by decide +kernel⟩, (gt_in 696 (by decide +kernel) (by decide +kernel)), (gt_in 8 (by decide +kernel) (by decide +kernel)), ⟨_, _, cls6⟩, rfl, rfl⟩
theorem im_cSc_mayBe : IM M_cSc_mayBe 2 6 14 := ⟨⟨(gt_in 703 (by decide +kernel) (by decide +kernel)), (gt_in 144 (by decide +kernel) (by decide +kernel)), by decide +kernel⟩, (gt_in 702 (by decide +kernel) (by decide +kernel)), (gt_in 9 (by decide +kernel) (by decide +kernel)), ⟨_, _, cls6⟩, rfl, rfl⟩
theorem sm_cX_put : SM M_cX_put 3 := ⟨⟨(gt_in 716 (by decide +kernel) (by decide +kernel)), (gt_in 138 (by decide +kernel) (by decide +kernel)), by decide +kernel⟩, (gt_in 715 (by decide +kernel) (by decide +kernel)), rfl, rfl⟩
theorem im_cPa_addPlace : IM M_cPa_addPlace 1 3 7 := ⟨⟨(gt_in 713 (by decide +kernel) (by decide +kernel)), (gt_in 140 (by decide +kernel) (by decide +kernel)), by decide +kernel⟩, (gt_in 711 (by decide +kernel) (by decide +kernel)), (gt_in 712 (by decide +kernel) (by decide +kernel)), ⟨_, _, cls3⟩, rfl, rfl⟩
theorem sm_cX_isWord : SM M_cX_isWord 1 := ⟨⟨(gt_in 723 (by decide +kernel) (by decide +kernel)), (gt_in 138 (by decide +kernel) (by decide +kernel)), by decide +kernel⟩, (gt_in 722 (by decide +kernel) (by decide +kernel)), rfl, rfl⟩
theorem im_cNe_join : IM M_cNe_join 2 2 4 := ⟨⟨(gt_in 720 (by decide +kernel) (by decide +kernel)), (gt_in 141 (by decide +kernel) (by decide +kernel)), by decide +kernel⟩, (gt_in 718 (by decide +kernel) (by decide +kernel)), (gt_in 719 (by decide +kernel) (by decide +kernel)), ⟨_, _, cls2⟩, rfl, rfl⟩
theorem im_cPa_addReader : IM M_cPa_addReader 2 3 7 := ⟨⟨(gt_in 727 (by decide +kernel) (by decide +kernel)), (gt_in 140 (by decide +kernel) (by decide +kernel)), by decide +kernel⟩, (gt_in 725 (by decide +kernel) (by decide +kernel)), (gt_in 726 (by decide +kernel) (by decide +kernel)), ⟨_, _, cls3⟩, rfl, rfl⟩
theorem im_cPa_want : IM M_cPa_want 3 3 7 := ⟨⟨(gt_in 731 (by decide +kernel) (by decide +kernel)), (gt_in 140 (by decide +kernel) (by decide +kernel)), by decide +kernel⟩, (gt_in 729 (by decide +kernel) (by decide +kernel)), (gt_in 730 (by decide +kernel) (by decide +kernel)), ⟨_, _, cls3⟩, rfl, rfl⟩
theorem im_cLg_add : IM M_cLg_add 2 0 3 := ⟨⟨(gt_in 735 (by decide +kernel) (by decide +kernel)), (gt_in 143 (by decide +kernel) (by decide +kernel)), by decide +kernel⟩, (gt_in 733 (by decide +kernel) (by decide +kernel)), (gt_in 734 (by decide +kernel) (by decide +kernel)), ⟨_, _, cls0⟩, rfl, rfl⟩
theorem im_cWe_add : IM M_cWe_add 3 9 4 := ⟨⟨(gt_in 739 (by decide +kernel) (by decide +kernel)), (gt_in 142 (by decide +kernel) (by decide +kernel)), by decide +kernel⟩, (gt_in 737 (by decide +kernel) (by decide +kernel)), (gt_in 738 (by decide +kernel) (by decide +kernel)), ⟨_, _, cls9⟩, rfl, rfl⟩
theorem im_cSc_keep : IM M_cSc_keep 1 6 14 := ⟨⟨(gt_in 709 (by decide +kernel) (by decide +kernel)), (gt_in 144 (by decide +kernel) (by decide +kernel)), by decide +kernel⟩, (gt_in 708 (by decide +kernel) (by decide +kernel)), (gt_in 10 (by decide +kernel) (by decide +kernel)), ⟨_, _, cls6⟩, rfl, rfl⟩
theorem im_cSc_line : IM M_cSc_line 1 6 14 := ⟨⟨(gt_in 618 (by decide +kernel) (by decide +kernel)), (gt_in 144 (by decide +kernel) (by decide +kernel)), by decide +kernel⟩, (gt_in 617 (by decide +kernel) (by decide +kernel)), (gt_in 3 (by decide +kernel) (by decide +kernel)), ⟨_, _, cls6⟩, rfl, rfl⟩
theorem im_cSc_take : IM M_cSc_take 3 6 14 := ⟨⟨(gt_in 579 (by decide +kernel) (by decide +kernel)), (gt_in 144 (by decide +kernel) (by decide +kernel)), by decide +kernel⟩, (gt_in 577 (by decide +kernel) (by decide +kernel)), (gt_in 578 (by decide +kernel) (by decide +kernel)), ⟨_, _, cls6⟩, rfl, rfl⟩
theorem im_cNe_copy : IM M_cNe_copy 1 2 4 := ⟨⟨(gt_in 751 (by decide +kernel) (by decide +kernel)), (gt_in 141 (by decide +kernel) (by decide +kernel)), by decide +kernel⟩, (gt_in 749 (by decide +kernel) (by decide +kernel)), (gt_in 750 (by decide +kernel) (by decide +kernel)), ⟨_, _, cls2⟩, rfl, rfl⟩
theorem im_cPa_copy : IM M_cPa_copy 1 3 7 := ⟨⟨(gt_in 747 (by decide +kernel) (by decide +kernel)), (gt_in 140 (by decide +kernel) (by decide +kernel)), by decide +kernel⟩, (gt_in 745 (by decide +kernel) (by decide +kernel)), (gt_in 746 (by decide +kernel) (by decide +kernel)), ⟨_, _, cls3⟩, rfl, rfl⟩
theorem im_cWe_copy : IM M_cWe_copy 1 9 4 := ⟨⟨(gt_in 761 (by decide +kernel) (by decide +kernel)), (gt_in 142 (by decide +kernel) (by decide +kernel)), by decide +kernel⟩, (gt_in 759 (by decide +kernel) (by decide +kernel)), (gt_in 760 (by decide +kernel) (by decide +kernel)), ⟨_, _, cls9⟩, rfl, rfl⟩
theorem im_cLg_copy : IM M_cLg_copy 1 0 3 := ⟨⟨(gt_in 766 (by decide +kernel) (by decide +kernel)), (gt_in 143 (by decide +kernel) (by decide +kernel)), by decide +kernel⟩, (gt_in 764 (by decide +kernel) (by decide +kernel)), (gt_in 765 (by decide +kernel) (by decide +kernel)), ⟨_, _, cls0⟩, rfl, rfl⟩
theorem im_cTo_take : IM M_cTo_take 3 8 8 := ⟨⟨(gt_in 743 (by decide +kernel) (by decide +kernel)), (gt_in 139 (by decide +kernel) (by decide +kernel)), by decide +kernel⟩, (gt_in 741 (by decide +kernel) (by decide +kernel)), (gt_in 742 (by decide +kernel) (by decide +kernel)), ⟨_, _, cls8⟩, rfl, rfl⟩
theorem im_cRw_forget : IM M_cRw_forget 0 5 11 := ⟨⟨(gt_in 772 (by decide +kernel) (by decide +kernel)), (gt_in 148 (by decide +kernel) (by decide +kernel)), by decide +kernel⟩, (gt_in 770 (by decide +kernel) (by decide +kernel)), (gt_in 771 (by decide +kernel) (by decide +kernel)), ⟨_, _, cls5⟩, rfl, rfl⟩
theorem im_cX_text : IM M_cX_text 2 10 11 := ⟨⟨(gt_in 575 (by decide +kernel) (by decide +kernel)), (gt_in 138 (by decide +kernel) (by decide +kernel)), by decide +kernel⟩, (gt_in 573 (by decide +kernel) (by decide +kernel)), (gt_in 574 (by decide +kernel) (by decide +kernel)), ⟨_, _, cls10⟩, rfl, rfl⟩
theorem im_cX_fault : IM M_cX_fault 1 10 11 := ⟨⟨(gt_in 776 (by decide +kernel) (by decide +kernel)), (gt_in 138 (by decide +kernel) (by decide +kernel)), by decide +kernel⟩, (gt_in 774 (by decide +kernel) (by decide +kernel)), (gt_in 775 (by decide +kernel) (by decide +kernel)), ⟨_, _, cls10⟩, rfl, rfl⟩
theorem im_cX_count : IM M_cX_count 1 10 11 := ⟨⟨(gt_in 780 (by decide +kernel) (by decide +kernel)), (gt_in 138 (by decide +kernel) (by decide +kernel)), by decide +kernel⟩, (gt_in 778 (by decide +kernel) (by decide +kernel)), (gt_in 779 (by decide +kernel) (by decide +kernel)), ⟨_, _, cls10⟩, rfl, rfl⟩
theorem im_cTo_copy : IM M_cTo_copy 1 8 8 := ⟨⟨(gt_in 788 (by decide +kernel) (by decide +kernel)), (gt_in 139 (by decide +kernel) (by decide +kernel)), by decide +kernel⟩, (gt_in 786 (by decide +kernel) (by decide +kernel)), (gt_in 787 (by decide +kernel) (by decide +kernel)), ⟨_, _, cls8⟩, rfl, rfl⟩
theorem im_cX_image : IM M_cX_image 1 10 11 := ⟨⟨(gt_in 784 (by decide +kernel) (by decide +kernel)), (gt_in 138 (by decide +kernel) (by decide +kernel)), by decide +kernel⟩, (gt_in 782 (by decide +kernel) (by decide +kernel)), (gt_in 783 (by decide +kernel) (by decide +kernel)), ⟨_, _, cls10⟩, rfl, rfl⟩
theorem im_cX_again : IM M_cX_again 1 10 11 := ⟨⟨(gt_in 794 (by decide +kernel) (by decide +kernel)), (gt_in 138 (by decide +kernel) (by decide +kernel)), by decide +kernel⟩, (gt_in 792 (by decide +kernel) (by decide +kernel)), (gt_in 793 (by decide +kernel) (by decide +kernel)), ⟨_, _, cls10⟩, rfl, rfl⟩
theorem im_cX_paperAt : IM M_cX_paperAt 1 10 11 := ⟨⟨(gt_in 802 (by decide +kernel) (by decide +kernel)), (gt_in 138 (by decide +kernel) (by decide +kernel)), by decide +kernel⟩, (gt_in 801 (by decide +kernel) (by decide +kernel)), (gt_in 11 (by decide +kernel) (by decide +kernel)), ⟨_, _, cls10⟩, rfl, rfl⟩
theorem im_cX_weekAt : IM M_cX_weekAt 1 10 11 := ⟨⟨(gt_in 821 (by decide +kernel) (by decide +kernel)), (gt_in 138 (by decide +kernel) (by decide +kernel)), by decide +kernel⟩, (gt_in 820 (by decide +kernel) (by decide +kernel)), (gt_in 12 (by decide +kernel) (by decide +kernel)), ⟨_, _, cls10⟩, rfl, rfl⟩
theorem im_cX_logAt : IM M_cX_logAt 1 10 11 := ⟨⟨(gt_in 829 (by decide +kernel) (by decide +kernel)), (gt_in 138 (by decide +kernel) (by decide +kernel)), by decide +kernel⟩, (gt_in 828 (by decide +kernel) (by decide +kernel)), (gt_in 13 (by decide +kernel) (by decide +kernel)), ⟨_, _, cls10⟩, rfl, rfl⟩
theorem sm_cX_wordAt : SM M_cX_wordAt 2 := ⟨⟨(gt_in 809 (by decide +kernel) (by decide +kernel)), (gt_in 138 (by decide +kernel) (by decide +kernel)), by decide +kernel⟩, (gt_in 808 (by decide +kernel) (by decide +kernel)), rfl, rfl⟩
theorem im_cPa_wish : IM M_cPa_wish 2 3 7 := ⟨⟨(gt_in 813 (by decide +kernel) (by decide +kernel)), (gt_in 140 (by decide +kernel) (by decide +kernel)), by decide +kernel⟩, (gt_in 811 (by decide +kernel) (by decide +kernel)), (gt_in 812 (by decide +kernel) (by decide +kernel)), ⟨_, _, cls3⟩, rfl, rfl⟩
theorem im_cPa_tell : IM M_cPa_tell 1 3 7 := ⟨⟨(gt_in 806 (by decide +kernel) (by decide +kernel)), (gt_in 140 (by decide +kernel) (by decide +kernel)), by decide +kernel⟩, (gt_in 804 (by decide +kernel) (by decide +kernel)), (gt_in 805 (by decide +kernel) (by decide +kernel)), ⟨_, _, cls3⟩, rfl, rfl⟩
theorem im_cX_paper : IM M_cX_paper 2 10 11 := ⟨⟨(gt_in 798 (by decide +kernel) (by decide +kernel)), (gt_in 138 (by decide +kernel) (by decide +kernel)), by decide +kernel⟩, (gt_in 796 (by decide +kernel) (by decide +kernel)), (gt_in 797 (by decide +kernel) (by decide +kernel)), ⟨_, _, cls10⟩, rfl, rfl⟩
theorem im_cX_deed : IM M_cX_deed 3 10 11 := ⟨⟨(gt_in 817 (by decide +kernel) (by decide +kernel)), (gt_in 138 (by decide +kernel) (by decide +kernel)), by decide +kernel⟩, (gt_in 815 (by decide +kernel) (by decide +kernel)), (gt_in 816 (by decide +kernel) (by decide +kernel)), ⟨_, _, cls10⟩, rfl, rfl⟩
theorem im_cX_fact : IM M_cX_fact 3 10 11 := ⟨⟨(gt_in 825 (by decide +kernel) (by decide +kernel)), (gt_in 138 (by decide +kernel) (by decide +kernel)), by decide +kernel⟩, (gt_in 823 (by decide +kernel) (by decide +kernel)), (gt_in 824 (by decide +kernel) (by decide +kernel)), ⟨_, _, cls10⟩, rfl, rfl⟩
theorem im_cSt_begin : IM M_cSt_begin 1 7 13 := ⟨⟨(gt_in 841 (by decide +kernel) (by decide +kernel)), (gt_in 145 (by decide +kernel) (by decide +kernel)), by decide +kernel⟩, (gt_in 840 (by decide +kernel) (by decide +kernel)), (gt_in 14 (by decide +kernel) (by decide +kernel)), ⟨_, _, cls7⟩, rfl, rfl⟩
theorem im_cNe_near : IM M_cNe_near 2 2 4 := ⟨⟨(gt_in 855 (by decide +kernel) (by decide +kernel)), (gt_in 141 (by decide +kernel) (by decide +kernel)), by decide +kernel⟩, (gt_in 853 (by decide +kernel) (by decide +kernel)), (gt_in 854 (by decide +kernel) (by decide +kernel)), ⟨_, _, cls2⟩, rfl, rfl⟩
theorem im_cSt_can : IM M_cSt_can 3 7 13 := ⟨⟨(gt_in 850 (by decide +kernel) (by decide +kernel)), (gt_in 145 (by decide +kernel) (by decide +kernel)), by decide +kernel⟩, (gt_in 849 (by decide +kernel) (by decide +kernel)), (gt_in 16 (by decide +kernel) (by decide +kernel)), ⟨_, _, cls7⟩, rfl, rfl⟩
theorem im_cNe_reach : IM M_cNe_reach 1 2 4 := ⟨⟨(gt_in 871 (by decide +kernel) (by decide +kernel)), (gt_in 141 (by decide +kernel) (by decide +kernel)), by decide +kernel⟩, (gt_in 870 (by decide +kernel) (by decide +kernel)), (gt_in 18 (by decide +kernel) (by decide +kernel)), ⟨_, _, cls2⟩, rfl, rfl⟩
theorem im_cNe_next : IM M_cNe_next 2 2 4 := ⟨⟨(gt_in 867 (by decide +kernel) (by decide +kernel)), (gt_in 141 (by decide +kernel) (by decide +kernel)), by decide +kernel⟩, (gt_in 865 (by decide +kernel) (by decide +kernel)), (gt_in 866 (by decide +kernel) (by decide +kernel)), ⟨_, _, cls2⟩, rfl, rfl⟩
theorem im_cPa_readIn : IM M_cPa_readIn 4 3 7 := ⟨⟨(gt_in 863 (by decide +kernel) (by decide +kernel)), (gt_in 140 (by decide +kernel) (by decide +kernel)), by decide +kernel⟩, (gt_in 861 (by decide +kernel) (by decide +kernel)), (gt_in 862 (by decide +kernel) (by decide +kernel)), ⟨_, _, cls3⟩, rfl, rfl⟩
theorem sm_cX_unlikePlaces : SM M_cX_unlikePlaces 2 := ⟨⟨(gt_in 874 (by decide +kernel) (by decide +kernel)), (gt_in 138 (by decide +kernel) (by decide +kernel)), by decide +kernel⟩, (gt_in 873 (by decide +kernel) (by decide +kernel)), rfl, rfl⟩
theorem sm_jI_bitCount : SM M_jI_bitCount 1 := ⟨⟨(gt_in 878 (by decide +kernel) (by decide +kernel)), (gt_in 156 (by decide +kernel) (by decide +kernel)), by decide +kernel⟩, (gt_in 877 (by decide +kernel) (by decide +kernel)), rfl, rfl⟩
theorem im_cSt_read : IM M_cSt_read 1 7 13 := ⟨⟨(gt_in 859 (by decide +kernel) (by decide +kernel)), (gt_in 145 (by decide +kernel) (by decide +kernel)), by decide +kernel⟩, (gt_in 858 (by decide +kernel) (by decide +kernel)), (gt_in 17 (by decide +kernel) (by decide +kernel)), ⟨_, _, cls7⟩, rfl, rfl⟩
theorem im_cNe_part : IM M_cNe_part 2 2 4 := ⟨⟨(gt_in 887 (by decide +kernel) (by decide +kernel)), (gt_in 141 (by decide +kernel) (by decide +kernel)), by decide +kernel⟩, (gt_in 885 (by decide +kernel) (by decide +kernel)), (gt_in 886 (by decide +kernel) (by decide +kernel)), ⟨_, _, cls2⟩, rfl, rfl⟩
theorem im_cSt_print : IM M_cSt_print 0 7 13 := ⟨⟨(gt_in 891 (by decide +kernel) (by decide +kernel)), (gt_in 145 (by decide +kernel) (by decide +kernel)), by decide +kernel⟩, (gt_in 890 (by decide +kernel) (by decide +kernel)), (gt_in 19 (by decide +kernel) (by decide +kernel)), ⟨_, _, cls7⟩, rfl, rfl⟩
theorem im_cSt_does : IM M_cSt_does 3 7 13 := ⟨⟨(gt_in 846 (by decide +kernel) (by decide +kernel)), (gt_in 145 (by decide +kernel) (by decide +kernel)), by decide +kernel⟩, (gt_in 845 (by decide +kernel) (by decide +kernel)), (gt_in 15 (by decide +kernel) (by decide +kernel)), ⟨_, _, cls7⟩, rfl, rfl⟩
theorem im_cSt_run : IM M_cSt_run 3 7 13 := ⟨⟨(gt_in 837 (by decide +kernel) (by decide +kernel)), (gt_in 145 (by decide +kernel) (by decide +kernel)), by decide +kernel⟩, (gt_in 835 (by decide +kernel) (by decide +kernel)), (gt_in 836 (by decide +kernel) (by decide +kernel)), ⟨_, _, cls7⟩, rfl, rfl⟩
theorem im_cX_stop : IM M_cX_stop 2 10 11 := ⟨⟨(gt_in 833 (by decide +kernel) (by decide +kernel)), (gt_in 138 (by decide +kernel) (by decide +kernel)), by decide +kernel⟩, (gt_in 831 (by decide +kernel) (by decide +kernel)), (gt_in 832 (by decide +kernel) (by decide +kernel)), ⟨_, _, cls10⟩, rfl, rfl⟩
theorem im_cPa_content : IM M_cPa_content 2 3 7 := ⟨⟨(gt_in 904 (by decide +kernel) (by decide +kernel)), (gt_in 140 (by decide +kernel) (by decide +kernel)), by decide +kernel⟩, (gt_in 902 (by decide +kernel) (by decide +kernel)), (gt_in 903 (by decide +kernel) (by decide +kernel)), ⟨_, _, cls3⟩, rfl, rfl⟩
theorem im_cSt_tell : IM M_cSt_tell 1 7 13 := ⟨⟨(gt_in 900 (by decide +kernel) (by decide +kernel)), (gt_in 145 (by decide +kernel) (by decide +kernel)), by decide +kernel⟩, (gt_in 898 (by decide +kernel) (by decide +kernel)), (gt_in 899 (by decide +kernel) (by decide +kernel)), ⟨_, _, cls7⟩, rfl, rfl⟩
theorem im_cX_state : IM M_cX_state 4 10 11 := ⟨⟨(gt_in 896 (by decide +kernel) (by decide +kernel)), (gt_in 138 (by decide +kernel) (by decide +kernel)), by decide +kernel⟩, (gt_in 894 (by decide +kernel) (by decide +kernel)), (gt_in 895 (by decide +kernel) (by decide +kernel)), ⟨_, _, cls10⟩, rfl, rfl⟩
theorem im_cSt_busiest : IM M_cSt_busiest 0 7 13 := ⟨⟨(gt_in 912 (by decide +kernel) (by decide +kernel)), (gt_in 145 (by decide +kernel) (by decide +kernel)), by decide +kernel⟩, (gt_in 910 (by decide +kernel) (by decide +kernel)), (gt_in 911 (by decide +kernel) (by decide +kernel)), ⟨_, _, cls7⟩, rfl, rfl⟩
theorem im_cX_after : IM M_cX_after 3 10 11 := ⟨⟨(gt_in 908 (by decide +kernel) (by decide +kernel)), (gt_in 138 (by decide +kernel) (by decide +kernel)), by decide +kernel⟩, (gt_in 906 (by decide +kernel) (by decide +kernel)), (gt_in 907 (by decide +kernel) (by decide +kernel)), ⟨_, _, cls10⟩, rfl, rfl⟩
theorem im_cLo_below : IM M_cLo_below 1 1 2 := ⟨⟨(gt_in 924 (by decide +kernel) (by decide +kernel)), (gt_in 146 (by decide +kernel) (by decide +kernel)), by decide +kernel⟩, (gt_in 923 (by decide +kernel) (by decide +kernel)), (gt_in 20 (by decide +kernel) (by decide +kernel)), ⟨_, _, cls1⟩, rfl, rfl⟩
theorem im_cLo_drawDeed : IM M_cLo_drawDeed 3 1 2 := ⟨⟨(gt_in 929 (by decide +kernel) (by decide +kernel)), (gt_in 146 (by decide +kernel) (by decide +kernel)), by decide +kernel⟩, (gt_in 928 (by decide +kernel) (by decide +kernel)), (gt_in 21 (by decide +kernel) (by decide +kernel)), ⟨_, _, cls1⟩, rfl, rfl⟩
theorem im_cLo_draw : IM M_cLo_draw 3 1 2 := ⟨⟨(gt_in 920 (by decide +kernel) (by decide +kernel)), (gt_in 146 (by decide +kernel) (by decide +kernel)), by decide +kernel⟩, (gt_in 918 (by decide +kernel) (by decide +kernel)), (gt_in 919 (by decide +kernel) (by decide +kernel)), ⟨_, _, cls1⟩, rfl, rfl⟩
theorem im_cSt_runWhatMay : IM M_cSt_runWhatMay 2 7 13 := ⟨⟨(gt_in 934 (by decide +kernel) (by decide +kernel)), (gt_in 145 (by decide +kernel) (by decide +kernel)), by decide +kernel⟩, (gt_in 932 (by decide +kernel) (by decide +kernel)), (gt_in 933 (by decide +kernel) (by decide +kernel)), ⟨_, _, cls7⟩, rfl, rfl⟩
theorem im_cX_drawn : IM M_cX_drawn 4 10 11 := ⟨⟨(gt_in 916 (by decide +kernel) (by decide +kernel)), (gt_in 138 (by decide +kernel) (by decide +kernel)), by decide +kernel⟩, (gt_in 914 (by decide +kernel) (by decide +kernel)), (gt_in 915 (by decide +kernel) (by decide +kernel)), ⟨_, _, cls10⟩, rfl, rfl⟩
theorem im_cNe_between : IM M_cNe_between 2 2 4 := ⟨⟨(gt_in 942 (by decide +kernel) (by decide +kernel)), (gt_in 141 (by decide +kernel) (by decide +kernel)), by decide +kernel⟩, (gt_in 940 (by decide +kernel) (by decide +kernel)), (gt_in 941 (by decide +kernel) (by decide +kernel)), ⟨_, _, cls2⟩, rfl, rfl⟩
theorem im_cX_steps : IM M_cX_steps 3 10 11 := ⟨⟨(gt_in 938 (by decide +kernel) (by decide +kernel)), (gt_in 138 (by decide +kernel) (by decide +kernel)), by decide +kernel⟩, (gt_in 936 (by decide +kernel) (by decide +kernel)), (gt_in 937 (by decide +kernel) (by decide +kernel)), ⟨_, _, cls10⟩, rfl, rfl⟩
theorem im_cX_towards : IM M_cX_towards 3 10 11 := ⟨⟨(gt_in 946 (by decide +kernel) (by decide +kernel)), (gt_in 138 (by decide +kernel) (by decide +kernel)), by decide +kernel⟩, (gt_in 944 (by decide +kernel) (by decide +kernel)), (gt_in 945 (by decide +kernel) (by decide +kernel)), ⟨_, _, cls10⟩, rfl, rfl⟩
theorem im_cNe_kinOf : IM M_cNe_kinOf 1 2 4 := ⟨⟨(gt_in 959 (by decide +kernel) (by decide +kernel)), (gt_in 141 (by decide +kernel) (by decide +kernel)), by decide +kernel⟩, (gt_in 958 (by decide +kernel) (by decide +kernel)), (gt_in 22 (by decide +kernel) (by decide +kernel)), ⟨_, _, cls2⟩, rfl, rfl⟩
theorem im_cNe_kinds : IM M_cNe_kinds 0 2 4 := ⟨⟨(gt_in 955 (by decide +kernel) (by decide +kernel)), (gt_in 141 (by decide +kernel) (by decide +kernel)), by decide +kernel⟩, (gt_in 953 (by decide +kernel) (by decide +kernel)), (gt_in 954 (by decide +kernel) (by decide +kernel)), ⟨_, _, cls2⟩, rfl, rfl⟩
theorem im_cNe_largest : IM M_cNe_largest 0 2 4 := ⟨⟨(gt_in 964 (by decide +kernel) (by decide +kernel)), (gt_in 141 (by decide +kernel) (by decide +kernel)), by decide +kernel⟩, (gt_in 962 (by decide +kernel) (by decide +kernel)), (gt_in 963 (by decide +kernel) (by decide +kernel)), ⟨_, _, cls2⟩, rfl, rfl⟩
theorem im_cNe_widest : IM M_cNe_widest 0 2 4 := ⟨⟨(gt_in 970 (by decide +kernel) (by decide +kernel)), (gt_in 141 (by decide +kernel) (by decide +kernel)), by decide +kernel⟩, (gt_in 968 (by decide +kernel) (by decide +kernel)), (gt_in 969 (by decide +kernel) (by decide +kernel)), ⟨_, _, cls2⟩, rfl, rfl⟩
theorem im_cNe_lone : IM M_cNe_lone 0 2 4 := ⟨⟨(gt_in 974 (by decide +kernel) (by decide +kernel)), (gt_in 141 (by decide +kernel) (by decide +kernel)), by decide +kernel⟩, (gt_in 972 (by decide +kernel) (by decide +kernel)), (gt_in 973 (by decide +kernel) (by decide +kernel)), ⟨_, _, cls2⟩, rfl, rfl⟩
theorem im_cX_aroundTo : IM M_cX_aroundTo 2 10 11 := ⟨⟨(gt_in 984 (by decide +kernel) (by decide +kernel)), (gt_in 138 (by decide +kernel) (by decide +kernel)), by decide +kernel⟩, (gt_in 983 (by decide +kernel) (by decide +kernel)), (gt_in 24 (by decide +kernel) (by decide +kernel)), ⟨_, _, cls10⟩, rfl, rfl⟩
theorem im_cX_bridges : IM M_cX_bridges 1 10 11 := ⟨⟨(gt_in 978 (by decide +kernel) (by decide +kernel)), (gt_in 138 (by decide +kernel) (by decide +kernel)), by decide +kernel⟩, (gt_in 977 (by decide +kernel) (by decide +kernel)), (gt_in 23 (by decide +kernel) (by decide +kernel)), ⟨_, _, cls10⟩, rfl, rfl⟩
theorem im_cX_circle : IM M_cX_circle 1 10 11 := ⟨⟨(gt_in 990 (by decide +kernel) (by decide +kernel)), (gt_in 138 (by decide +kernel) (by decide +kernel)), by decide +kernel⟩, (gt_in 989 (by decide +kernel) (by decide +kernel)), (gt_in 25 (by decide +kernel) (by decide +kernel)), ⟨_, _, cls10⟩, rfl, rfl⟩
theorem im_cX_kin : IM M_cX_kin 2 10 11 := ⟨⟨(gt_in 951 (by decide +kernel) (by decide +kernel)), (gt_in 138 (by decide +kernel) (by decide +kernel)), by decide +kernel⟩, (gt_in 949 (by decide +kernel) (by decide +kernel)), (gt_in 950 (by decide +kernel) (by decide +kernel)), ⟨_, _, cls10⟩, rfl, rfl⟩
theorem im_cPa_readBy : IM M_cPa_readBy 2 3 7 := ⟨⟨(gt_in 998 (by decide +kernel) (by decide +kernel)), (gt_in 140 (by decide +kernel) (by decide +kernel)), by decide +kernel⟩, (gt_in 996 (by decide +kernel) (by decide +kernel)), (gt_in 997 (by decide +kernel) (by decide +kernel)), ⟨_, _, cls3⟩, rfl, rfl⟩
theorem im_cPa_contentOfAll : IM M_cPa_contentOfAll 1 3 7 := ⟨⟨(gt_in 1005 (by decide +kernel) (by decide +kernel)), (gt_in 140 (by decide +kernel) (by decide +kernel)), by decide +kernel⟩, (gt_in 1003 (by decide +kernel) (by decide +kernel)), (gt_in 1004 (by decide +kernel) (by decide +kernel)), ⟨_, _, cls3⟩, rfl, rfl⟩
theorem sm_cX_standsAt : SM M_cX_standsAt 3 := ⟨⟨(gt_in 1009 (by decide +kernel) (by decide +kernel)), (gt_in 138 (by decide +kernel) (by decide +kernel)), by decide +kernel⟩, (gt_in 1008 (by decide +kernel) (by decide +kernel)), rfl, rfl⟩
theorem im_cX_reading : IM M_cX_reading 3 10 11 := ⟨⟨(gt_in 994 (by decide +kernel) (by decide +kernel)), (gt_in 138 (by decide +kernel) (by decide +kernel)), by decide +kernel⟩, (gt_in 992 (by decide +kernel) (by decide +kernel)), (gt_in 993 (by decide +kernel) (by decide +kernel)), ⟨_, _, cls10⟩, rfl, rfl⟩
theorem im_cRo_lap : IM M_cRo_lap 1 4 4 := ⟨⟨(gt_in 1021 (by decide +kernel) (by decide +kernel)), (gt_in 147 (by decide +kernel) (by decide +kernel)), by decide +kernel⟩, (gt_in 1020 (by decide +kernel) (by decide +kernel)), (gt_in 26 (by decide +kernel) (by decide +kernel)), ⟨_, _, cls4⟩, rfl, rfl⟩
theorem im_cRo_seek : IM M_cRo_seek 1 4 4 := ⟨⟨(gt_in 1026 (by decide +kernel) (by decide +kernel)), (gt_in 147 (by decide +kernel) (by decide +kernel)), by decide +kernel⟩, (gt_in 1025 (by decide +kernel) (by decide +kernel)), (gt_in 27 (by decide +kernel) (by decide +kernel)), ⟨_, _, cls4⟩, rfl, rfl⟩
theorem im_cRo_run : IM M_cRo_run 1 4 4 := ⟨⟨(gt_in 1017 (by decide +kernel) (by decide +kernel)), (gt_in 147 (by decide +kernel) (by decide +kernel)), by decide +kernel⟩, (gt_in 1015 (by decide +kernel) (by decide +kernel)), (gt_in 1016 (by decide +kernel) (by decide +kernel)), ⟨_, _, cls4⟩, rfl, rfl⟩
theorem im_cX_rounds : IM M_cX_rounds 2 10 11 := ⟨⟨(gt_in 1013 (by decide +kernel) (by decide +kernel)), (gt_in 138 (by decide +kernel) (by decide +kernel)), by decide +kernel⟩, (gt_in 1011 (by decide +kernel) (by decide +kernel)), (gt_in 1012 (by decide +kernel) (by decide +kernel)), ⟨_, _, cls10⟩, rfl, rfl⟩
theorem im_cPa_farFrom : IM M_cPa_farFrom 1 3 7 := ⟨⟨(gt_in 1034 (by decide +kernel) (by decide +kernel)), (gt_in 140 (by decide +kernel) (by decide +kernel)), by decide +kernel⟩, (gt_in 1032 (by decide +kernel) (by decide +kernel)), (gt_in 1033 (by decide +kernel) (by decide +kernel)), ⟨_, _, cls3⟩, rfl, rfl⟩
theorem im_cPa_readingsOf : IM M_cPa_readingsOf 1 3 7 := ⟨⟨(gt_in 1040 (by decide +kernel) (by decide +kernel)), (gt_in 140 (by decide +kernel) (by decide +kernel)), by decide +kernel⟩, (gt_in 1038 (by decide +kernel) (by decide +kernel)), (gt_in 1039 (by decide +kernel) (by decide +kernel)), ⟨_, _, cls3⟩, rfl, rfl⟩
theorem im_cPa_areRivals : IM M_cPa_areRivals 2 3 7 := ⟨⟨(gt_in 1049 (by decide +kernel) (by decide +kernel)), (gt_in 140 (by decide +kernel) (by decide +kernel)), by decide +kernel⟩, (gt_in 1048 (by decide +kernel) (by decide +kernel)), (gt_in 28 (by decide +kernel) (by decide +kernel)), ⟨_, _, cls3⟩, rfl, rfl⟩
theorem im_cPa_rivals : IM M_cPa_rivals 1 3 7 := ⟨⟨(gt_in 1045 (by decide +kernel) (by decide +kernel)), (gt_in 140 (by decide +kernel) (by decide +kernel)), by decide +kernel⟩, (gt_in 1043 (by decide +kernel) (by decide +kernel)), (gt_in 1044 (by decide +kernel) (by decide +kernel)), ⟨_, _, cls3⟩, rfl, rfl⟩
theorem im_cX_distance : IM M_cX_distance 3 10 11 := ⟨⟨(gt_in 1030 (by decide +kernel) (by decide +kernel)), (gt_in 138 (by decide +kernel) (by decide +kernel)), by decide +kernel⟩, (gt_in 1028 (by decide +kernel) (by decide +kernel)), (gt_in 1029 (by decide +kernel) (by decide +kernel)), ⟨_, _, cls10⟩, rfl, rfl⟩
theorem im_cPa_idle : IM M_cPa_idle 0 3 7 := ⟨⟨(gt_in 1057 (by decide +kernel) (by decide +kernel)), (gt_in 140 (by decide +kernel) (by decide +kernel)), by decide +kernel⟩, (gt_in 1055 (by decide +kernel) (by decide +kernel)), (gt_in 1056 (by decide +kernel) (by decide +kernel)), ⟨_, _, cls3⟩, rfl, rfl⟩
theorem sm_cX_better : SM M_cX_better 3 := ⟨⟨(gt_in 1063 (by decide +kernel) (by decide +kernel)), (gt_in 138 (by decide +kernel) (by decide +kernel)), by decide +kernel⟩, (gt_in 1062 (by decide +kernel) (by decide +kernel)), rfl, rfl⟩
theorem sm_cX_bestLast : SM M_cX_bestLast 1 := ⟨⟨(gt_in 1060 (by decide +kernel) (by decide +kernel)), (gt_in 138 (by decide +kernel) (by decide +kernel)), by decide +kernel⟩, (gt_in 1059 (by decide +kernel) (by decide +kernel)), rfl, rfl⟩
theorem sm_cX_which : SM M_cX_which 1 := ⟨⟨(gt_in 1066 (by decide +kernel) (by decide +kernel)), (gt_in 138 (by decide +kernel) (by decide +kernel)), by decide +kernel⟩, (gt_in 1065 (by decide +kernel) (by decide +kernel)), rfl, rfl⟩
theorem sm_cX_howMuch : SM M_cX_howMuch 1 := ⟨⟨(gt_in 1069 (by decide +kernel) (by decide +kernel)), (gt_in 138 (by decide +kernel) (by decide +kernel)), by decide +kernel⟩, (gt_in 1068 (by decide +kernel) (by decide +kernel)), rfl, rfl⟩
theorem sm_cX_bestSwap : SM M_cX_bestSwap 1 := ⟨⟨(gt_in 1072 (by decide +kernel) (by decide +kernel)), (gt_in 138 (by decide +kernel) (by decide +kernel)), by decide +kernel⟩, (gt_in 1071 (by decide +kernel) (by decide +kernel)), rfl, rfl⟩
theorem im_cPa_round : IM M_cPa_round 2 3 7 := ⟨⟨(gt_in 1080 (by decide +kernel) (by decide +kernel)), (gt_in 140 (by decide +kernel) (by decide +kernel)), by decide +kernel⟩, (gt_in 1078 (by decide +kernel) (by decide +kernel)), (gt_in 1079 (by decide +kernel) (by decide +kernel)), ⟨_, _, cls3⟩, rfl, rfl⟩
theorem im_cX_bestCouple : IM M_cX_bestCouple 1 10 11 := ⟨⟨(gt_in 1076 (by decide +kernel) (by decide +kernel)), (gt_in 138 (by decide +kernel) (by decide +kernel)), by decide +kernel⟩, (gt_in 1075 (by decide +kernel) (by decide +kernel)), (gt_in 29 (by decide +kernel) (by decide +kernel)), ⟨_, _, cls10⟩, rfl, rfl⟩
theorem sm_cX_blame : SM M_cX_blame 2 := ⟨⟨(gt_in 1083 (by decide +kernel) (by decide +kernel)), (gt_in 138 (by decide +kernel) (by decide +kernel)), by decide +kernel⟩, (gt_in 1082 (by decide +kernel) (by decide +kernel)), rfl, rfl⟩
theorem im_cX_lastWord : IM M_cX_lastWord 2 10 11 := ⟨⟨(gt_in 1053 (by decide +kernel) (by decide +kernel)), (gt_in 138 (by decide +kernel) (by decide +kernel)), by decide +kernel⟩, (gt_in 1051 (by decide +kernel) (by decide +kernel)), (gt_in 1052 (by decide +kernel) (by decide +kernel)), ⟨_, _, cls10⟩, rfl, rfl⟩
theorem im_cX_clearRow : IM M_cX_clearRow 0 10 11 := ⟨⟨(gt_in 1095 (by decide +kernel) (by decide +kernel)), (gt_in 138 (by decide +kernel) (by decide +kernel)), by decide +kernel⟩, (gt_in 1094 (by decide +kernel) (by decide +kernel)), (gt_in 31 (by decide +kernel) (by decide +kernel)), ⟨_, _, cls10⟩, rfl, rfl⟩
theorem im_cX_longestDesk : IM M_cX_longestDesk 3 10 11 := ⟨⟨(gt_in 1091 (by decide +kernel) (by decide +kernel)), (gt_in 138 (by decide +kernel) (by decide +kernel)), by decide +kernel⟩, (gt_in 1090 (by decide +kernel) (by decide +kernel)), (gt_in 30 (by decide +kernel) (by decide +kernel)), ⟨_, _, cls10⟩, rfl, rfl⟩
theorem sm_cX_deskOf : SM M_cX_deskOf 4 := ⟨⟨(gt_in 1099 (by decide +kernel) (by decide +kernel)), (gt_in 138 (by decide +kernel) (by decide +kernel)), by decide +kernel⟩, (gt_in 1098 (by decide +kernel) (by decide +kernel)), rfl, rfl⟩
theorem im_cX_desks : IM M_cX_desks 3 10 11 := ⟨⟨(gt_in 1087 (by decide +kernel) (by decide +kernel)), (gt_in 138 (by decide +kernel) (by decide +kernel)), by decide +kernel⟩, (gt_in 1085 (by decide +kernel) (by decide +kernel)), (gt_in 1086 (by decide +kernel) (by decide +kernel)), ⟨_, _, cls10⟩, rfl, rfl⟩
theorem im_cPa_leadAt : IM M_cPa_leadAt 4 3 7 := ⟨⟨(gt_in 1116 (by decide +kernel) (by decide +kernel)), (gt_in 140 (by decide +kernel) (by decide +kernel)), by decide +kernel⟩, (gt_in 1115 (by decide +kernel) (by decide +kernel)), (gt_in 32 (by decide +kernel) (by decide +kernel)), ⟨_, _, cls3⟩, rfl, rfl⟩
theorem im_cPa_gain : IM M_cPa_gain 5 3 7 := ⟨⟨(gt_in 1112 (by decide +kernel) (by decide +kernel)), (gt_in 140 (by decide +kernel) (by decide +kernel)), by decide +kernel⟩, (gt_in 1110 (by decide +kernel) (by decide +kernel)), (gt_in 1111 (by decide +kernel) (by decide +kernel)), ⟨_, _, cls3⟩, rfl, rfl⟩
theorem sm_cX_bestLead0 : SM (M_cX_bestLead 0) 6 := ⟨⟨(gt_in 1107 (by decide +kernel) (by decide +kernel)), (gt_in 138 (by decide +kernel) (by decide +kernel)), by decide +kernel⟩, (gt_in 1106 (by decide +kernel) (by decide +kernel)), rfl, rfl⟩
theorem sm_cX_bestLead (n : Nat) : SM (M_cX_bestLead n) 6 := sm_cX_bestLead0
theorem sm_cX_bestPlace : SM M_cX_bestPlace 5 := ⟨⟨(gt_in 1120 (by decide +kernel) (by decide +kernel)), (gt_in 138 (by decide +kernel) (by decide +kernel)), by decide +kernel⟩, (gt_in 1119 (by decide +kernel) (by decide +kernel)), rfl, rfl⟩
theorem im_cX_quarrel : IM M_cX_quarrel 5 10 11 := ⟨⟨(gt_in 1103 (by decide +kernel) (by decide +kernel)), (gt_in 138 (by decide +kernel) (by decide +kernel)), by decide +kernel⟩, (gt_in 1101 (by decide +kernel) (by decide +kernel)), (gt_in 1102 (by decide +kernel) (by decide +kernel)), ⟨_, _, cls10⟩, rfl, rfl⟩
theorem im_cPa_unlikeWishes : IM M_cPa_unlikeWishes 2 3 7 := ⟨⟨(gt_in 1128 (by decide +kernel) (by decide +kernel)), (gt_in 140 (by decide +kernel) (by decide +kernel)), by decide +kernel⟩, (gt_in 1126 (by decide +kernel) (by decide +kernel)), (gt_in 1127 (by decide +kernel) (by decide +kernel)), ⟨_, _, cls3⟩, rfl, rfl⟩
theorem im_cX_tellsApart : IM M_cX_tellsApart 2 10 11 := ⟨⟨(gt_in 1132 (by decide +kernel) (by decide +kernel)), (gt_in 138 (by decide +kernel) (by decide +kernel)), by decide +kernel⟩, (gt_in 1131 (by decide +kernel) (by decide +kernel)), (gt_in 33 (by decide +kernel) (by decide +kernel)), ⟨_, _, cls10⟩, rfl, rfl⟩
theorem im_cX_signs : IM M_cX_signs 2 10 11 := ⟨⟨(gt_in 1124 (by decide +kernel) (by decide +kernel)), (gt_in 138 (by decide +kernel) (by decide +kernel)), by decide +kernel⟩, (gt_in 1122 (by decide +kernel) (by decide +kernel)), (gt_in 1123 (by decide +kernel) (by decide +kernel)), ⟨_, _, cls10⟩, rfl, rfl⟩
theorem im_cX_mostOfRow : IM M_cX_mostOfRow 0 10 11 := ⟨⟨(gt_in 1140 (by decide +kernel) (by decide +kernel)), (gt_in 138 (by decide +kernel) (by decide +kernel)), by decide +kernel⟩, (gt_in 1139 (by decide +kernel) (by decide +kernel)), (gt_in 34 (by decide +kernel) (by decide +kernel)), ⟨_, _, cls10⟩, rfl, rfl⟩
theorem im_cX_vote : IM M_cX_vote 2 10 11 := ⟨⟨(gt_in 1136 (by decide +kernel) (by decide +kernel)), (gt_in 138 (by decide +kernel) (by decide +kernel)), by decide +kernel⟩, (gt_in 1134 (by decide +kernel) (by decide +kernel)), (gt_in 1135 (by decide +kernel) (by decide +kernel)), ⟨_, _, cls10⟩, rfl, rfl⟩
theorem im_cX_atPeace : IM M_cX_atPeace 2 10 11 := ⟨⟨(gt_in 1148 (by decide +kernel) (by decide +kernel)), (gt_in 138 (by decide +kernel) (by decide +kernel)), by decide +kernel⟩, (gt_in 1147 (by decide +kernel) (by decide +kernel)), (gt_in 35 (by decide +kernel) (by decide +kernel)), ⟨_, _, cls10⟩, rfl, rfl⟩
theorem im_cX_peace : IM M_cX_peace 2 10 11 := ⟨⟨(gt_in 1144 (by decide +kernel) (by decide +kernel)), (gt_in 138 (by decide +kernel) (by decide +kernel)), by decide +kernel⟩, (gt_in 1142 (by decide +kernel) (by decide +kernel)), (gt_in 1143 (by decide +kernel) (by decide +kernel)), ⟨_, _, cls10⟩, rfl, rfl⟩
theorem im_cPa_stepsToAll : IM M_cPa_stepsToAll 2 3 7 := ⟨⟨(gt_in 1156 (by decide +kernel) (by decide +kernel)), (gt_in 140 (by decide +kernel) (by decide +kernel)), by decide +kernel⟩, (gt_in 1154 (by decide +kernel) (by decide +kernel)), (gt_in 1155 (by decide +kernel) (by decide +kernel)), ⟨_, _, cls3⟩, rfl, rfl⟩
theorem im_cX_median : IM M_cX_median 3 10 11 := ⟨⟨(gt_in 1152 (by decide +kernel) (by decide +kernel)), (gt_in 138 (by decide +kernel) (by decide +kernel)), by decide +kernel⟩, (gt_in 1150 (by decide +kernel) (by decide +kernel)), (gt_in 1151 (by decide +kernel) (by decide +kernel)), ⟨_, _, cls10⟩, rfl, rfl⟩
theorem im_cX_longestRise : IM M_cX_longestRise 1 10 11 := ⟨⟨(gt_in 1164 (by decide +kernel) (by decide +kernel)), (gt_in 138 (by decide +kernel) (by decide +kernel)), by decide +kernel⟩, (gt_in 1163 (by decide +kernel) (by decide +kernel)), (gt_in 36 (by decide +kernel) (by decide +kernel)), ⟨_, _, cls10⟩, rfl, rfl⟩
theorem im_cPa_bend : IM M_cPa_bend 0 3 7 := ⟨⟨(gt_in 1168 (by decide +kernel) (by decide +kernel)), (gt_in 140 (by decide +kernel) (by decide +kernel)), by decide +kernel⟩, (gt_in 1166 (by decide +kernel) (by decide +kernel)), (gt_in 1167 (by decide +kernel) (by decide +kernel)), ⟨_, _, cls3⟩, rfl, rfl⟩
theorem im_cPa_alikeFrom : IM M_cPa_alikeFrom 2 3 7 := ⟨⟨(gt_in 1176 (by decide +kernel) (by decide +kernel)), (gt_in 140 (by decide +kernel) (by decide +kernel)), by decide +kernel⟩, (gt_in 1175 (by decide +kernel) (by decide +kernel)), (gt_in 37 (by decide +kernel) (by decide +kernel)), ⟨_, _, cls3⟩, rfl, rfl⟩
theorem im_cPa_twice : IM M_cPa_twice 0 3 7 := ⟨⟨(gt_in 1172 (by decide +kernel) (by decide +kernel)), (gt_in 140 (by decide +kernel) (by decide +kernel)), by decide +kernel⟩, (gt_in 1170 (by decide +kernel) (by decide +kernel)), (gt_in 1171 (by decide +kernel) (by decide +kernel)), ⟨_, _, cls3⟩, rfl, rfl⟩
theorem im_cX_countWords : IM M_cX_countWords 1 10 11 := ⟨⟨(gt_in 1184 (by decide +kernel) (by decide +kernel)), (gt_in 138 (by decide +kernel) (by decide +kernel)), by decide +kernel⟩, (gt_in 1183 (by decide +kernel) (by decide +kernel)), (gt_in 39 (by decide +kernel) (by decide +kernel)), ⟨_, _, cls10⟩, rfl, rfl⟩
theorem im_cX_unlikeWords : IM M_cX_unlikeWords 1 10 11 := ⟨⟨(gt_in 1180 (by decide +kernel) (by decide +kernel)), (gt_in 138 (by decide +kernel) (by decide +kernel)), by decide +kernel⟩, (gt_in 1179 (by decide +kernel) (by decide +kernel)), (gt_in 38 (by decide +kernel) (by decide +kernel)), ⟨_, _, cls10⟩, rfl, rfl⟩
theorem im_cX_commonWord : IM M_cX_commonWord 1 10 11 := ⟨⟨(gt_in 1188 (by decide +kernel) (by decide +kernel)), (gt_in 138 (by decide +kernel) (by decide +kernel)), by decide +kernel⟩, (gt_in 1187 (by decide +kernel) (by decide +kernel)), (gt_in 40 (by decide +kernel) (by decide +kernel)), ⟨_, _, cls10⟩, rfl, rfl⟩
theorem im_cX_riseAt : IM M_cX_riseAt 2 10 11 := ⟨⟨(gt_in 1192 (by decide +kernel) (by decide +kernel)), (gt_in 138 (by decide +kernel) (by decide +kernel)), by decide +kernel⟩, (gt_in 1191 (by decide +kernel) (by decide +kernel)), (gt_in 41 (by decide +kernel) (by decide +kernel)), ⟨_, _, cls10⟩, rfl, rfl⟩
theorem im_cX_rise : IM M_cX_rise 2 10 11 := ⟨⟨(gt_in 1160 (by decide +kernel) (by decide +kernel)), (gt_in 138 (by decide +kernel) (by decide +kernel)), by decide +kernel⟩, (gt_in 1158 (by decide +kernel) (by decide +kernel)), (gt_in 1159 (by decide +kernel) (by decide +kernel)), ⟨_, _, cls10⟩, rfl, rfl⟩
theorem im_cRw_keep : IM M_cRw_keep 1 5 11 := ⟨⟨(gt_in 1206 (by decide +kernel) (by decide +kernel)), (gt_in 148 (by decide +kernel) (by decide +kernel)), by decide +kernel⟩, (gt_in 1205 (by decide +kernel) (by decide +kernel)), (gt_in 42 (by decide +kernel) (by decide +kernel)), ⟨_, _, cls5⟩, rfl, rfl⟩
theorem im_cRw_swap : IM M_cRw_swap 2 5 11 := ⟨⟨(gt_in 1215 (by decide +kernel) (by decide +kernel)), (gt_in 148 (by decide +kernel) (by decide +kernel)), by decide +kernel⟩, (gt_in 1214 (by decide +kernel) (by decide +kernel)), (gt_in 44 (by decide +kernel) (by decide +kernel)), ⟨_, _, cls5⟩, rfl, rfl⟩
theorem im_cRw_turn : IM M_cRw_turn 0 5 11 := ⟨⟨(gt_in 1211 (by decide +kernel) (by decide +kernel)), (gt_in 148 (by decide +kernel) (by decide +kernel)), by decide +kernel⟩, (gt_in 1210 (by decide +kernel) (by decide +kernel)), (gt_in 43 (by decide +kernel) (by decide +kernel)), ⟨_, _, cls5⟩, rfl, rfl⟩
theorem im_cRw_make : IM M_cRw_make 2 5 11 := ⟨⟨(gt_in 1200 (by decide +kernel) (by decide +kernel)), (gt_in 148 (by decide +kernel) (by decide +kernel)), by decide +kernel⟩, (gt_in 1198 (by decide +kernel) (by decide +kernel)), (gt_in 1199 (by decide +kernel) (by decide +kernel)), ⟨_, _, cls5⟩, rfl, rfl⟩
theorem im_cRw_mostContent : IM M_cRw_mostContent 0 5 11 := ⟨⟨(gt_in 1219 (by decide +kernel) (by decide +kernel)), (gt_in 148 (by decide +kernel) (by decide +kernel)), by decide +kernel⟩, (gt_in 1217 (by decide +kernel) (by decide +kernel)), (gt_in 1218 (by decide +kernel) (by decide +kernel)), ⟨_, _, cls5⟩, rfl, rfl⟩
theorem im_cRw_readerAt : IM M_cRw_readerAt 2 5 11 := ⟨⟨(gt_in 1223 (by decide +kernel) (by decide +kernel)), (gt_in 148 (by decide +kernel) (by decide +kernel)), by decide +kernel⟩, (gt_in 1221 (by decide +kernel) (by decide +kernel)), (gt_in 1222 (by decide +kernel) (by decide +kernel)), ⟨_, _, cls5⟩, rfl, rfl⟩
theorem im_cX_order : IM M_cX_order 2 10 11 := ⟨⟨(gt_in 1196 (by decide +kernel) (by decide +kernel)), (gt_in 138 (by decide +kernel) (by decide +kernel)), by decide +kernel⟩, (gt_in 1194 (by decide +kernel) (by decide +kernel)), (gt_in 1195 (by decide +kernel) (by decide +kernel)), ⟨_, _, cls10⟩, rfl, rfl⟩
theorem im_cLg_agrees : IM M_cLg_agrees 2 0 3 := ⟨⟨(gt_in 1237 (by decide +kernel) (by decide +kernel)), (gt_in 143 (by decide +kernel) (by decide +kernel)), by decide +kernel⟩, (gt_in 1235 (by decide +kernel) (by decide +kernel)), (gt_in 1236 (by decide +kernel) (by decide +kernel)), ⟨_, _, cls0⟩, rfl, rfl⟩
theorem im_cRw_choose : IM M_cRw_choose 1 5 11 := ⟨⟨(gt_in 1233 (by decide +kernel) (by decide +kernel)), (gt_in 148 (by decide +kernel) (by decide +kernel)), by decide +kernel⟩, (gt_in 1231 (by decide +kernel) (by decide +kernel)), (gt_in 1232 (by decide +kernel) (by decide +kernel)), ⟨_, _, cls5⟩, rfl, rfl⟩
theorem im_cRw_mostAlike : IM M_cRw_mostAlike 2 5 11 := ⟨⟨(gt_in 1246 (by decide +kernel) (by decide +kernel)), (gt_in 148 (by decide +kernel) (by decide +kernel)), by decide +kernel⟩, (gt_in 1245 (by decide +kernel) (by decide +kernel)), (gt_in 45 (by decide +kernel) (by decide +kernel)), ⟨_, _, cls5⟩, rfl, rfl⟩
theorem im_cRw_ask : IM M_cRw_ask 1 5 11 := ⟨⟨(gt_in 1242 (by decide +kernel) (by decide +kernel)), (gt_in 148 (by decide +kernel) (by decide +kernel)), by decide +kernel⟩, (gt_in 1240 (by decide +kernel) (by decide +kernel)), (gt_in 1241 (by decide +kernel) (by decide +kernel)), ⟨_, _, cls5⟩, rfl, rfl⟩
theorem im_cRw_sure : IM M_cRw_sure 1 5 11 := ⟨⟨(gt_in 1252 (by decide +kernel) (by decide +kernel)), (gt_in 148 (by decide +kernel) (by decide +kernel)), by decide +kernel⟩, (gt_in 1250 (by decide +kernel) (by decide +kernel)), (gt_in 1251 (by decide +kernel) (by decide +kernel)), ⟨_, _, cls5⟩, rfl, rfl⟩
theorem im_cX_fits : IM M_cX_fits 3 10 11 := ⟨⟨(gt_in 1229 (by decide +kernel) (by decide +kernel)), (gt_in 138 (by decide +kernel) (by decide +kernel)), by decide +kernel⟩, (gt_in 1227 (by decide +kernel) (by decide +kernel)), (gt_in 1228 (by decide +kernel) (by decide +kernel)), ⟨_, _, cls10⟩, rfl, rfl⟩
theorem im_cRw_manyAhead : IM M_cRw_manyAhead 2 5 11 := ⟨⟨(gt_in 1261 (by decide +kernel) (by decide +kernel)), (gt_in 148 (by decide +kernel) (by decide +kernel)), by decide +kernel⟩, (gt_in 1259 (by decide +kernel) (by decide +kernel)), (gt_in 1260 (by decide +kernel) (by decide +kernel)), ⟨_, _, cls5⟩, rfl, rfl⟩
theorem sm_cX_inLeast : SM M_cX_inLeast 3 := ⟨⟨(gt_in 1264 (by decide +kernel) (by decide +kernel)), (gt_in 138 (by decide +kernel) (by decide +kernel)), by decide +kernel⟩, (gt_in 1263 (by decide +kernel) (by decide +kernel)), rfl, rfl⟩
theorem im_cX_ahead : IM M_cX_ahead 5 10 11 := ⟨⟨(gt_in 1257 (by decide +kernel) (by decide +kernel)), (gt_in 138 (by decide +kernel) (by decide +kernel)), by decide +kernel⟩, (gt_in 1255 (by decide +kernel) (by decide +kernel)), (gt_in 1256 (by decide +kernel) (by decide +kernel)), ⟨_, _, cls10⟩, rfl, rfl⟩
theorem im_cRw_readersAt : IM M_cRw_readersAt 1 5 11 := ⟨⟨(gt_in 1272 (by decide +kernel) (by decide +kernel)), (gt_in 148 (by decide +kernel) (by decide +kernel)), by decide +kernel⟩, (gt_in 1270 (by decide +kernel) (by decide +kernel)), (gt_in 1271 (by decide +kernel) (by decide +kernel)), ⟨_, _, cls5⟩, rfl, rfl⟩
theorem im_cRw_mostFitting : IM M_cRw_mostFitting 0 5 11 := ⟨⟨(gt_in 1276 (by decide +kernel) (by decide +kernel)), (gt_in 148 (by decide +kernel) (by decide +kernel)), by decide +kernel⟩, (gt_in 1274 (by decide +kernel) (by decide +kernel)), (gt_in 1275 (by decide +kernel) (by decide +kernel)), ⟨_, _, cls5⟩, rfl, rfl⟩
theorem im_cRw_leastFitting : IM M_cRw_leastFitting 0 5 11 := ⟨⟨(gt_in 1280 (by decide +kernel) (by decide +kernel)), (gt_in 148 (by decide +kernel) (by decide +kernel)), by decide +kernel⟩, (gt_in 1278 (by decide +kernel) (by decide +kernel)), (gt_in 1279 (by decide +kernel) (by decide +kernel)), ⟨_, _, cls5⟩, rfl, rfl⟩
theorem im_cX_firsts : IM M_cX_firsts 3 10 11 := ⟨⟨(gt_in 1268 (by decide +kernel) (by decide +kernel)), (gt_in 138 (by decide +kernel) (by decide +kernel)), by decide +kernel⟩, (gt_in 1266 (by decide +kernel) (by decide +kernel)), (gt_in 1267 (by decide +kernel) (by decide +kernel)), ⟨_, _, cls10⟩, rfl, rfl⟩
theorem im_cX_come : IM M_cX_come 4 10 11 := ⟨⟨(gt_in 1284 (by decide +kernel) (by decide +kernel)), (gt_in 138 (by decide +kernel) (by decide +kernel)), by decide +kernel⟩, (gt_in 1282 (by decide +kernel) (by decide +kernel)), (gt_in 1283 (by decide +kernel) (by decide +kernel)), ⟨_, _, cls10⟩, rfl, rfl⟩
theorem sm_mm_isIn : SM M_mm_isIn 3 := ⟨⟨(gt_in 1449 (by decide +kernel) (by decide +kernel)), (gt_in 149 (by decide +kernel) (by decide +kernel)), by decide +kernel⟩, (gt_in 1448 (by decide +kernel) (by decide +kernel)), rfl, rfl⟩
theorem im_mm_feed : IM M_mm_feed 5 11 47 := ⟨⟨(gt_in 1438 (by decide +kernel) (by decide +kernel)), (gt_in 149 (by decide +kernel) (by decide +kernel)), by decide +kernel⟩, (gt_in 1436 (by decide +kernel) (by decide +kernel)), (gt_in 1437 (by decide +kernel) (by decide +kernel)), ⟨_, _, cls11⟩, rfl, rfl⟩
theorem im_mm_end : IM M_mm_end 1 11 47 := ⟨⟨(gt_in 1442 (by decide +kernel) (by decide +kernel)), (gt_in 149 (by decide +kernel) (by decide +kernel)), by decide +kernel⟩, (gt_in 1440 (by decide +kernel) (by decide +kernel)), (gt_in 1441 (by decide +kernel) (by decide +kernel)), ⟨_, _, cls11⟩, rfl, rfl⟩
theorem im_mm_byteAt : IM M_mm_byteAt 1 11 47 := ⟨⟨(gt_in 1465 (by decide +kernel) (by decide +kernel)), (gt_in 149 (by decide +kernel) (by decide +kernel)), by decide +kernel⟩, (gt_in 1464 (by decide +kernel) (by decide +kernel)), (gt_in 49 (by decide +kernel) (by decide +kernel)), ⟨_, _, cls11⟩, rfl, rfl⟩
theorem sm_mm_isLetter : SM M_mm_isLetter 1 := ⟨⟨(gt_in 1468 (by decide +kernel) (by decide +kernel)), (gt_in 149 (by decide +kernel) (by decide +kernel)), by decide +kernel⟩, (gt_in 1467 (by decide +kernel) (by decide +kernel)), rfl, rfl⟩
theorem sm_mm_isDigit : SM M_mm_isDigit 1 := ⟨⟨(gt_in 1483 (by decide +kernel) (by decide +kernel)), (gt_in 149 (by decide +kernel) (by decide +kernel)), by decide +kernel⟩, (gt_in 1482 (by decide +kernel) (by decide +kernel)), rfl, rfl⟩
theorem sm_mm_four : SM M_mm_four 4 := ⟨⟨(gt_in 1476 (by decide +kernel) (by decide +kernel)), (gt_in 149 (by decide +kernel) (by decide +kernel)), by decide +kernel⟩, (gt_in 1475 (by decide +kernel) (by decide +kernel)), rfl, rfl⟩
theorem sm_mm_eight : SM M_mm_eight 8 := ⟨⟨(gt_in 1479 (by decide +kernel) (by decide +kernel)), (gt_in 149 (by decide +kernel) (by decide +kernel)), by decide +kernel⟩, (gt_in 1478 (by decide +kernel) (by decide +kernel)), rfl, rfl⟩
theorem sm_mm_wordOf : SM M_mm_wordOf 1 := ⟨⟨(gt_in 1473 (by decide +kernel) (by decide +kernel)), (gt_in 149 (by decide +kernel) (by decide +kernel)), by decide +kernel⟩, (gt_in 1472 (by decide +kernel) (by decide +kernel)), rfl, rfl⟩
theorem im_mm_advance : IM M_mm_advance 0 11 47 := ⟨⟨(gt_in 1461 (by decide +kernel) (by decide +kernel)), (gt_in 149 (by decide +kernel) (by decide +kernel)), by decide +kernel⟩, (gt_in 1460 (by decide +kernel) (by decide +kernel)), (gt_in 48 (by decide +kernel) (by decide +kernel)), ⟨_, _, cls11⟩, rfl, rfl⟩
theorem im_mm_ends : IM M_mm_ends 0 11 47 := ⟨⟨(gt_in 1495 (by decide +kernel) (by decide +kernel)), (gt_in 149 (by decide +kernel) (by decide +kernel)), by decide +kernel⟩, (gt_in 1494 (by decide +kernel) (by decide +kernel)), (gt_in 52 (by decide +kernel) (by decide +kernel)), ⟨_, _, cls11⟩, rfl, rfl⟩
theorem im_mm_also : IM M_mm_also 2 11 47 := ⟨⟨(gt_in 1503 (by decide +kernel) (by decide +kernel)), (gt_in 149 (by decide +kernel) (by decide +kernel)), by decide +kernel⟩, (gt_in 1502 (by decide +kernel) (by decide +kernel)), (gt_in 54 (by decide +kernel) (by decide +kernel)), ⟨_, _, cls11⟩, rfl, rfl⟩
theorem im_mm_numbered : IM M_mm_numbered 2 11 47 := ⟨⟨(gt_in 1507 (by decide +kernel) (by decide +kernel)), (gt_in 149 (by decide +kernel) (by decide +kernel)), by decide +kernel⟩, (gt_in 1506 (by decide +kernel) (by decide +kernel)), (gt_in 55 (by decide +kernel) (by decide +kernel)), ⟨_, _, cls11⟩, rfl, rfl⟩
theorem im_mm_wordIn : IM M_mm_wordIn 2 11 47 := ⟨⟨(gt_in 1491 (by decide +kernel) (by decide +kernel)), (gt_in 149 (by decide +kernel) (by decide +kernel)), by decide +kernel⟩, (gt_in 1490 (by decide +kernel) (by decide +kernel)), (gt_in 51 (by decide +kernel) (by decide +kernel)), ⟨_, _, cls11⟩, rfl, rfl⟩
theorem im_mm_endsLine : IM M_mm_endsLine 0 11 47 := ⟨⟨(gt_in 1527 (by decide +kernel) (by decide +kernel)), (gt_in 149 (by decide +kernel) (by decide +kernel)), by decide +kernel⟩, (gt_in 1526 (by decide +kernel) (by decide +kernel)), (gt_in 60 (by decide +kernel) (by decide +kernel)), ⟨_, _, cls11⟩, rfl, rfl⟩
theorem im_mm_otherWord : IM M_mm_otherWord 1 11 47 := ⟨⟨(gt_in 1515 (by decide +kernel) (by decide +kernel)), (gt_in 149 (by decide +kernel) (by decide +kernel)), by decide +kernel⟩, (gt_in 1514 (by decide +kernel) (by decide +kernel)), (gt_in 57 (by decide +kernel) (by decide +kernel)), ⟨_, _, cls11⟩, rfl, rfl⟩
theorem im_mm_wordTold : IM M_mm_wordTold 1 11 47 := ⟨⟨(gt_in 1499 (by decide +kernel) (by decide +kernel)), (gt_in 149 (by decide +kernel) (by decide +kernel)), by decide +kernel⟩, (gt_in 1498 (by decide +kernel) (by decide +kernel)), (gt_in 53 (by decide +kernel) (by decide +kernel)), ⟨_, _, cls11⟩, rfl, rfl⟩
theorem im_mm_nearTold : IM M_mm_nearTold 0 11 47 := ⟨⟨(gt_in 1511 (by decide +kernel) (by decide +kernel)), (gt_in 149 (by decide +kernel) (by decide +kernel)), by decide +kernel⟩, (gt_in 1510 (by decide +kernel) (by decide +kernel)), (gt_in 56 (by decide +kernel) (by decide +kernel)), ⟨_, _, cls11⟩, rfl, rfl⟩
theorem im_mm_readerTold : IM M_mm_readerTold 1 11 47 := ⟨⟨(gt_in 1519 (by decide +kernel) (by decide +kernel)), (gt_in 149 (by decide +kernel) (by decide +kernel)), by decide +kernel⟩, (gt_in 1518 (by decide +kernel) (by decide +kernel)), (gt_in 58 (by decide +kernel) (by decide +kernel)), ⟨_, _, cls11⟩, rfl, rfl⟩
theorem im_mm_wantTold : IM M_mm_wantTold 0 11 47 := ⟨⟨(gt_in 1523 (by decide +kernel) (by decide +kernel)), (gt_in 149 (by decide +kernel) (by decide +kernel)), by decide +kernel⟩, (gt_in 1522 (by decide +kernel) (by decide +kernel)), (gt_in 59 (by decide +kernel) (by decide +kernel)), ⟨_, _, cls11⟩, rfl, rfl⟩
theorem im_mm_paperLine : IM M_mm_paperLine 0 11 47 := ⟨⟨(gt_in 1487 (by decide +kernel) (by decide +kernel)), (gt_in 149 (by decide +kernel) (by decide +kernel)), by decide +kernel⟩, (gt_in 1486 (by decide +kernel) (by decide +kernel)), (gt_in 50 (by decide +kernel) (by decide +kernel)), ⟨_, _, cls11⟩, rfl, rfl⟩
theorem im_mm_weekLine : IM M_mm_weekLine 0 11 47 := ⟨⟨(gt_in 1531 (by decide +kernel) (by decide +kernel)), (gt_in 149 (by decide +kernel) (by decide +kernel)), by decide +kernel⟩, (gt_in 1530 (by decide +kernel) (by decide +kernel)), (gt_in 61 (by decide +kernel) (by decide +kernel)), ⟨_, _, cls11⟩, rfl, rfl⟩
theorem im_mm_logLine : IM M_mm_logLine 0 11 47 := ⟨⟨(gt_in 1535 (by decide +kernel) (by decide +kernel)), (gt_in 149 (by decide +kernel) (by decide +kernel)), by decide +kernel⟩, (gt_in 1534 (by decide +kernel) (by decide +kernel)), (gt_in 62 (by decide +kernel) (by decide +kernel)), ⟨_, _, cls11⟩, rfl, rfl⟩
theorem sm_mm_placeOf : SM M_mm_placeOf 2 := ⟨⟨(gt_in 1541 (by decide +kernel) (by decide +kernel)), (gt_in 149 (by decide +kernel) (by decide +kernel)), by decide +kernel⟩, (gt_in 1540 (by decide +kernel) (by decide +kernel)), rfl, rfl⟩
theorem sm_mm_sizeOf : SM M_mm_sizeOf 1 := ⟨⟨(gt_in 1538 (by decide +kernel) (by decide +kernel)), (gt_in 149 (by decide +kernel) (by decide +kernel)), by decide +kernel⟩, (gt_in 1537 (by decide +kernel) (by decide +kernel)), rfl, rfl⟩
theorem im_mm_isOf : IM M_mm_isOf 2 11 47 := ⟨⟨(gt_in 1453 (by decide +kernel) (by decide +kernel)), (gt_in 149 (by decide +kernel) (by decide +kernel)), by decide +kernel⟩, (gt_in 1452 (by decide +kernel) (by decide +kernel)), (gt_in 46 (by decide +kernel) (by decide +kernel)), ⟨_, _, cls11⟩, rfl, rfl⟩
theorem im_mm_beginsText : IM M_mm_beginsText 1 11 47 := ⟨⟨(gt_in 1457 (by decide +kernel) (by decide +kernel)), (gt_in 149 (by decide +kernel) (by decide +kernel)), by decide +kernel⟩, (gt_in 1456 (by decide +kernel) (by decide +kernel)), (gt_in 47 (by decide +kernel) (by decide +kernel)), ⟨_, _, cls11⟩, rfl, rfl⟩
theorem im_mm_text : IM M_mm_text 2 11 47 := ⟨⟨(gt_in 1446 (by decide +kernel) (by decide +kernel)), (gt_in 149 (by decide +kernel) (by decide +kernel)), by decide +kernel⟩, (gt_in 1444 (by decide +kernel) (by decide +kernel)), (gt_in 1445 (by decide +kernel) (by decide +kernel)), ⟨_, _, cls11⟩, rfl, rfl⟩
theorem im_mm_fault : IM M_mm_fault 1 11 47 := ⟨⟨(gt_in 1545 (by decide +kernel) (by decide +kernel)), (gt_in 149 (by decide +kernel) (by decide +kernel)), by decide +kernel⟩, (gt_in 1543 (by decide +kernel) (by decide +kernel)), (gt_in 1544 (by decide +kernel) (by decide +kernel)), ⟨_, _, cls11⟩, rfl, rfl⟩
theorem im_mm_wordTold0 : IM M_mm_wordTold0 1 11 47 := ⟨⟨(gt_in 1565 (by decide +kernel) (by decide +kernel)), (gt_in 149 (by decide +kernel) (by decide +kernel)), by decide +kernel⟩, (gt_in 1564 (by decide +kernel) (by decide +kernel)), (gt_in 66 (by decide +kernel) (by decide +kernel)), ⟨_, _, cls11⟩, rfl, rfl⟩
theorem im_mm_beginsProof : IM M_mm_beginsProof 0 11 47 := ⟨⟨(gt_in 1561 (by decide +kernel) (by decide +kernel)), (gt_in 149 (by decide +kernel) (by decide +kernel)), by decide +kernel⟩, (gt_in 1560 (by decide +kernel) (by decide +kernel)), (gt_in 65 (by decide +kernel) (by decide +kernel)), ⟨_, _, cls11⟩, rfl, rfl⟩
theorem im_mm_laysSteps : IM M_mm_laysSteps 0 11 47 := ⟨⟨(gt_in 1569 (by decide +kernel) (by decide +kernel)), (gt_in 149 (by decide +kernel) (by decide +kernel)), by decide +kernel⟩, (gt_in 1568 (by decide +kernel) (by decide +kernel)), (gt_in 67 (by decide +kernel) (by decide +kernel)), ⟨_, _, cls11⟩, rfl, rfl⟩
theorem im_mm_begins : IM M_mm_begins 0 11 47 := ⟨⟨(gt_in 1557 (by decide +kernel) (by decide +kernel)), (gt_in 149 (by decide +kernel) (by decide +kernel)), by decide +kernel⟩, (gt_in 1556 (by decide +kernel) (by decide +kernel)), (gt_in 64 (by decide +kernel) (by decide +kernel)), ⟨_, _, cls11⟩, rfl, rfl⟩
theorem im_mm_isPaper : IM M_mm_isPaper 1 11 47 := ⟨⟨(gt_in 1553 (by decide +kernel) (by decide +kernel)), (gt_in 149 (by decide +kernel) (by decide +kernel)), by decide +kernel⟩, (gt_in 1552 (by decide +kernel) (by decide +kernel)), (gt_in 63 (by decide +kernel) (by decide +kernel)), ⟨_, _, cls11⟩, rfl, rfl⟩
theorem im_mm_isPlace : IM M_mm_isPlace 1 11 47 := ⟨⟨(gt_in 1573 (by decide +kernel) (by decide +kernel)), (gt_in 149 (by decide +kernel) (by decide +kernel)), by decide +kernel⟩, (gt_in 1572 (by decide +kernel) (by decide +kernel)), (gt_in 68 (by decide +kernel) (by decide +kernel)), ⟨_, _, cls11⟩, rfl, rfl⟩
theorem im_mm_isReader : IM M_mm_isReader 1 11 47 := ⟨⟨(gt_in 1577 (by decide +kernel) (by decide +kernel)), (gt_in 149 (by decide +kernel) (by decide +kernel)), by decide +kernel⟩, (gt_in 1576 (by decide +kernel) (by decide +kernel)), (gt_in 69 (by decide +kernel) (by decide +kernel)), ⟨_, _, cls11⟩, rfl, rfl⟩
theorem im_mm_patienceOf : IM M_mm_patienceOf 1 11 47 := ⟨⟨(gt_in 1581 (by decide +kernel) (by decide +kernel)), (gt_in 149 (by decide +kernel) (by decide +kernel)), by decide +kernel⟩, (gt_in 1580 (by decide +kernel) (by decide +kernel)), (gt_in 70 (by decide +kernel) (by decide +kernel)), ⟨_, _, cls11⟩, rfl, rfl⟩
theorem im_mm_daysOf : IM M_mm_daysOf 1 11 47 := ⟨⟨(gt_in 1585 (by decide +kernel) (by decide +kernel)), (gt_in 149 (by decide +kernel) (by decide +kernel)), by decide +kernel⟩, (gt_in 1584 (by decide +kernel) (by decide +kernel)), (gt_in 71 (by decide +kernel) (by decide +kernel)), ⟨_, _, cls11⟩, rfl, rfl⟩
theorem im_mm_wantOf : IM M_mm_wantOf 2 11 47 := ⟨⟨(gt_in 1589 (by decide +kernel) (by decide +kernel)), (gt_in 149 (by decide +kernel) (by decide +kernel)), by decide +kernel⟩, (gt_in 1588 (by decide +kernel) (by decide +kernel)), (gt_in 72 (by decide +kernel) (by decide +kernel)), ⟨_, _, cls11⟩, rfl, rfl⟩
theorem im_mm_paper : IM M_mm_paper 2 11 47 := ⟨⟨(gt_in 1549 (by decide +kernel) (by decide +kernel)), (gt_in 149 (by decide +kernel) (by decide +kernel)), by decide +kernel⟩, (gt_in 1547 (by decide +kernel) (by decide +kernel)), (gt_in 1548 (by decide +kernel) (by decide +kernel)), ⟨_, _, cls11⟩, rfl, rfl⟩
theorem im_mm_areNear : IM M_mm_areNear 2 11 47 := ⟨⟨(gt_in 1608 (by decide +kernel) (by decide +kernel)), (gt_in 149 (by decide +kernel) (by decide +kernel)), by decide +kernel⟩, (gt_in 1607 (by decide +kernel) (by decide +kernel)), (gt_in 74 (by decide +kernel) (by decide +kernel)), ⟨_, _, cls11⟩, rfl, rfl⟩
theorem im_mm_joins : IM M_mm_joins 3 11 47 := ⟨⟨(gt_in 1763 (by decide +kernel) (by decide +kernel)), (gt_in 149 (by decide +kernel) (by decide +kernel)), by decide +kernel⟩, (gt_in 1762 (by decide +kernel) (by decide +kernel)), (gt_in 100 (by decide +kernel) (by decide +kernel)), ⟨_, _, cls11⟩, rfl, rfl⟩
theorem im_mm_towardsOf : IM M_mm_towardsOf 2 11 47 := ⟨⟨(gt_in 1604 (by decide +kernel) (by decide +kernel)), (gt_in 149 (by decide +kernel) (by decide +kernel)), by decide +kernel⟩, (gt_in 1603 (by decide +kernel) (by decide +kernel)), (gt_in 73 (by decide +kernel) (by decide +kernel)), ⟨_, _, cls11⟩, rfl, rfl⟩
theorem sm_mm_isWord : SM M_mm_isWord 1 := ⟨⟨(gt_in 1596 (by decide +kernel) (by decide +kernel)), (gt_in 149 (by decide +kernel) (by decide +kernel)), by decide +kernel⟩, (gt_in 1595 (by decide +kernel) (by decide +kernel)), rfl, rfl⟩
theorem im_mm_steps : IM M_mm_steps 3 11 47 := ⟨⟨(gt_in 1593 (by decide +kernel) (by decide +kernel)), (gt_in 149 (by decide +kernel) (by decide +kernel)), by decide +kernel⟩, (gt_in 1591 (by decide +kernel) (by decide +kernel)), (gt_in 1592 (by decide +kernel) (by decide +kernel)), ⟨_, _, cls11⟩, rfl, rfl⟩
theorem im_mm_towards : IM M_mm_towards 3 11 47 := ⟨⟨(gt_in 1600 (by decide +kernel) (by decide +kernel)), (gt_in 149 (by decide +kernel) (by decide +kernel)), by decide +kernel⟩, (gt_in 1598 (by decide +kernel) (by decide +kernel)), (gt_in 1599 (by decide +kernel) (by decide +kernel)), ⟨_, _, cls11⟩, rfl, rfl⟩
theorem im_mm_putOf : IM M_mm_putOf 2 11 47 := ⟨⟨(gt_in 1620 (by decide +kernel) (by decide +kernel)), (gt_in 149 (by decide +kernel) (by decide +kernel)), by decide +kernel⟩, (gt_in 1619 (by decide +kernel) (by decide +kernel)), (gt_in 76 (by decide +kernel) (by decide +kernel)), ⟨_, _, cls11⟩, rfl, rfl⟩
theorem im_mm_reads : IM M_mm_reads 1 11 47 := ⟨⟨(gt_in 1616 (by decide +kernel) (by decide +kernel)), (gt_in 149 (by decide +kernel) (by decide +kernel)), by decide +kernel⟩, (gt_in 1615 (by decide +kernel) (by decide +kernel)), (gt_in 75 (by decide +kernel) (by decide +kernel)), ⟨_, _, cls11⟩, rfl, rfl⟩
theorem im_mm_contentOf : IM M_mm_contentOf 1 11 47 := ⟨⟨(gt_in 1628 (by decide +kernel) (by decide +kernel)), (gt_in 149 (by decide +kernel) (by decide +kernel)), by decide +kernel⟩, (gt_in 1627 (by decide +kernel) (by decide +kernel)), (gt_in 78 (by decide +kernel) (by decide +kernel)), ⟨_, _, cls11⟩, rfl, rfl⟩
theorem im_mm_contentAll : IM M_mm_contentAll 0 11 47 := ⟨⟨(gt_in 1624 (by decide +kernel) (by decide +kernel)), (gt_in 149 (by decide +kernel) (by decide +kernel)), by decide +kernel⟩, (gt_in 1623 (by decide +kernel) (by decide +kernel)), (gt_in 77 (by decide +kernel) (by decide +kernel)), ⟨_, _, cls11⟩, rfl, rfl⟩
theorem im_mm_reading : IM M_mm_reading 3 11 47 := ⟨⟨(gt_in 1612 (by decide +kernel) (by decide +kernel)), (gt_in 149 (by decide +kernel) (by decide +kernel)), by decide +kernel⟩, (gt_in 1610 (by decide +kernel) (by decide +kernel)), (gt_in 1611 (by decide +kernel) (by decide +kernel)), ⟨_, _, cls11⟩, rfl, rfl⟩
theorem im_mm_round : IM M_mm_round 0 11 47 := ⟨⟨(gt_in 1644 (by decide +kernel) (by decide +kernel)), (gt_in 149 (by decide +kernel) (by decide +kernel)), by decide +kernel⟩, (gt_in 1643 (by decide +kernel) (by decide +kernel)), (gt_in 81 (by decide +kernel) (by decide +kernel)), ⟨_, _, cls11⟩, rfl, rfl⟩
theorem im_mm_isAsAt : IM M_mm_isAsAt 2 11 47 := ⟨⟨(gt_in 1648 (by decide +kernel) (by decide +kernel)), (gt_in 149 (by decide +kernel) (by decide +kernel)), by decide +kernel⟩, (gt_in 1647 (by decide +kernel) (by decide +kernel)), (gt_in 82 (by decide +kernel) (by decide +kernel)), ⟨_, _, cls11⟩, rfl, rfl⟩
theorem im_mm_keeps : IM M_mm_keeps 2 11 47 := ⟨⟨(gt_in 1640 (by decide +kernel) (by decide +kernel)), (gt_in 149 (by decide +kernel) (by decide +kernel)), by decide +kernel⟩, (gt_in 1639 (by decide +kernel) (by decide +kernel)), (gt_in 80 (by decide +kernel) (by decide +kernel)), ⟨_, _, cls11⟩, rfl, rfl⟩
theorem im_mm_roundsOf : IM M_mm_roundsOf 1 11 47 := ⟨⟨(gt_in 1636 (by decide +kernel) (by decide +kernel)), (gt_in 149 (by decide +kernel) (by decide +kernel)), by decide +kernel⟩, (gt_in 1635 (by decide +kernel) (by decide +kernel)), (gt_in 79 (by decide +kernel) (by decide +kernel)), ⟨_, _, cls11⟩, rfl, rfl⟩
theorem im_mm_rounds : IM M_mm_rounds 2 11 47 := ⟨⟨(gt_in 1632 (by decide +kernel) (by decide +kernel)), (gt_in 149 (by decide +kernel) (by decide +kernel)), by decide +kernel⟩, (gt_in 1630 (by decide +kernel) (by decide +kernel)), (gt_in 1631 (by decide +kernel) (by decide +kernel)), ⟨_, _, cls11⟩, rfl, rfl⟩
theorem im_mm_firstRow : IM M_mm_firstRow 0 11 47 := ⟨⟨(gt_in 1656 (by decide +kernel) (by decide +kernel)), (gt_in 149 (by decide +kernel) (by decide +kernel)), by decide +kernel⟩, (gt_in 1655 (by decide +kernel) (by decide +kernel)), (gt_in 83 (by decide +kernel) (by decide +kernel)), ⟨_, _, cls11⟩, rfl, rfl⟩
theorem im_mm_changesPlaces : IM M_mm_changesPlaces 2 11 47 := ⟨⟨(gt_in 1668 (by decide +kernel) (by decide +kernel)), (gt_in 149 (by decide +kernel) (by decide +kernel)), by decide +kernel⟩, (gt_in 1667 (by decide +kernel) (by decide +kernel)), (gt_in 86 (by decide +kernel) (by decide +kernel)), ⟨_, _, cls11⟩, rfl, rfl⟩
theorem im_mm_nextRow : IM M_mm_nextRow 0 11 47 := ⟨⟨(gt_in 1664 (by decide +kernel) (by decide +kernel)), (gt_in 149 (by decide +kernel) (by decide +kernel)), by decide +kernel⟩, (gt_in 1663 (by decide +kernel) (by decide +kernel)), (gt_in 85 (by decide +kernel) (by decide +kernel)), ⟨_, _, cls11⟩, rfl, rfl⟩
theorem im_mm_readsRow : IM M_mm_readsRow 0 11 47 := ⟨⟨(gt_in 1660 (by decide +kernel) (by decide +kernel)), (gt_in 149 (by decide +kernel) (by decide +kernel)), by decide +kernel⟩, (gt_in 1659 (by decide +kernel) (by decide +kernel)), (gt_in 84 (by decide +kernel) (by decide +kernel)), ⟨_, _, cls11⟩, rfl, rfl⟩
theorem im_mm_order : IM M_mm_order 2 11 47 := ⟨⟨(gt_in 1652 (by decide +kernel) (by decide +kernel)), (gt_in 149 (by decide +kernel) (by decide +kernel)), by decide +kernel⟩, (gt_in 1650 (by decide +kernel) (by decide +kernel)), (gt_in 1651 (by decide +kernel) (by decide +kernel)), ⟨_, _, cls11⟩, rfl, rfl⟩
theorem im_mm_deskOf : IM M_mm_deskOf 3 11 47 := ⟨⟨(gt_in 1680 (by decide +kernel) (by decide +kernel)), (gt_in 149 (by decide +kernel) (by decide +kernel)), by decide +kernel⟩, (gt_in 1679 (by decide +kernel) (by decide +kernel)), (gt_in 88 (by decide +kernel) (by decide +kernel)), ⟨_, _, cls11⟩, rfl, rfl⟩
theorem im_mm_longest : IM M_mm_longest 2 11 47 := ⟨⟨(gt_in 1676 (by decide +kernel) (by decide +kernel)), (gt_in 149 (by decide +kernel) (by decide +kernel)), by decide +kernel⟩, (gt_in 1675 (by decide +kernel) (by decide +kernel)), (gt_in 87 (by decide +kernel) (by decide +kernel)), ⟨_, _, cls11⟩, rfl, rfl⟩
theorem im_mm_desks : IM M_mm_desks 3 11 47 := ⟨⟨(gt_in 1672 (by decide +kernel) (by decide +kernel)), (gt_in 149 (by decide +kernel) (by decide +kernel)), by decide +kernel⟩, (gt_in 1670 (by decide +kernel) (by decide +kernel)), (gt_in 1671 (by decide +kernel) (by decide +kernel)), ⟨_, _, cls11⟩, rfl, rfl⟩
theorem im_mm_laysTurn : IM M_mm_laysTurn 1 11 47 := ⟨⟨(gt_in 1692 (by decide +kernel) (by decide +kernel)), (gt_in 149 (by decide +kernel) (by decide +kernel)), by decide +kernel⟩, (gt_in 1691 (by decide +kernel) (by decide +kernel)), (gt_in 90 (by decide +kernel) (by decide +kernel)), ⟨_, _, cls11⟩, rfl, rfl⟩
theorem im_mm_puts : IM M_mm_puts 3 11 47 := ⟨⟨(gt_in 1701 (by decide +kernel) (by decide +kernel)), (gt_in 149 (by decide +kernel) (by decide +kernel)), by decide +kernel⟩, (gt_in 1700 (by decide +kernel) (by decide +kernel)), (gt_in 92 (by decide +kernel) (by decide +kernel)), ⟨_, _, cls11⟩, rfl, rfl⟩
theorem im_mm_comesBack : IM M_mm_comesBack 2 11 47 := ⟨⟨(gt_in 1697 (by decide +kernel) (by decide +kernel)), (gt_in 149 (by decide +kernel) (by decide +kernel)), by decide +kernel⟩, (gt_in 1696 (by decide +kernel) (by decide +kernel)), (gt_in 91 (by decide +kernel) (by decide +kernel)), ⟨_, _, cls11⟩, rfl, rfl⟩
theorem im_mm_quarrelOf : IM M_mm_quarrelOf 3 11 47 := ⟨⟨(gt_in 1688 (by decide +kernel) (by decide +kernel)), (gt_in 149 (by decide +kernel) (by decide +kernel)), by decide +kernel⟩, (gt_in 1687 (by decide +kernel) (by decide +kernel)), (gt_in 89 (by decide +kernel) (by decide +kernel)), ⟨_, _, cls11⟩, rfl, rfl⟩
theorem im_mm_quarrel : IM M_mm_quarrel 5 11 47 := ⟨⟨(gt_in 1684 (by decide +kernel) (by decide +kernel)), (gt_in 149 (by decide +kernel) (by decide +kernel)), by decide +kernel⟩, (gt_in 1682 (by decide +kernel) (by decide +kernel)), (gt_in 1683 (by decide +kernel) (by decide +kernel)), ⟨_, _, cls11⟩, rfl, rfl⟩
theorem sm_mm_bitsOf : SM M_mm_bitsOf 1 := ⟨⟨(gt_in 1716 (by decide +kernel) (by decide +kernel)), (gt_in 149 (by decide +kernel) (by decide +kernel)), by decide +kernel⟩, (gt_in 1715 (by decide +kernel) (by decide +kernel)), rfl, rfl⟩
theorem im_mm_unlikeAt : IM M_mm_unlikeAt 2 11 47 := ⟨⟨(gt_in 1713 (by decide +kernel) (by decide +kernel)), (gt_in 149 (by decide +kernel) (by decide +kernel)), by decide +kernel⟩, (gt_in 1712 (by decide +kernel) (by decide +kernel)), (gt_in 94 (by decide +kernel) (by decide +kernel)), ⟨_, _, cls11⟩, rfl, rfl⟩
theorem im_mm_areSigns : IM M_mm_areSigns 1 11 47 := ⟨⟨(gt_in 1709 (by decide +kernel) (by decide +kernel)), (gt_in 149 (by decide +kernel) (by decide +kernel)), by decide +kernel⟩, (gt_in 1708 (by decide +kernel) (by decide +kernel)), (gt_in 93 (by decide +kernel) (by decide +kernel)), ⟨_, _, cls11⟩, rfl, rfl⟩
theorem im_mm_signs : IM M_mm_signs 2 11 47 := ⟨⟨(gt_in 1705 (by decide +kernel) (by decide +kernel)), (gt_in 149 (by decide +kernel) (by decide +kernel)), by decide +kernel⟩, (gt_in 1703 (by decide +kernel) (by decide +kernel)), (gt_in 1704 (by decide +kernel) (by decide +kernel)), ⟨_, _, cls11⟩, rfl, rfl⟩
theorem im_mm_vote : IM M_mm_vote 2 11 47 := ⟨⟨(gt_in 1720 (by decide +kernel) (by decide +kernel)), (gt_in 149 (by decide +kernel) (by decide +kernel)), by decide +kernel⟩, (gt_in 1718 (by decide +kernel) (by decide +kernel)), (gt_in 1719 (by decide +kernel) (by decide +kernel)), ⟨_, _, cls11⟩, rfl, rfl⟩
theorem sm_mm_common : SM M_mm_common 2 := ⟨⟨(gt_in 1735 (by decide +kernel) (by decide +kernel)), (gt_in 149 (by decide +kernel) (by decide +kernel)), by decide +kernel⟩, (gt_in 1734 (by decide +kernel) (by decide +kernel)), rfl, rfl⟩
theorem sm_mm_parted : SM M_mm_parted 3 := ⟨⟨(gt_in 1732 (by decide +kernel) (by decide +kernel)), (gt_in 149 (by decide +kernel) (by decide +kernel)), by decide +kernel⟩, (gt_in 1731 (by decide +kernel) (by decide +kernel)), rfl, rfl⟩
theorem sm_mm_powerOf : SM M_mm_powerOf 2 := ⟨⟨(gt_in 1729 (by decide +kernel) (by decide +kernel)), (gt_in 149 (by decide +kernel) (by decide +kernel)), by decide +kernel⟩, (gt_in 1728 (by decide +kernel) (by decide +kernel)), rfl, rfl⟩
theorem im_mm_come : IM M_mm_come 4 11 47 := ⟨⟨(gt_in 1724 (by decide +kernel) (by decide +kernel)), (gt_in 149 (by decide +kernel) (by decide +kernel)), by decide +kernel⟩, (gt_in 1722 (by decide +kernel) (by decide +kernel)), (gt_in 1723 (by decide +kernel) (by decide +kernel)), ⟨_, _, cls11⟩, rfl, rfl⟩
theorem im_mm_kinOf : IM M_mm_kinOf 1 11 47 := ⟨⟨(gt_in 1747 (by decide +kernel) (by decide +kernel)), (gt_in 149 (by decide +kernel) (by decide +kernel)), by decide +kernel⟩, (gt_in 1746 (by decide +kernel) (by decide +kernel)), (gt_in 96 (by decide +kernel) (by decide +kernel)), ⟨_, _, cls11⟩, rfl, rfl⟩
theorem im_mm_kinAll : IM M_mm_kinAll 1 11 47 := ⟨⟨(gt_in 1743 (by decide +kernel) (by decide +kernel)), (gt_in 149 (by decide +kernel) (by decide +kernel)), by decide +kernel⟩, (gt_in 1742 (by decide +kernel) (by decide +kernel)), (gt_in 95 (by decide +kernel) (by decide +kernel)), ⟨_, _, cls11⟩, rfl, rfl⟩
theorem im_mm_widest : IM M_mm_widest 0 11 47 := ⟨⟨(gt_in 1751 (by decide +kernel) (by decide +kernel)), (gt_in 149 (by decide +kernel) (by decide +kernel)), by decide +kernel⟩, (gt_in 1750 (by decide +kernel) (by decide +kernel)), (gt_in 97 (by decide +kernel) (by decide +kernel)), ⟨_, _, cls11⟩, rfl, rfl⟩
theorem im_mm_lone : IM M_mm_lone 0 11 47 := ⟨⟨(gt_in 1755 (by decide +kernel) (by decide +kernel)), (gt_in 149 (by decide +kernel) (by decide +kernel)), by decide +kernel⟩, (gt_in 1754 (by decide +kernel) (by decide +kernel)), (gt_in 98 (by decide +kernel) (by decide +kernel)), ⟨_, _, cls11⟩, rfl, rfl⟩
theorem im_mm_parting : IM M_mm_parting 1 11 47 := ⟨⟨(gt_in 1759 (by decide +kernel) (by decide +kernel)), (gt_in 149 (by decide +kernel) (by decide +kernel)), by decide +kernel⟩, (gt_in 1758 (by decide +kernel) (by decide +kernel)), (gt_in 99 (by decide +kernel) (by decide +kernel)), ⟨_, _, cls11⟩, rfl, rfl⟩
theorem im_mm_kin : IM M_mm_kin 2 11 47 := ⟨⟨(gt_in 1739 (by decide +kernel) (by decide +kernel)), (gt_in 149 (by decide +kernel) (by decide +kernel)), by decide +kernel⟩, (gt_in 1737 (by decide +kernel) (by decide +kernel)), (gt_in 1738 (by decide +kernel) (by decide +kernel)), ⟨_, _, cls11⟩, rfl, rfl⟩
theorem im_mm_distanceOf : IM M_mm_distanceOf 1 11 47 := ⟨⟨(gt_in 1771 (by decide +kernel) (by decide +kernel)), (gt_in 149 (by decide +kernel) (by decide +kernel)), by decide +kernel⟩, (gt_in 1770 (by decide +kernel) (by decide +kernel)), (gt_in 101 (by decide +kernel) (by decide +kernel)), ⟨_, _, cls11⟩, rfl, rfl⟩
theorem im_mm_aloneOf : IM M_mm_aloneOf 1 11 47 := ⟨⟨(gt_in 1775 (by decide +kernel) (by decide +kernel)), (gt_in 149 (by decide +kernel) (by decide +kernel)), by decide +kernel⟩, (gt_in 1774 (by decide +kernel) (by decide +kernel)), (gt_in 102 (by decide +kernel) (by decide +kernel)), ⟨_, _, cls11⟩, rfl, rfl⟩
theorem im_mm_rivalsOf : IM M_mm_rivalsOf 1 11 47 := ⟨⟨(gt_in 1779 (by decide +kernel) (by decide +kernel)), (gt_in 149 (by decide +kernel) (by decide +kernel)), by decide +kernel⟩, (gt_in 1778 (by decide +kernel) (by decide +kernel)), (gt_in 103 (by decide +kernel) (by decide +kernel)), ⟨_, _, cls11⟩, rfl, rfl⟩
theorem im_mm_distance : IM M_mm_distance 3 11 47 := ⟨⟨(gt_in 1767 (by decide +kernel) (by decide +kernel)), (gt_in 149 (by decide +kernel) (by decide +kernel)), by decide +kernel⟩, (gt_in 1765 (by decide +kernel) (by decide +kernel)), (gt_in 1766 (by decide +kernel) (by decide +kernel)), ⟨_, _, cls11⟩, rfl, rfl⟩
theorem im_mm_isPeace : IM M_mm_isPeace 1 11 47 := ⟨⟨(gt_in 1787 (by decide +kernel) (by decide +kernel)), (gt_in 149 (by decide +kernel) (by decide +kernel)), by decide +kernel⟩, (gt_in 1786 (by decide +kernel) (by decide +kernel)), (gt_in 104 (by decide +kernel) (by decide +kernel)), ⟨_, _, cls11⟩, rfl, rfl⟩
theorem im_mm_peace : IM M_mm_peace 2 11 47 := ⟨⟨(gt_in 1783 (by decide +kernel) (by decide +kernel)), (gt_in 149 (by decide +kernel) (by decide +kernel)), by decide +kernel⟩, (gt_in 1781 (by decide +kernel) (by decide +kernel)), (gt_in 1782 (by decide +kernel) (by decide +kernel)), ⟨_, _, cls11⟩, rfl, rfl⟩
theorem im_mm_togetherFrom : IM M_mm_togetherFrom 2 11 47 := ⟨⟨(gt_in 1795 (by decide +kernel) (by decide +kernel)), (gt_in 149 (by decide +kernel) (by decide +kernel)), by decide +kernel⟩, (gt_in 1794 (by decide +kernel) (by decide +kernel)), (gt_in 105 (by decide +kernel) (by decide +kernel)), ⟨_, _, cls11⟩, rfl, rfl⟩
theorem im_mm_median : IM M_mm_median 3 11 47 := ⟨⟨(gt_in 1791 (by decide +kernel) (by decide +kernel)), (gt_in 149 (by decide +kernel) (by decide +kernel)), by decide +kernel⟩, (gt_in 1789 (by decide +kernel) (by decide +kernel)), (gt_in 1790 (by decide +kernel) (by decide +kernel)), ⟨_, _, cls11⟩, rfl, rfl⟩
theorem im_mm_laysRise : IM M_mm_laysRise 0 11 47 := ⟨⟨(gt_in 1803 (by decide +kernel) (by decide +kernel)), (gt_in 149 (by decide +kernel) (by decide +kernel)), by decide +kernel⟩, (gt_in 1802 (by decide +kernel) (by decide +kernel)), (gt_in 106 (by decide +kernel) (by decide +kernel)), ⟨_, _, cls11⟩, rfl, rfl⟩
theorem im_mm_riseAt : IM M_mm_riseAt 1 11 47 := ⟨⟨(gt_in 1823 (by decide +kernel) (by decide +kernel)), (gt_in 149 (by decide +kernel) (by decide +kernel)), by decide +kernel⟩, (gt_in 1822 (by decide +kernel) (by decide +kernel)), (gt_in 111 (by decide +kernel) (by decide +kernel)), ⟨_, _, cls11⟩, rfl, rfl⟩
theorem im_mm_bendOf : IM M_mm_bendOf 0 11 47 := ⟨⟨(gt_in 1807 (by decide +kernel) (by decide +kernel)), (gt_in 149 (by decide +kernel) (by decide +kernel)), by decide +kernel⟩, (gt_in 1806 (by decide +kernel) (by decide +kernel)), (gt_in 107 (by decide +kernel) (by decide +kernel)), ⟨_, _, cls11⟩, rfl, rfl⟩
theorem im_mm_twiceOf : IM M_mm_twiceOf 0 11 47 := ⟨⟨(gt_in 1811 (by decide +kernel) (by decide +kernel)), (gt_in 149 (by decide +kernel) (by decide +kernel)), by decide +kernel⟩, (gt_in 1810 (by decide +kernel) (by decide +kernel)), (gt_in 108 (by decide +kernel) (by decide +kernel)), ⟨_, _, cls11⟩, rfl, rfl⟩
theorem im_mm_standsAt : IM M_mm_standsAt 1 11 47 := ⟨⟨(gt_in 1819 (by decide +kernel) (by decide +kernel)), (gt_in 149 (by decide +kernel) (by decide +kernel)), by decide +kernel⟩, (gt_in 1818 (by decide +kernel) (by decide +kernel)), (gt_in 110 (by decide +kernel) (by decide +kernel)), ⟨_, _, cls11⟩, rfl, rfl⟩
theorem im_mm_wordsOf : IM M_mm_wordsOf 1 11 47 := ⟨⟨(gt_in 1815 (by decide +kernel) (by decide +kernel)), (gt_in 149 (by decide +kernel) (by decide +kernel)), by decide +kernel⟩, (gt_in 1814 (by decide +kernel) (by decide +kernel)), (gt_in 109 (by decide +kernel) (by decide +kernel)), ⟨_, _, cls11⟩, rfl, rfl⟩
theorem im_mm_rise : IM M_mm_rise 2 11 47 := ⟨⟨(gt_in 1799 (by decide +kernel) (by decide +kernel)), (gt_in 149 (by decide +kernel) (by decide +kernel)), by decide +kernel⟩, (gt_in 1797 (by decide +kernel) (by decide +kernel)), (gt_in 1798 (by decide +kernel) (by decide +kernel)), ⟨_, _, cls11⟩, rfl, rfl⟩
theorem im_mm_idleOf : IM M_mm_idleOf 0 11 47 := ⟨⟨(gt_in 1831 (by decide +kernel) (by decide +kernel)), (gt_in 149 (by decide +kernel) (by decide +kernel)), by decide +kernel⟩, (gt_in 1830 (by decide +kernel) (by decide +kernel)), (gt_in 112 (by decide +kernel) (by decide +kernel)), ⟨_, _, cls11⟩, rfl, rfl⟩
theorem im_mm_lastWordOf : IM M_mm_lastWordOf 1 11 47 := ⟨⟨(gt_in 1835 (by decide +kernel) (by decide +kernel)), (gt_in 149 (by decide +kernel) (by decide +kernel)), by decide +kernel⟩, (gt_in 1834 (by decide +kernel) (by decide +kernel)), (gt_in 113 (by decide +kernel) (by decide +kernel)), ⟨_, _, cls11⟩, rfl, rfl⟩
theorem im_mm_swapOf : IM M_mm_swapOf 1 11 47 := ⟨⟨(gt_in 1839 (by decide +kernel) (by decide +kernel)), (gt_in 149 (by decide +kernel) (by decide +kernel)), by decide +kernel⟩, (gt_in 1838 (by decide +kernel) (by decide +kernel)), (gt_in 114 (by decide +kernel) (by decide +kernel)), ⟨_, _, cls11⟩, rfl, rfl⟩
theorem im_mm_teachOf : IM M_mm_teachOf 1 11 47 := ⟨⟨(gt_in 1843 (by decide +kernel) (by decide +kernel)), (gt_in 149 (by decide +kernel) (by decide +kernel)), by decide +kernel⟩, (gt_in 1842 (by decide +kernel) (by decide +kernel)), (gt_in 115 (by decide +kernel) (by decide +kernel)), ⟨_, _, cls11⟩, rfl, rfl⟩
theorem im_mm_lastWord : IM M_mm_lastWord 2 11 47 := ⟨⟨(gt_in 1827 (by decide +kernel) (by decide +kernel)), (gt_in 149 (by decide +kernel) (by decide +kernel)), by decide +kernel⟩, (gt_in 1825 (by decide +kernel) (by decide +kernel)), (gt_in 1826 (by decide +kernel) (by decide +kernel)), ⟨_, _, cls11⟩, rfl, rfl⟩
theorem im_mm_isWeek : IM M_mm_isWeek 1 11 47 := ⟨⟨(gt_in 1851 (by decide +kernel) (by decide +kernel)), (gt_in 149 (by decide +kernel) (by decide +kernel)), by decide +kernel⟩, (gt_in 1850 (by decide +kernel) (by decide +kernel)), (gt_in 116 (by decide +kernel) (by decide +kernel)), ⟨_, _, cls11⟩, rfl, rfl⟩
theorem im_mm_deed : IM M_mm_deed 3 11 47 := ⟨⟨(gt_in 1847 (by decide +kernel) (by decide +kernel)), (gt_in 149 (by decide +kernel) (by decide +kernel)), by decide +kernel⟩, (gt_in 1845 (by decide +kernel) (by decide +kernel)), (gt_in 1846 (by decide +kernel) (by decide +kernel)), ⟨_, _, cls11⟩, rfl, rfl⟩
theorem im_mm_readsDeed : IM M_mm_readsDeed 1 11 47 := ⟨⟨(gt_in 1867 (by decide +kernel) (by decide +kernel)), (gt_in 149 (by decide +kernel) (by decide +kernel)), by decide +kernel⟩, (gt_in 1866 (by decide +kernel) (by decide +kernel)), (gt_in 119 (by decide +kernel) (by decide +kernel)), ⟨_, _, cls11⟩, rfl, rfl⟩
theorem im_mm_setsWord : IM M_mm_setsWord 2 11 47 := ⟨⟨(gt_in 1871 (by decide +kernel) (by decide +kernel)), (gt_in 149 (by decide +kernel) (by decide +kernel)), by decide +kernel⟩, (gt_in 1870 (by decide +kernel) (by decide +kernel)), (gt_in 120 (by decide +kernel) (by decide +kernel)), ⟨_, _, cls11⟩, rfl, rfl⟩
theorem im_mm_stets : IM M_mm_stets 2 11 47 := ⟨⟨(gt_in 1875 (by decide +kernel) (by decide +kernel)), (gt_in 149 (by decide +kernel) (by decide +kernel)), by decide +kernel⟩, (gt_in 1874 (by decide +kernel) (by decide +kernel)), (gt_in 121 (by decide +kernel) (by decide +kernel)), ⟨_, _, cls11⟩, rfl, rfl⟩
theorem im_mm_joinsWords : IM M_mm_joinsWords 3 11 47 := ⟨⟨(gt_in 1879 (by decide +kernel) (by decide +kernel)), (gt_in 149 (by decide +kernel) (by decide +kernel)), by decide +kernel⟩, (gt_in 1878 (by decide +kernel) (by decide +kernel)), (gt_in 122 (by decide +kernel) (by decide +kernel)), ⟨_, _, cls11⟩, rfl, rfl⟩
theorem im_mm_printsAll : IM M_mm_printsAll 0 11 47 := ⟨⟨(gt_in 1883 (by decide +kernel) (by decide +kernel)), (gt_in 149 (by decide +kernel) (by decide +kernel)), by decide +kernel⟩, (gt_in 1882 (by decide +kernel) (by decide +kernel)), (gt_in 123 (by decide +kernel) (by decide +kernel)), ⟨_, _, cls11⟩, rfl, rfl⟩
theorem im_mm_does : IM M_mm_does 3 11 47 := ⟨⟨(gt_in 1863 (by decide +kernel) (by decide +kernel)), (gt_in 149 (by decide +kernel) (by decide +kernel)), by decide +kernel⟩, (gt_in 1862 (by decide +kernel) (by decide +kernel)), (gt_in 118 (by decide +kernel) (by decide +kernel)), ⟨_, _, cls11⟩, rfl, rfl⟩
theorem im_mm_runs : IM M_mm_runs 1 11 47 := ⟨⟨(gt_in 1859 (by decide +kernel) (by decide +kernel)), (gt_in 149 (by decide +kernel) (by decide +kernel)), by decide +kernel⟩, (gt_in 1858 (by decide +kernel) (by decide +kernel)), (gt_in 117 (by decide +kernel) (by decide +kernel)), ⟨_, _, cls11⟩, rfl, rfl⟩
theorem im_mm_stop : IM M_mm_stop 2 11 47 := ⟨⟨(gt_in 1855 (by decide +kernel) (by decide +kernel)), (gt_in 149 (by decide +kernel) (by decide +kernel)), by decide +kernel⟩, (gt_in 1853 (by decide +kernel) (by decide +kernel)), (gt_in 1854 (by decide +kernel) (by decide +kernel)), ⟨_, _, cls11⟩, rfl, rfl⟩
theorem im_mm_nowOf : IM M_mm_nowOf 1 11 47 := ⟨⟨(gt_in 1891 (by decide +kernel) (by decide +kernel)), (gt_in 149 (by decide +kernel) (by decide +kernel)), by decide +kernel⟩, (gt_in 1890 (by decide +kernel) (by decide +kernel)), (gt_in 124 (by decide +kernel) (by decide +kernel)), ⟨_, _, cls11⟩, rfl, rfl⟩
theorem im_mm_state : IM M_mm_state 4 11 47 := ⟨⟨(gt_in 1887 (by decide +kernel) (by decide +kernel)), (gt_in 149 (by decide +kernel) (by decide +kernel)), by decide +kernel⟩, (gt_in 1885 (by decide +kernel) (by decide +kernel)), (gt_in 1886 (by decide +kernel) (by decide +kernel)), ⟨_, _, cls11⟩, rfl, rfl⟩
theorem im_mm_editionsOf : IM M_mm_editionsOf 0 11 47 := ⟨⟨(gt_in 1903 (by decide +kernel) (by decide +kernel)), (gt_in 149 (by decide +kernel) (by decide +kernel)), by decide +kernel⟩, (gt_in 1902 (by decide +kernel) (by decide +kernel)), (gt_in 126 (by decide +kernel) (by decide +kernel)), ⟨_, _, cls11⟩, rfl, rfl⟩
theorem im_mm_busiestOf : IM M_mm_busiestOf 0 11 47 := ⟨⟨(gt_in 1899 (by decide +kernel) (by decide +kernel)), (gt_in 149 (by decide +kernel) (by decide +kernel)), by decide +kernel⟩, (gt_in 1898 (by decide +kernel) (by decide +kernel)), (gt_in 125 (by decide +kernel) (by decide +kernel)), ⟨_, _, cls11⟩, rfl, rfl⟩
theorem im_mm_after : IM M_mm_after 3 11 47 := ⟨⟨(gt_in 1895 (by decide +kernel) (by decide +kernel)), (gt_in 149 (by decide +kernel) (by decide +kernel)), by decide +kernel⟩, (gt_in 1893 (by decide +kernel) (by decide +kernel)), (gt_in 1894 (by decide +kernel) (by decide +kernel)), ⟨_, _, cls11⟩, rfl, rfl⟩
theorem im_mm_isLog : IM M_mm_isLog 1 11 47 := ⟨⟨(gt_in 1911 (by decide +kernel) (by decide +kernel)), (gt_in 149 (by decide +kernel) (by decide +kernel)), by decide +kernel⟩, (gt_in 1910 (by decide +kernel) (by decide +kernel)), (gt_in 127 (by decide +kernel) (by decide +kernel)), ⟨_, _, cls11⟩, rfl, rfl⟩
theorem im_mm_fact : IM M_mm_fact 3 11 47 := ⟨⟨(gt_in 1907 (by decide +kernel) (by decide +kernel)), (gt_in 149 (by decide +kernel) (by decide +kernel)), by decide +kernel⟩, (gt_in 1905 (by decide +kernel) (by decide +kernel)), (gt_in 1906 (by decide +kernel) (by decide +kernel)), ⟨_, _, cls11⟩, rfl, rfl⟩
theorem im_mm_isSo : IM M_mm_isSo 0 11 47 := ⟨⟨(gt_in 1927 (by decide +kernel) (by decide +kernel)), (gt_in 149 (by decide +kernel) (by decide +kernel)), by decide +kernel⟩, (gt_in 1926 (by decide +kernel) (by decide +kernel)), (gt_in 130 (by decide +kernel) (by decide +kernel)), ⟨_, _, cls11⟩, rfl, rfl⟩
theorem im_mm_laysNoFits : IM M_mm_laysNoFits 0 11 47 := ⟨⟨(gt_in 1923 (by decide +kernel) (by decide +kernel)), (gt_in 149 (by decide +kernel) (by decide +kernel)), by decide +kernel⟩, (gt_in 1922 (by decide +kernel) (by decide +kernel)), (gt_in 129 (by decide +kernel) (by decide +kernel)), ⟨_, _, cls11⟩, rfl, rfl⟩
theorem im_mm_laysFit : IM M_mm_laysFit 1 11 47 := ⟨⟨(gt_in 1935 (by decide +kernel) (by decide +kernel)), (gt_in 149 (by decide +kernel) (by decide +kernel)), by decide +kernel⟩, (gt_in 1934 (by decide +kernel) (by decide +kernel)), (gt_in 132 (by decide +kernel) (by decide +kernel)), ⟨_, _, cls11⟩, rfl, rfl⟩
theorem im_mm_numberOf : IM M_mm_numberOf 0 11 47 := ⟨⟨(gt_in 1931 (by decide +kernel) (by decide +kernel)), (gt_in 149 (by decide +kernel) (by decide +kernel)), by decide +kernel⟩, (gt_in 1930 (by decide +kernel) (by decide +kernel)), (gt_in 131 (by decide +kernel) (by decide +kernel)), ⟨_, _, cls11⟩, rfl, rfl⟩
theorem im_mm_laysFits : IM M_mm_laysFits 1 11 47 := ⟨⟨(gt_in 1919 (by decide +kernel) (by decide +kernel)), (gt_in 149 (by decide +kernel) (by decide +kernel)), by decide +kernel⟩, (gt_in 1918 (by decide +kernel) (by decide +kernel)), (gt_in 128 (by decide +kernel) (by decide +kernel)), ⟨_, _, cls11⟩, rfl, rfl⟩
theorem im_mm_askOf : IM M_mm_askOf 0 11 47 := ⟨⟨(gt_in 1939 (by decide +kernel) (by decide +kernel)), (gt_in 149 (by decide +kernel) (by decide +kernel)), by decide +kernel⟩, (gt_in 1938 (by decide +kernel) (by decide +kernel)), (gt_in 133 (by decide +kernel) (by decide +kernel)), ⟨_, _, cls11⟩, rfl, rfl⟩
theorem im_mm_sureOf : IM M_mm_sureOf 1 11 47 := ⟨⟨(gt_in 1943 (by decide +kernel) (by decide +kernel)), (gt_in 149 (by decide +kernel) (by decide +kernel)), by decide +kernel⟩, (gt_in 1942 (by decide +kernel) (by decide +kernel)), (gt_in 134 (by decide +kernel) (by decide +kernel)), ⟨_, _, cls11⟩, rfl, rfl⟩
theorem im_mm_fits : IM M_mm_fits 3 11 47 := ⟨⟨(gt_in 1915 (by decide +kernel) (by decide +kernel)), (gt_in 149 (by decide +kernel) (by decide +kernel)), by decide +kernel⟩, (gt_in 1913 (by decide +kernel) (by decide +kernel)), (gt_in 1914 (by decide +kernel) (by decide +kernel)), ⟨_, _, cls11⟩, rfl, rfl⟩
theorem im_mm_ahead : IM M_mm_ahead 5 11 47 := ⟨⟨(gt_in 1947 (by decide +kernel) (by decide +kernel)), (gt_in 149 (by decide +kernel) (by decide +kernel)), by decide +kernel⟩, (gt_in 1945 (by decide +kernel) (by decide +kernel)), (gt_in 1946 (by decide +kernel) (by decide +kernel)), ⟨_, _, cls11⟩, rfl, rfl⟩
theorem im_mm_firsts : IM M_mm_firsts 3 11 47 := ⟨⟨(gt_in 1951 (by decide +kernel) (by decide +kernel)), (gt_in 149 (by decide +kernel) (by decide +kernel)), by decide +kernel⟩, (gt_in 1949 (by decide +kernel) (by decide +kernel)), (gt_in 1950 (by decide +kernel) (by decide +kernel)), ⟨_, _, cls11⟩, rfl, rfl⟩
theorem im_mm_below : IM M_mm_below 1 11 47 := ⟨⟨(gt_in 1963 (by decide +kernel) (by decide +kernel)), (gt_in 149 (by decide +kernel) (by decide +kernel)), by decide +kernel⟩, (gt_in 1962 (by decide +kernel) (by decide +kernel)), (gt_in 136 (by decide +kernel) (by decide +kernel)), ⟨_, _, cls11⟩, rfl, rfl⟩
theorem im_mm_draws : IM M_mm_draws 0 11 47 := ⟨⟨(gt_in 1959 (by decide +kernel) (by decide +kernel)), (gt_in 149 (by decide +kernel) (by decide +kernel)), by decide +kernel⟩, (gt_in 1958 (by decide +kernel) (by decide +kernel)), (gt_in 135 (by decide +kernel) (by decide +kernel)), ⟨_, _, cls11⟩, rfl, rfl⟩
theorem im_mm_drawn : IM M_mm_drawn 4 11 47 := ⟨⟨(gt_in 1955 (by decide +kernel) (by decide +kernel)), (gt_in 149 (by decide +kernel) (by decide +kernel)), by decide +kernel⟩, (gt_in 1953 (by decide +kernel) (by decide +kernel)), (gt_in 1954 (by decide +kernel) (by decide +kernel)), ⟨_, _, cls11⟩, rfl, rfl⟩
theorem im_mm_count : IM M_mm_count 1 11 47 := ⟨⟨(gt_in 1968 (by decide +kernel) (by decide +kernel)), (gt_in 149 (by decide +kernel) (by decide +kernel)), by decide +kernel⟩, (gt_in 1966 (by decide +kernel) (by decide +kernel)), (gt_in 1967 (by decide +kernel) (by decide +kernel)), ⟨_, _, cls11⟩, rfl, rfl⟩
theorem im_mm_image : IM M_mm_image 1 11 47 := ⟨⟨(gt_in 1972 (by decide +kernel) (by decide +kernel)), (gt_in 149 (by decide +kernel) (by decide +kernel)), by decide +kernel⟩, (gt_in 1970 (by decide +kernel) (by decide +kernel)), (gt_in 1971 (by decide +kernel) (by decide +kernel)), ⟨_, _, cls11⟩, rfl, rfl⟩
theorem im_mm_again : IM M_mm_again 1 11 47 := ⟨⟨(gt_in 1976 (by decide +kernel) (by decide +kernel)), (gt_in 149 (by decide +kernel) (by decide +kernel)), by decide +kernel⟩, (gt_in 1974 (by decide +kernel) (by decide +kernel)), (gt_in 1975 (by decide +kernel) (by decide +kernel)), ⟨_, _, cls11⟩, rfl, rfl⟩
theorem sm_cX_copyRow : SM M_cX_copyRow 2 := ⟨⟨(gt_in 754 (by decide +kernel) (by decide +kernel)), (gt_in 138 (by decide +kernel) (by decide +kernel)), by decide +kernel⟩, (gt_in 753 (by decide +kernel) (by decide +kernel)), rfl, rfl⟩
theorem lk_X10_77 : Cond.methodLink RX10 77 M_cTo_append.y ∈ lw_gt ∨ ∃ host : String, Cond.methodLinkNest RX10 77 M_cTo_append.y host ∈ lw_ns := Or.inl (gt_in 564 (by decide +kernel) (by decide +kernel))
theorem lk_X10_94 : Cond.methodLink RX10 94 M_cSc_take.y ∈ lw_gt ∨ ∃ host : String, Cond.methodLinkNest RX10 94 M_cSc_take.y host ∈ lw_ns := Or.inl (gt_in 576 (by decide +kernel) (by decide +kernel))
theorem lk_X10_102 : Cond.methodLink RX10 102 M_cTo_take.y ∈ lw_gt ∨ ∃ host : String, Cond.methodLinkNest RX10 102 M_cTo_take.y host ∈ lw_ns := Or.inl (gt_in 740 (by decide +kernel) (by decide +kernel))
theorem lk_X10_105 : Cond.methodLink RX10 105 M_cRw_forget.y ∈ lw_gt ∨ ∃ host : String, Cond.methodLinkNest RX10 105 M_cRw_forget.y host ∈ lw_ns := Or.inl (gt_in 769 (by decide +kernel) (by decide +kernel))
theorem lk_X10_108 : Cond.methodLink RX10 108 M_cTo_copy.y ∈ lw_gt ∨ ∃ host : String, Cond.methodLinkNest RX10 108 M_cTo_copy.y host ∈ lw_ns := Or.inl (gt_in 785 (by decide +kernel) (by decide +kernel))
theorem lk_X10_124 : Cond.methodLink RX10 124 M_cX_paperAt.y ∈ lw_gt ∨ ∃ host : String, Cond.methodLinkNest RX10 124 M_cX_paperAt.y host ∈ lw_ns := Or.inl (gt_in 799 (by decide +kernel) (by decide +kernel))
theorem lk_X10_128 : Cond.methodLink RX10 128 M_cPa_tell.y ∈ lw_gt ∨ ∃ host : String, Cond.methodLinkNest RX10 128 M_cPa_tell.y host ∈ lw_ns := Or.inl (gt_in 803 (by decide +kernel) (by decide +kernel))
theorem lk_X10_134 : Cond.methodLink RX10 134 M_cX_weekAt.y ∈ lw_gt ∨ ∃ host : String, Cond.methodLinkNest RX10 134 M_cX_weekAt.y host ∈ lw_ns := Or.inl (gt_in 818 (by decide +kernel) (by decide +kernel))
theorem lk_X10_152 : Cond.methodLink RX10 152 M_cX_logAt.y ∈ lw_gt ∨ ∃ host : String, Cond.methodLinkNest RX10 152 M_cX_logAt.y host ∈ lw_ns := Or.inl (gt_in 826 (by decide +kernel) (by decide +kernel))
theorem lk_X10_166 : Cond.methodLink RX10 166 M_cSt_run.y ∈ lw_gt ∨ ∃ host : String, Cond.methodLinkNest RX10 166 M_cSt_run.y host ∈ lw_ns := Or.inl (gt_in 834 (by decide +kernel) (by decide +kernel))
theorem lk_X10_170 : Cond.methodLink RX10 170 M_cSt_tell.y ∈ lw_gt ∨ ∃ host : String, Cond.methodLinkNest RX10 170 M_cSt_tell.y host ∈ lw_ns := Or.inl (gt_in 897 (by decide +kernel) (by decide +kernel))
theorem lk_X10_174 : Cond.methodLink RX10 174 M_cSt_busiest.y ∈ lw_gt ∨ ∃ host : String, Cond.methodLinkNest RX10 174 M_cSt_busiest.y host ∈ lw_ns := Or.inl (gt_in 909 (by decide +kernel) (by decide +kernel))
theorem lk_X10_187 : Cond.methodLink RX10 187 M_cLo_draw.y ∈ lw_gt ∨ ∃ host : String, Cond.methodLinkNest RX10 187 M_cLo_draw.y host ∈ lw_ns := Or.inl (gt_in 917 (by decide +kernel) (by decide +kernel))
theorem lk_X10_195 : Cond.methodLink RX10 195 M_cSt_runWhatMay.y ∈ lw_gt ∨ ∃ host : String, Cond.methodLinkNest RX10 195 M_cSt_runWhatMay.y host ∈ lw_ns := Or.inl (gt_in 931 (by decide +kernel) (by decide +kernel))
theorem lk_X10_202 : Cond.methodLink RX10 202 M_cNe_between.y ∈ lw_gt ∨ ∃ host : String, Cond.methodLinkNest RX10 202 M_cNe_between.y host ∈ lw_ns := Or.inl (gt_in 939 (by decide +kernel) (by decide +kernel))
theorem lk_X10_206 : Cond.methodLink RX10 206 M_cNe_next.y ∈ lw_gt ∨ ∃ host : String, Cond.methodLinkNest RX10 206 M_cNe_next.y host ∈ lw_ns := Or.inl (gt_in 947 (by decide +kernel) (by decide +kernel))
theorem lk_X10_209 : Cond.methodLink RX10 209 M_cNe_kinds.y ∈ lw_gt ∨ ∃ host : String, Cond.methodLinkNest RX10 209 M_cNe_kinds.y host ∈ lw_ns := Or.inl (gt_in 952 (by decide +kernel) (by decide +kernel))
theorem lk_X10_212 : Cond.methodLink RX10 212 M_cNe_largest.y ∈ lw_gt ∨ ∃ host : String, Cond.methodLinkNest RX10 212 M_cNe_largest.y host ∈ lw_ns := Or.inl (gt_in 961 (by decide +kernel) (by decide +kernel))
theorem lk_X10_215 : Cond.methodLink RX10 215 M_cNe_widest.y ∈ lw_gt ∨ ∃ host : String, Cond.methodLinkNest RX10 215 M_cNe_widest.y host ∈ lw_ns := Or.inl (gt_in 967 (by decide +kernel) (by decide +kernel))
theorem lk_X10_218 : Cond.methodLink RX10 218 M_cNe_lone.y ∈ lw_gt ∨ ∃ host : String, Cond.methodLinkNest RX10 218 M_cNe_lone.y host ∈ lw_ns := Or.inl (gt_in 971 (by decide +kernel) (by decide +kernel))
theorem lk_X10_221 : Cond.methodLink RX10 221 M_cX_bridges.y ∈ lw_gt ∨ ∃ host : String, Cond.methodLinkNest RX10 221 M_cX_bridges.y host ∈ lw_ns := Or.inl (gt_in 975 (by decide +kernel) (by decide +kernel))
theorem lk_X10_225 : Cond.methodLink RX10 225 M_cX_circle.y ∈ lw_gt ∨ ∃ host : String, Cond.methodLinkNest RX10 225 M_cX_circle.y host ∈ lw_ns := Or.inl (gt_in 987 (by decide +kernel) (by decide +kernel))
theorem lk_X10_228 : Cond.methodLink RX10 228 M_cNe_copy.y ∈ lw_gt ∨ ∃ host : String, Cond.methodLinkNest RX10 228 M_cNe_copy.y host ∈ lw_ns := Or.inl (gt_in 979 (by decide +kernel) (by decide +kernel))
theorem lk_X10_231 : Cond.methodLink RX10 231 M_cNe_near.y ∈ lw_gt ∨ ∃ host : String, Cond.methodLinkNest RX10 231 M_cNe_near.y host ∈ lw_ns := Or.inl (gt_in 980 (by decide +kernel) (by decide +kernel))
theorem lk_X10_235 : Cond.methodLink RX10 235 M_cX_aroundTo.y ∈ lw_gt ∨ ∃ host : String, Cond.methodLinkNest RX10 235 M_cX_aroundTo.y host ∈ lw_ns := Or.inl (gt_in 981 (by decide +kernel) (by decide +kernel))
theorem lk_X10_238 : Cond.methodLink RX10 238 M_cNe_part.y ∈ lw_gt ∨ ∃ host : String, Cond.methodLinkNest RX10 238 M_cNe_part.y host ∈ lw_ns := Or.inl (gt_in 985 (by decide +kernel) (by decide +kernel))
theorem lk_X10_242 : Cond.methodLink RX10 242 M_cNe_join.y ∈ lw_gt ∨ ∃ host : String, Cond.methodLinkNest RX10 242 M_cNe_join.y host ∈ lw_ns := Or.inl (gt_in 986 (by decide +kernel) (by decide +kernel))
theorem lk_X10_251 : Cond.methodLink RX10 251 M_cPa_readBy.y ∈ lw_gt ∨ ∃ host : String, Cond.methodLinkNest RX10 251 M_cPa_readBy.y host ∈ lw_ns := Or.inl (gt_in 995 (by decide +kernel) (by decide +kernel))
theorem lk_X10_254 : Cond.methodLink RX10 254 M_cX_unlikePlaces.y ∈ lw_gt ∨ ∃ host : String, Cond.methodLinkNest RX10 254 M_cX_unlikePlaces.y host ∈ lw_ns := Or.inl (gt_in 1000 (by decide +kernel) (by decide +kernel))
theorem lk_X10_257 : Cond.methodLink RX10 257 M_jI_bitCount.y ∈ lw_gt ∨ ∃ host : String, Cond.methodLinkNest RX10 257 M_jI_bitCount.y host ∈ lw_ns := Or.inl (gt_in 1001 (by decide +kernel) (by decide +kernel))
theorem lk_X10_262 : Cond.methodLink RX10 262 M_cPa_contentOfAll.y ∈ lw_gt ∨ ∃ host : String, Cond.methodLinkNest RX10 262 M_cPa_contentOfAll.y host ∈ lw_ns := Or.inl (gt_in 1002 (by decide +kernel) (by decide +kernel))
theorem lk_X10_265 : Cond.methodLink RX10 265 M_cX_standsAt.y ∈ lw_gt ∨ ∃ host : String, Cond.methodLinkNest RX10 265 M_cX_standsAt.y host ∈ lw_ns := Or.inl (gt_in 1007 (by decide +kernel) (by decide +kernel))
theorem lk_X10_272 : Cond.methodLink RX10 272 M_cX_wordAt.y ∈ lw_gt ∨ ∃ host : String, Cond.methodLinkNest RX10 272 M_cX_wordAt.y host ∈ lw_ns := Or.inl (gt_in 875 (by decide +kernel) (by decide +kernel))
theorem lk_X10_275 : Cond.methodLink RX10 275 M_cRo_run.y ∈ lw_gt ∨ ∃ host : String, Cond.methodLinkNest RX10 275 M_cRo_run.y host ∈ lw_ns := Or.inl (gt_in 1014 (by decide +kernel) (by decide +kernel))
theorem lk_X10_287 : Cond.methodLink RX10 287 M_cPa_farFrom.y ∈ lw_gt ∨ ∃ host : String, Cond.methodLinkNest RX10 287 M_cPa_farFrom.y host ∈ lw_ns := Or.inl (gt_in 1031 (by decide +kernel) (by decide +kernel))
theorem lk_X10_290 : Cond.methodLink RX10 290 M_cPa_readingsOf.y ∈ lw_gt ∨ ∃ host : String, Cond.methodLinkNest RX10 290 M_cPa_readingsOf.y host ∈ lw_ns := Or.inl (gt_in 1037 (by decide +kernel) (by decide +kernel))
theorem lk_X10_293 : Cond.methodLink RX10 293 M_cPa_rivals.y ∈ lw_gt ∨ ∃ host : String, Cond.methodLinkNest RX10 293 M_cPa_rivals.y host ∈ lw_ns := Or.inl (gt_in 1042 (by decide +kernel) (by decide +kernel))
theorem lk_X10_296 : Cond.methodLink RX10 296 M_cPa_idle.y ∈ lw_gt ∨ ∃ host : String, Cond.methodLinkNest RX10 296 M_cPa_idle.y host ∈ lw_ns := Or.inl (gt_in 1054 (by decide +kernel) (by decide +kernel))
theorem lk_X10_299 : Cond.methodLink RX10 299 M_cX_bestLast.y ∈ lw_gt ∨ ∃ host : String, Cond.methodLinkNest RX10 299 M_cX_bestLast.y host ∈ lw_ns := Or.inl (gt_in 1058 (by decide +kernel) (by decide +kernel))
theorem lk_X10_302 : Cond.methodLink RX10 302 M_cX_which.y ∈ lw_gt ∨ ∃ host : String, Cond.methodLinkNest RX10 302 M_cX_which.y host ∈ lw_ns := Or.inl (gt_in 1064 (by decide +kernel) (by decide +kernel))
theorem lk_X10_305 : Cond.methodLink RX10 305 M_cX_howMuch.y ∈ lw_gt ∨ ∃ host : String, Cond.methodLinkNest RX10 305 M_cX_howMuch.y host ∈ lw_ns := Or.inl (gt_in 1067 (by decide +kernel) (by decide +kernel))
theorem lk_X10_308 : Cond.methodLink RX10 308 M_cX_bestSwap.y ∈ lw_gt ∨ ∃ host : String, Cond.methodLinkNest RX10 308 M_cX_bestSwap.y host ∈ lw_ns := Or.inl (gt_in 1070 (by decide +kernel) (by decide +kernel))
theorem lk_X10_311 : Cond.methodLink RX10 311 M_cX_bestCouple.y ∈ lw_gt ∨ ∃ host : String, Cond.methodLinkNest RX10 311 M_cX_bestCouple.y host ∈ lw_ns := Or.inl (gt_in 1073 (by decide +kernel) (by decide +kernel))
theorem lk_X10_314 : Cond.methodLink RX10 314 M_cX_blame.y ∈ lw_gt ∨ ∃ host : String, Cond.methodLinkNest RX10 314 M_cX_blame.y host ∈ lw_ns := Or.inl (gt_in 1081 (by decide +kernel) (by decide +kernel))
theorem lk_X10_318 : Cond.methodLink RX10 318 M_cX_better.y ∈ lw_gt ∨ ∃ host : String, Cond.methodLinkNest RX10 318 M_cX_better.y host ∈ lw_ns := Or.inl (gt_in 1061 (by decide +kernel) (by decide +kernel))
theorem lk_X10_322 : Cond.methodLink RX10 322 M_cPa_round.y ∈ lw_gt ∨ ∃ host : String, Cond.methodLinkNest RX10 322 M_cPa_round.y host ∈ lw_ns := Or.inl (gt_in 1077 (by decide +kernel) (by decide +kernel))
theorem lk_X10_326 : Cond.methodLink RX10 326 M_cX_longestDesk.y ∈ lw_gt ∨ ∃ host : String, Cond.methodLinkNest RX10 326 M_cX_longestDesk.y host ∈ lw_ns := Or.inl (gt_in 1088 (by decide +kernel) (by decide +kernel))
theorem lk_X10_329 : Cond.methodLink RX10 329 M_cX_deskOf.y ∈ lw_gt ∨ ∃ host : String, Cond.methodLinkNest RX10 329 M_cX_deskOf.y host ∈ lw_ns := Or.inl (gt_in 1097 (by decide +kernel) (by decide +kernel))
theorem lk_X10_333 : Cond.methodLink RX10 333 M_cX_clearRow.y ∈ lw_gt ∨ ∃ host : String, Cond.methodLinkNest RX10 333 M_cX_clearRow.y host ∈ lw_ns := Or.inl (gt_in 1092 (by decide +kernel) (by decide +kernel))
theorem lk_X10_344 : Cond.methodLink RX10 344 M_cPa_content.y ∈ lw_gt ∨ ∃ host : String, Cond.methodLinkNest RX10 344 M_cPa_content.y host ∈ lw_ns := Or.inl (gt_in 1104 (by decide +kernel) (by decide +kernel))
theorem lk_X10_347 : Cond.methodLink RX10 347 (M_cX_bestLead 0).y ∈ lw_gt ∨ ∃ host : String, Cond.methodLinkNest RX10 347 (M_cX_bestLead 0).y host ∈ lw_ns := Or.inl (gt_in 1105 (by decide +kernel) (by decide +kernel))
theorem lk_X10_351 : Cond.methodLink RX10 351 M_cX_bestPlace.y ∈ lw_gt ∨ ∃ host : String, Cond.methodLinkNest RX10 351 M_cX_bestPlace.y host ∈ lw_ns := Or.inl (gt_in 1118 (by decide +kernel) (by decide +kernel))
theorem lk_X10_355 : Cond.methodLink RX10 355 M_cPa_wish.y ∈ lw_gt ∨ ∃ host : String, Cond.methodLinkNest RX10 355 M_cPa_wish.y host ∈ lw_ns := Or.inl (gt_in 1108 (by decide +kernel) (by decide +kernel))
theorem lk_X10_358 : Cond.methodLink RX10 358 M_cPa_gain.y ∈ lw_gt ∨ ∃ host : String, Cond.methodLinkNest RX10 358 M_cPa_gain.y host ∈ lw_ns := Or.inl (gt_in 1109 (by decide +kernel) (by decide +kernel))
theorem lk_X10_362 : Cond.methodLink RX10 362 M_cX_put.y ∈ lw_gt ∨ ∃ host : String, Cond.methodLinkNest RX10 362 M_cX_put.y host ∈ lw_ns := Or.inl (gt_in 1117 (by decide +kernel) (by decide +kernel))
theorem lk_X10_365 : Cond.methodLink RX10 365 M_cPa_unlikeWishes.y ∈ lw_gt ∨ ∃ host : String, Cond.methodLinkNest RX10 365 M_cPa_unlikeWishes.y host ∈ lw_ns := Or.inl (gt_in 1125 (by decide +kernel) (by decide +kernel))
theorem lk_X10_368 : Cond.methodLink RX10 368 M_cX_tellsApart.y ∈ lw_gt ∨ ∃ host : String, Cond.methodLinkNest RX10 368 M_cX_tellsApart.y host ∈ lw_ns := Or.inl (gt_in 1129 (by decide +kernel) (by decide +kernel))
theorem lk_X10_371 : Cond.methodLink RX10 371 M_cX_mostOfRow.y ∈ lw_gt ∨ ∃ host : String, Cond.methodLinkNest RX10 371 M_cX_mostOfRow.y host ∈ lw_ns := Or.inl (gt_in 1137 (by decide +kernel) (by decide +kernel))
theorem lk_X10_374 : Cond.methodLink RX10 374 M_cX_atPeace.y ∈ lw_gt ∨ ∃ host : String, Cond.methodLinkNest RX10 374 M_cX_atPeace.y host ∈ lw_ns := Or.inl (gt_in 1145 (by decide +kernel) (by decide +kernel))
theorem lk_X10_377 : Cond.methodLink RX10 377 M_cPa_stepsToAll.y ∈ lw_gt ∨ ∃ host : String, Cond.methodLinkNest RX10 377 M_cPa_stepsToAll.y host ∈ lw_ns := Or.inl (gt_in 1153 (by decide +kernel) (by decide +kernel))
theorem lk_X10_380 : Cond.methodLink RX10 380 M_cX_longestRise.y ∈ lw_gt ∨ ∃ host : String, Cond.methodLinkNest RX10 380 M_cX_longestRise.y host ∈ lw_ns := Or.inl (gt_in 1161 (by decide +kernel) (by decide +kernel))
theorem lk_X10_383 : Cond.methodLink RX10 383 M_cPa_bend.y ∈ lw_gt ∨ ∃ host : String, Cond.methodLinkNest RX10 383 M_cPa_bend.y host ∈ lw_ns := Or.inl (gt_in 1165 (by decide +kernel) (by decide +kernel))
theorem lk_X10_386 : Cond.methodLink RX10 386 M_cPa_twice.y ∈ lw_gt ∨ ∃ host : String, Cond.methodLinkNest RX10 386 M_cPa_twice.y host ∈ lw_ns := Or.inl (gt_in 1169 (by decide +kernel) (by decide +kernel))
theorem lk_X10_389 : Cond.methodLink RX10 389 M_cX_unlikeWords.y ∈ lw_gt ∨ ∃ host : String, Cond.methodLinkNest RX10 389 M_cX_unlikeWords.y host ∈ lw_ns := Or.inl (gt_in 1177 (by decide +kernel) (by decide +kernel))
theorem lk_X10_392 : Cond.methodLink RX10 392 M_cX_commonWord.y ∈ lw_gt ∨ ∃ host : String, Cond.methodLinkNest RX10 392 M_cX_commonWord.y host ∈ lw_ns := Or.inl (gt_in 1185 (by decide +kernel) (by decide +kernel))
theorem lk_X10_395 : Cond.methodLink RX10 395 M_cX_riseAt.y ∈ lw_gt ∨ ∃ host : String, Cond.methodLinkNest RX10 395 M_cX_riseAt.y host ∈ lw_ns := Or.inl (gt_in 1189 (by decide +kernel) (by decide +kernel))
theorem lk_X10_398 : Cond.methodLink RX10 398 M_cX_countWords.y ∈ lw_gt ∨ ∃ host : String, Cond.methodLinkNest RX10 398 M_cX_countWords.y host ∈ lw_ns := Or.inl (gt_in 1181 (by decide +kernel) (by decide +kernel))
theorem lk_X10_401 : Cond.methodLink RX10 401 M_cRw_make.y ∈ lw_gt ∨ ∃ host : String, Cond.methodLinkNest RX10 401 M_cRw_make.y host ∈ lw_ns := Or.inl (gt_in 1197 (by decide +kernel) (by decide +kernel))
theorem lk_X10_405 : Cond.methodLink RX10 405 M_cRw_mostContent.y ∈ lw_gt ∨ ∃ host : String, Cond.methodLinkNest RX10 405 M_cRw_mostContent.y host ∈ lw_ns := Or.inl (gt_in 1216 (by decide +kernel) (by decide +kernel))
theorem lk_X10_410 : Cond.methodLink RX10 410 M_cRw_readerAt.y ∈ lw_gt ∨ ∃ host : String, Cond.methodLinkNest RX10 410 M_cRw_readerAt.y host ∈ lw_ns := Or.inl (gt_in 1220 (by decide +kernel) (by decide +kernel))
theorem lk_X10_413 : Cond.methodLink RX10 413 M_cRw_choose.y ∈ lw_gt ∨ ∃ host : String, Cond.methodLinkNest RX10 413 M_cRw_choose.y host ∈ lw_ns := Or.inl (gt_in 1230 (by decide +kernel) (by decide +kernel))
theorem lk_X10_420 : Cond.methodLink RX10 420 M_cRw_ask.y ∈ lw_gt ∨ ∃ host : String, Cond.methodLinkNest RX10 420 M_cRw_ask.y host ∈ lw_ns := Or.inl (gt_in 1239 (by decide +kernel) (by decide +kernel))
theorem lk_X10_424 : Cond.methodLink RX10 424 M_cRw_sure.y ∈ lw_gt ∨ ∃ host : String, Cond.methodLinkNest RX10 424 M_cRw_sure.y host ∈ lw_ns := Or.inl (gt_in 1249 (by decide +kernel) (by decide +kernel))
theorem lk_X10_433 : Cond.methodLink RX10 433 M_cRw_manyAhead.y ∈ lw_gt ∨ ∃ host : String, Cond.methodLinkNest RX10 433 M_cRw_manyAhead.y host ∈ lw_ns := Or.inl (gt_in 1258 (by decide +kernel) (by decide +kernel))
theorem lk_X10_436 : Cond.methodLink RX10 436 M_cX_inLeast.y ∈ lw_gt ∨ ∃ host : String, Cond.methodLinkNest RX10 436 M_cX_inLeast.y host ∈ lw_ns := Or.inl (gt_in 1262 (by decide +kernel) (by decide +kernel))
theorem lk_X10_440 : Cond.methodLink RX10 440 M_cRw_readersAt.y ∈ lw_gt ∨ ∃ host : String, Cond.methodLinkNest RX10 440 M_cRw_readersAt.y host ∈ lw_ns := Or.inl (gt_in 1269 (by decide +kernel) (by decide +kernel))
theorem lk_X10_443 : Cond.methodLink RX10 443 M_cRw_mostFitting.y ∈ lw_gt ∨ ∃ host : String, Cond.methodLinkNest RX10 443 M_cRw_mostFitting.y host ∈ lw_ns := Or.inl (gt_in 1273 (by decide +kernel) (by decide +kernel))
theorem lk_X10_446 : Cond.methodLink RX10 446 M_cRw_leastFitting.y ∈ lw_gt ∨ ∃ host : String, Cond.methodLinkNest RX10 446 M_cRw_leastFitting.y host ∈ lw_ns := Or.inl (gt_in 1277 (by decide +kernel) (by decide +kernel))
theorem lk_X0_22 : Cond.methodLink RX0 22 M_cX_copyRow.y ∈ lw_gt ∨ ∃ host : String, Cond.methodLinkNest RX0 22 M_cX_copyRow.y host ∈ lw_ns := Or.inr ⟨"ProofLine", (ns_in 767 (by decide +kernel) (by decide +kernel))⟩
theorem lk_X0_26 : Cond.methodLink RX0 26 M_cX_wordAt.y ∈ lw_gt ∨ ∃ host : String, Cond.methodLinkNest RX0 26 M_cX_wordAt.y host ∈ lw_ns := Or.inr ⟨"ProofLine", (ns_in 1238 (by decide +kernel) (by decide +kernel))⟩
theorem lk_X1_33 : Cond.methodLink RX1 33 M_cLo_below.y ∈ lw_gt ∨ ∃ host : String, Cond.methodLinkNest RX1 33 M_cLo_below.y host ∈ lw_ns := Or.inl (gt_in 921 (by decide +kernel) (by decide +kernel))
theorem lk_X1_37 : Cond.methodLink RX1 37 M_cLo_drawDeed.y ∈ lw_gt ∨ ∃ host : String, Cond.methodLinkNest RX1 37 M_cLo_drawDeed.y host ∈ lw_ns := Or.inl (gt_in 926 (by decide +kernel) (by decide +kernel))
theorem lk_X1_42 : Cond.methodLink RX1 42 M_cWe_add.y ∈ lw_gt ∨ ∃ host : String, Cond.methodLinkNest RX1 42 M_cWe_add.y host ∈ lw_ns := Or.inl (gt_in 930 (by decide +kernel) (by decide +kernel))
theorem lk_X2_25 : Cond.methodLink RX2 25 M_cX_copyRow.y ∈ lw_gt ∨ ∃ host : String, Cond.methodLinkNest RX2 25 M_cX_copyRow.y host ∈ lw_ns := Or.inr ⟨"ProofLine", (ns_in 752 (by decide +kernel) (by decide +kernel))⟩
theorem lk_X2_29 : Cond.methodLink RX2 29 M_cX_isWord.y ∈ lw_gt ∨ ∃ host : String, Cond.methodLinkNest RX2 29 M_cX_isWord.y host ∈ lw_ns := Or.inr ⟨"ProofLine", (ns_in 721 (by decide +kernel) (by decide +kernel))⟩
theorem lk_X2_33 : Cond.methodLink RX2 33 M_cNe_reach.y ∈ lw_gt ∨ ∃ host : String, Cond.methodLinkNest RX2 33 M_cNe_reach.y host ∈ lw_ns := Or.inl (gt_in 868 (by decide +kernel) (by decide +kernel))
theorem lk_X2_37 : Cond.methodLink RX2 37 M_cNe_between.y ∈ lw_gt ∨ ∃ host : String, Cond.methodLinkNest RX2 37 M_cNe_between.y host ∈ lw_ns := Or.inl (gt_in 960 (by decide +kernel) (by decide +kernel))
theorem lk_X2_41 : Cond.methodLink RX2 41 M_cNe_kinOf.y ∈ lw_gt ∨ ∃ host : String, Cond.methodLinkNest RX2 41 M_cNe_kinOf.y host ∈ lw_ns := Or.inl (gt_in 956 (by decide +kernel) (by decide +kernel))
theorem lk_X2_45 : Cond.methodLink RX2 45 M_jI_bitCount.y ∈ lw_gt ∨ ∃ host : String, Cond.methodLinkNest RX2 45 M_jI_bitCount.y host ∈ lw_ns := Or.inl (gt_in 965 (by decide +kernel) (by decide +kernel))
theorem lk_X3_38 : Cond.methodLink RX3 38 M_cNe_clear.y ∈ lw_gt ∨ ∃ host : String, Cond.methodLinkNest RX3 38 M_cNe_clear.y host ∈ lw_ns := Or.inl (gt_in 593 (by decide +kernel) (by decide +kernel))
theorem lk_X3_41 : Cond.methodLink RX3 41 M_cNe_copy.y ∈ lw_gt ∨ ∃ host : String, Cond.methodLinkNest RX3 41 M_cNe_copy.y host ∈ lw_ns := Or.inl (gt_in 748 (by decide +kernel) (by decide +kernel))
theorem lk_X3_45 : Cond.methodLink RX3 45 M_cX_copyRow.y ∈ lw_gt ∨ ∃ host : String, Cond.methodLinkNest RX3 45 M_cX_copyRow.y host ∈ lw_ns := Or.inr ⟨"ProofLine", (ns_in 757 (by decide +kernel) (by decide +kernel))⟩
theorem lk_X3_49 : Cond.methodLink RX3 49 M_cX_put.y ∈ lw_gt ∨ ∃ host : String, Cond.methodLinkNest RX3 49 M_cX_put.y host ∈ lw_ns := Or.inr ⟨"ProofLine", (ns_in 714 (by decide +kernel) (by decide +kernel))⟩
theorem lk_X3_53 : Cond.methodLink RX3 53 M_cX_wordAt.y ∈ lw_gt ∨ ∃ host : String, Cond.methodLinkNest RX3 53 M_cX_wordAt.y host ∈ lw_ns := Or.inr ⟨"ProofLine", (ns_in 807 (by decide +kernel) (by decide +kernel))⟩
theorem lk_X3_60 : Cond.methodLink RX3 60 M_cPa_wish.y ∈ lw_gt ∨ ∃ host : String, Cond.methodLinkNest RX3 60 M_cPa_wish.y host ∈ lw_ns := Or.inl (gt_in 810 (by decide +kernel) (by decide +kernel))
theorem lk_X3_63 : Cond.methodLink RX3 63 M_cPa_content.y ∈ lw_gt ∨ ∃ host : String, Cond.methodLinkNest RX3 63 M_cPa_content.y host ∈ lw_ns := Or.inl (gt_in 1006 (by decide +kernel) (by decide +kernel))
theorem lk_X3_66 : Cond.methodLink RX3 66 M_cPa_leadAt.y ∈ lw_gt ∨ ∃ host : String, Cond.methodLinkNest RX3 66 M_cPa_leadAt.y host ∈ lw_ns := Or.inl (gt_in 1113 (by decide +kernel) (by decide +kernel))
theorem lk_X3_70 : Cond.methodLink RX3 70 M_cPa_readIn.y ∈ lw_gt ∨ ∃ host : String, Cond.methodLinkNest RX3 70 M_cPa_readIn.y host ∈ lw_ns := Or.inl (gt_in 999 (by decide +kernel) (by decide +kernel))
theorem lk_X3_74 : Cond.methodLink RX3 74 M_cNe_next.y ∈ lw_gt ∨ ∃ host : String, Cond.methodLinkNest RX3 74 M_cNe_next.y host ∈ lw_ns := Or.inl (gt_in 864 (by decide +kernel) (by decide +kernel))
theorem lk_X3_77 : Cond.methodLink RX3 77 M_cPa_readBy.y ∈ lw_gt ∨ ∃ host : String, Cond.methodLinkNest RX3 77 M_cPa_readBy.y host ∈ lw_ns := Or.inl (gt_in 1041 (by decide +kernel) (by decide +kernel))
theorem lk_X3_80 : Cond.methodLink RX3 80 M_cNe_between.y ∈ lw_gt ∨ ∃ host : String, Cond.methodLinkNest RX3 80 M_cNe_between.y host ∈ lw_ns := Or.inl (gt_in 1035 (by decide +kernel) (by decide +kernel))
theorem lk_X3_88 : Cond.methodLink RX3 88 M_cPa_areRivals.y ∈ lw_gt ∨ ∃ host : String, Cond.methodLinkNest RX3 88 M_cPa_areRivals.y host ∈ lw_ns := Or.inl (gt_in 1046 (by decide +kernel) (by decide +kernel))
theorem lk_X3_92 : Cond.methodLink RX3 92 M_cPa_alikeFrom.y ∈ lw_gt ∨ ∃ host : String, Cond.methodLinkNest RX3 92 M_cPa_alikeFrom.y host ∈ lw_ns := Or.inl (gt_in 1173 (by decide +kernel) (by decide +kernel))
theorem lk_X4_30 : Cond.methodLink RX4 30 M_cRo_lap.y ∈ lw_gt ∨ ∃ host : String, Cond.methodLinkNest RX4 30 M_cRo_lap.y host ∈ lw_ns := Or.inl (gt_in 1018 (by decide +kernel) (by decide +kernel))
theorem lk_X4_34 : Cond.methodLink RX4 34 M_cRo_seek.y ∈ lw_gt ∨ ∃ host : String, Cond.methodLinkNest RX4 34 M_cRo_seek.y host ∈ lw_ns := Or.inl (gt_in 1023 (by decide +kernel) (by decide +kernel))
theorem lk_X4_41 : Cond.methodLink RX4 41 M_cPa_readBy.y ∈ lw_gt ∨ ∃ host : String, Cond.methodLinkNest RX4 41 M_cPa_readBy.y host ∈ lw_ns := Or.inl (gt_in 1022 (by decide +kernel) (by decide +kernel))
theorem lk_X5_55 : Cond.methodLink RX5 55 M_cPa_readBy.y ∈ lw_gt ∨ ∃ host : String, Cond.methodLinkNest RX5 55 M_cPa_readBy.y host ∈ lw_ns := Or.inl (gt_in 1202 (by decide +kernel) (by decide +kernel))
theorem lk_X5_58 : Cond.methodLink RX5 58 M_cRw_keep.y ∈ lw_gt ∨ ∃ host : String, Cond.methodLinkNest RX5 58 M_cRw_keep.y host ∈ lw_ns := Or.inl (gt_in 1203 (by decide +kernel) (by decide +kernel))
theorem lk_X5_62 : Cond.methodLink RX5 62 M_cRw_turn.y ∈ lw_gt ∨ ∃ host : String, Cond.methodLinkNest RX5 62 M_cRw_turn.y host ∈ lw_ns := Or.inl (gt_in 1208 (by decide +kernel) (by decide +kernel))
theorem lk_X5_66 : Cond.methodLink RX5 66 M_cPa_contentOfAll.y ∈ lw_gt ∨ ∃ host : String, Cond.methodLinkNest RX5 66 M_cPa_contentOfAll.y host ∈ lw_ns := Or.inl (gt_in 1207 (by decide +kernel) (by decide +kernel))
theorem lk_X5_70 : Cond.methodLink RX5 70 M_cRw_swap.y ∈ lw_gt ∨ ∃ host : String, Cond.methodLinkNest RX5 70 M_cRw_swap.y host ∈ lw_ns := Or.inl (gt_in 1212 (by decide +kernel) (by decide +kernel))
theorem lk_X5_80 : Cond.methodLink RX5 80 M_cLg_agrees.y ∈ lw_gt ∨ ∃ host : String, Cond.methodLinkNest RX5 80 M_cLg_agrees.y host ∈ lw_ns := Or.inl (gt_in 1234 (by decide +kernel) (by decide +kernel))
theorem lk_X5_86 : Cond.methodLink RX5 86 M_cRw_mostAlike.y ∈ lw_gt ∨ ∃ host : String, Cond.methodLinkNest RX5 86 M_cRw_mostAlike.y host ∈ lw_ns := Or.inl (gt_in 1243 (by decide +kernel) (by decide +kernel))
theorem lk_X5_90 : Cond.methodLink RX5 90 M_cX_wordAt.y ∈ lw_gt ∨ ∃ host : String, Cond.methodLinkNest RX5 90 M_cX_wordAt.y host ∈ lw_ns := Or.inr ⟨"ProofLine", (ns_in 1247 (by decide +kernel) (by decide +kernel))⟩
theorem lk_X5_96 : Cond.methodLink RX5 96 M_cRw_readerAt.y ∈ lw_gt ∨ ∃ host : String, Cond.methodLinkNest RX5 96 M_cRw_readerAt.y host ∈ lw_ns := Or.inl (gt_in 1253 (by decide +kernel) (by decide +kernel))
theorem lk_X6_59 : Cond.methodLink RX6 59 M_cPa_clear.y ∈ lw_gt ∨ ∃ host : String, Cond.methodLinkNest RX6 59 M_cPa_clear.y host ∈ lw_ns := Or.inl (gt_in 589 (by decide +kernel) (by decide +kernel))
theorem lk_X6_83 : Cond.methodLink RX6 83 M_cSc_move.y ∈ lw_gt ∨ ∃ host : String, Cond.methodLinkNest RX6 83 M_cSc_move.y host ∈ lw_ns := Or.inl (gt_in 597 (by decide +kernel) (by decide +kernel))
theorem lk_X6_89 : Cond.methodLink RX6 89 M_cSc_line.y ∈ lw_gt ∨ ∃ host : String, Cond.methodLinkNest RX6 89 M_cSc_line.y host ∈ lw_ns := Or.inl (gt_in 615 (by decide +kernel) (by decide +kernel))
theorem lk_X6_96 : Cond.methodLink RX6 96 M_cSc_note.y ∈ lw_gt ∨ ∃ host : String, Cond.methodLinkNest RX6 96 M_cSc_note.y host ∈ lw_ns := Or.inl (gt_in 694 (by decide +kernel) (by decide +kernel))
theorem lk_X6_103 : Cond.methodLink RX6 103 M_cSc_lineOf.y ∈ lw_gt ∨ ∃ host : String, Cond.methodLinkNest RX6 103 M_cSc_lineOf.y host ∈ lw_ns := Or.inl (gt_in 619 (by decide +kernel) (by decide +kernel))
theorem lk_X6_107 : Cond.methodLink RX6 107 M_cSc_breakOff.y ∈ lw_gt ∨ ∃ host : String, Cond.methodLinkNest RX6 107 M_cSc_breakOff.y host ∈ lw_ns := Or.inl (gt_in 686 (by decide +kernel) (by decide +kernel))
theorem lk_X6_110 : Cond.methodLink RX6 110 M_cSc_isFull.y ∈ lw_gt ∨ ∃ host : String, Cond.methodLinkNest RX6 110 M_cSc_isFull.y host ∈ lw_ns := Or.inl (gt_in 690 (by decide +kernel) (by decide +kernel))
theorem lk_X6_123 : Cond.methodLink RX6 123 M_cSc_mayBe.y ∈ lw_gt ∨ ∃ host : String, Cond.methodLinkNest RX6 123 M_cSc_mayBe.y host ∈ lw_ns := Or.inl (gt_in 700 (by decide +kernel) (by decide +kernel))
theorem lk_X6_127 : Cond.methodLink RX6 127 M_cSc_keep.y ∈ lw_gt ∨ ∃ host : String, Cond.methodLinkNest RX6 127 M_cSc_keep.y host ∈ lw_ns := Or.inl (gt_in 706 (by decide +kernel) (by decide +kernel))
theorem lk_X6_132 : Cond.methodLink RX6 132 M_cSc_spells.y ∈ lw_gt ∨ ∃ host : String, Cond.methodLinkNest RX6 132 M_cSc_spells.y host ∈ lw_ns := Or.inl (gt_in 624 (by decide +kernel) (by decide +kernel))
theorem lk_X6_162 : Cond.methodLink RX6 162 M_cSc_byteAt.y ∈ lw_gt ∨ ∃ host : String, Cond.methodLinkNest RX6 162 M_cSc_byteAt.y host ∈ lw_ns := Or.inl (gt_in 601 (by decide +kernel) (by decide +kernel))
theorem lk_X6_172 : Cond.methodLink RX6 172 M_cPa_addPlace.y ∈ lw_gt ∨ ∃ host : String, Cond.methodLinkNest RX6 172 M_cPa_addPlace.y host ∈ lw_ns := Or.inl (gt_in 710 (by decide +kernel) (by decide +kernel))
theorem lk_X6_179 : Cond.methodLink RX6 179 M_cNe_join.y ∈ lw_gt ∨ ∃ host : String, Cond.methodLinkNest RX6 179 M_cNe_join.y host ∈ lw_ns := Or.inl (gt_in 717 (by decide +kernel) (by decide +kernel))
theorem lk_X6_183 : Cond.methodLink RX6 183 M_cPa_addReader.y ∈ lw_gt ∨ ∃ host : String, Cond.methodLinkNest RX6 183 M_cPa_addReader.y host ∈ lw_ns := Or.inl (gt_in 724 (by decide +kernel) (by decide +kernel))
theorem lk_X6_186 : Cond.methodLink RX6 186 M_cPa_want.y ∈ lw_gt ∨ ∃ host : String, Cond.methodLinkNest RX6 186 M_cPa_want.y host ∈ lw_ns := Or.inl (gt_in 728 (by decide +kernel) (by decide +kernel))
theorem lk_X6_190 : Cond.methodLink RX6 190 M_cLg_add.y ∈ lw_gt ∨ ∃ host : String, Cond.methodLinkNest RX6 190 M_cLg_add.y host ∈ lw_ns := Or.inl (gt_in 732 (by decide +kernel) (by decide +kernel))
theorem lk_X6_193 : Cond.methodLink RX6 193 M_cWe_add.y ∈ lw_gt ∨ ∃ host : String, Cond.methodLinkNest RX6 193 M_cWe_add.y host ∈ lw_ns := Or.inl (gt_in 736 (by decide +kernel) (by decide +kernel))
theorem lk_X6_195 : Cond.methodLink RX6 195 M_cSc_isLetter.y ∈ lw_gt ∨ ∃ host : String, Cond.methodLinkNest RX6 195 M_cSc_isLetter.y host ∈ lw_ns := Or.inl (gt_in 605 (by decide +kernel) (by decide +kernel))
theorem lk_X6_198 : Cond.methodLink RX6 198 M_cSc_isDigit.y ∈ lw_gt ∨ ∃ host : String, Cond.methodLinkNest RX6 198 M_cSc_isDigit.y host ∈ lw_ns := Or.inl (gt_in 608 (by decide +kernel) (by decide +kernel))
theorem lk_X6_201 : Cond.methodLink RX6 201 M_cSc_moveOverDigits.y ∈ lw_gt ∨ ∃ host : String, Cond.methodLinkNest RX6 201 M_cSc_moveOverDigits.y host ∈ lw_ns := Or.inl (gt_in 611 (by decide +kernel) (by decide +kernel))
theorem lk_X7_36 : Cond.methodLink RX7 36 M_cNe_copy.y ∈ lw_gt ∨ ∃ host : String, Cond.methodLinkNest RX7 36 M_cNe_copy.y host ∈ lw_ns := Or.inl (gt_in 842 (by decide +kernel) (by decide +kernel))
theorem lk_X7_66 : Cond.methodLink RX7 66 M_cSt_begin.y ∈ lw_gt ∨ ∃ host : String, Cond.methodLinkNest RX7 66 M_cSt_begin.y host ∈ lw_ns := Or.inl (gt_in 838 (by decide +kernel) (by decide +kernel))
theorem lk_X7_84 : Cond.methodLink RX7 84 M_cSt_does.y ∈ lw_gt ∨ ∃ host : String, Cond.methodLinkNest RX7 84 M_cSt_does.y host ∈ lw_ns := Or.inl (gt_in 843 (by decide +kernel) (by decide +kernel))
theorem lk_X7_100 : Cond.methodLink RX7 100 M_cX_wordAt.y ∈ lw_gt ∨ ∃ host : String, Cond.methodLinkNest RX7 100 M_cX_wordAt.y host ∈ lw_ns := Or.inr ⟨"ProofLine", (ns_in 851 (by decide +kernel) (by decide +kernel))⟩
theorem lk_X7_103 : Cond.methodLink RX7 103 M_cNe_near.y ∈ lw_gt ∨ ∃ host : String, Cond.methodLinkNest RX7 103 M_cNe_near.y host ∈ lw_ns := Or.inl (gt_in 852 (by decide +kernel) (by decide +kernel))
theorem lk_X7_107 : Cond.methodLink RX7 107 M_cSt_can.y ∈ lw_gt ∨ ∃ host : String, Cond.methodLinkNest RX7 107 M_cSt_can.y host ∈ lw_ns := Or.inl (gt_in 847 (by decide +kernel) (by decide +kernel))
theorem lk_X7_110 : Cond.methodLink RX7 110 M_cSt_read.y ∈ lw_gt ∨ ∃ host : String, Cond.methodLinkNest RX7 110 M_cSt_read.y host ∈ lw_ns := Or.inl (gt_in 856 (by decide +kernel) (by decide +kernel))
theorem lk_X7_114 : Cond.methodLink RX7 114 M_cX_put.y ∈ lw_gt ∨ ∃ host : String, Cond.methodLinkNest RX7 114 M_cX_put.y host ∈ lw_ns := Or.inr ⟨"ProofLine", (ns_in 882 (by decide +kernel) (by decide +kernel))⟩
theorem lk_X7_118 : Cond.methodLink RX7 118 M_cNe_join.y ∈ lw_gt ∨ ∃ host : String, Cond.methodLinkNest RX7 118 M_cNe_join.y host ∈ lw_ns := Or.inl (gt_in 883 (by decide +kernel) (by decide +kernel))
theorem lk_X7_122 : Cond.methodLink RX7 122 M_cNe_part.y ∈ lw_gt ∨ ∃ host : String, Cond.methodLinkNest RX7 122 M_cNe_part.y host ∈ lw_ns := Or.inl (gt_in 884 (by decide +kernel) (by decide +kernel))
theorem lk_X7_125 : Cond.methodLink RX7 125 M_cSt_print.y ∈ lw_gt ∨ ∃ host : String, Cond.methodLinkNest RX7 125 M_cSt_print.y host ∈ lw_ns := Or.inl (gt_in 888 (by decide +kernel) (by decide +kernel))
theorem lk_X7_128 : Cond.methodLink RX7 128 M_cPa_readIn.y ∈ lw_gt ∨ ∃ host : String, Cond.methodLinkNest RX7 128 M_cPa_readIn.y host ∈ lw_ns := Or.inl (gt_in 860 (by decide +kernel) (by decide +kernel))
theorem lk_X7_132 : Cond.methodLink RX7 132 M_cX_unlikePlaces.y ∈ lw_gt ∨ ∃ host : String, Cond.methodLinkNest RX7 132 M_cX_unlikePlaces.y host ∈ lw_ns := Or.inr ⟨"ProofLine", (ns_in 872 (by decide +kernel) (by decide +kernel))⟩
theorem lk_X7_135 : Cond.methodLink RX7 135 M_jI_bitCount.y ∈ lw_gt ∨ ∃ host : String, Cond.methodLinkNest RX7 135 M_jI_bitCount.y host ∈ lw_ns := Or.inl (gt_in 876 (by decide +kernel) (by decide +kernel))
theorem lk_X7_141 : Cond.methodLink RX7 141 M_cPa_content.y ∈ lw_gt ∨ ∃ host : String, Cond.methodLinkNest RX7 141 M_cPa_content.y host ∈ lw_ns := Or.inl (gt_in 901 (by decide +kernel) (by decide +kernel))
theorem lk_X8_53 : Cond.methodLink RX8 53 M_cPa_copy.y ∈ lw_gt ∨ ∃ host : String, Cond.methodLinkNest RX8 53 M_cPa_copy.y host ∈ lw_ns := Or.inl (gt_in 744 (by decide +kernel) (by decide +kernel))
theorem lk_X8_61 : Cond.methodLink RX8 61 M_cWe_copy.y ∈ lw_gt ∨ ∃ host : String, Cond.methodLinkNest RX8 61 M_cWe_copy.y host ∈ lw_ns := Or.inl (gt_in 758 (by decide +kernel) (by decide +kernel))
theorem lk_X8_68 : Cond.methodLink RX8 68 M_cLg_copy.y ∈ lw_gt ∨ ∃ host : String, Cond.methodLinkNest RX8 68 M_cLg_copy.y host ∈ lw_ns := Or.inl (gt_in 763 (by decide +kernel) (by decide +kernel))
theorem lk_X8_86 : Cond.methodLink RX8 86 M_cX_copyRow.y ∈ lw_gt ∨ ∃ host : String, Cond.methodLinkNest RX8 86 M_cX_copyRow.y host ∈ lw_ns := Or.inr ⟨"ProofLine", (ns_in 790 (by decide +kernel) (by decide +kernel))⟩
theorem lk_X9_25 : Cond.methodLink RX9 25 M_cX_copyRow.y ∈ lw_gt ∨ ∃ host : String, Cond.methodLinkNest RX9 25 M_cX_copyRow.y host ∈ lw_ns := Or.inr ⟨"ProofLine", (ns_in 762 (by decide +kernel) (by decide +kernel))⟩
theorem lk_X11_81 : Cond.methodLink RX11 81 M_mm_four.y ∈ lw_gt ∨ ∃ host : String, Cond.methodLinkNest RX11 81 M_mm_four.y host ∈ lw_ns := Or.inl (gt_in 1474 (by decide +kernel) (by decide +kernel))
theorem lk_X11_87 : Cond.methodLink RX11 87 M_mm_eight.y ∈ lw_gt ∨ ∃ host : String, Cond.methodLinkNest RX11 87 M_mm_eight.y host ∈ lw_ns := Or.inl (gt_in 1477 (by decide +kernel) (by decide +kernel))
theorem lk_X11_94 : Cond.methodLink RX11 94 M_mm_byteAt.y ∈ lw_gt ∨ ∃ host : String, Cond.methodLinkNest RX11 94 M_mm_byteAt.y host ∈ lw_ns := Or.inl (gt_in 1462 (by decide +kernel) (by decide +kernel))
theorem lk_X11_104 : Cond.methodLink RX11 104 M_mm_isLetter.y ∈ lw_gt ∨ ∃ host : String, Cond.methodLinkNest RX11 104 M_mm_isLetter.y host ∈ lw_ns := Or.inl (gt_in 1466 (by decide +kernel) (by decide +kernel))
theorem lk_X11_112 : Cond.methodLink RX11 112 M_mm_wordOf.y ∈ lw_gt ∨ ∃ host : String, Cond.methodLinkNest RX11 112 M_mm_wordOf.y host ∈ lw_ns := Or.inl (gt_in 1471 (by decide +kernel) (by decide +kernel))
theorem lk_X11_119 : Cond.methodLink RX11 119 M_mm_isDigit.y ∈ lw_gt ∨ ∃ host : String, Cond.methodLinkNest RX11 119 M_mm_isDigit.y host ∈ lw_ns := Or.inl (gt_in 1481 (by decide +kernel) (by decide +kernel))
theorem lk_X11_129 : Cond.methodLink RX11 129 M_mm_ends.y ∈ lw_gt ∨ ∃ host : String, Cond.methodLinkNest RX11 129 M_mm_ends.y host ∈ lw_ns := Or.inl (gt_in 1492 (by decide +kernel) (by decide +kernel))
theorem lk_X11_132 : Cond.methodLink RX11 132 M_mm_isIn.y ∈ lw_gt ∨ ∃ host : String, Cond.methodLinkNest RX11 132 M_mm_isIn.y host ∈ lw_ns := Or.inl (gt_in 1447 (by decide +kernel) (by decide +kernel))
theorem lk_X11_136 : Cond.methodLink RX11 136 M_mm_also.y ∈ lw_gt ∨ ∃ host : String, Cond.methodLinkNest RX11 136 M_mm_also.y host ∈ lw_ns := Or.inl (gt_in 1500 (by decide +kernel) (by decide +kernel))
theorem lk_X11_140 : Cond.methodLink RX11 140 M_mm_advance.y ∈ lw_gt ∨ ∃ host : String, Cond.methodLinkNest RX11 140 M_mm_advance.y host ∈ lw_ns := Or.inl (gt_in 1458 (by decide +kernel) (by decide +kernel))
theorem lk_X11_143 : Cond.methodLink RX11 143 M_mm_numbered.y ∈ lw_gt ∨ ∃ host : String, Cond.methodLinkNest RX11 143 M_mm_numbered.y host ∈ lw_ns := Or.inl (gt_in 1504 (by decide +kernel) (by decide +kernel))
theorem lk_X11_147 : Cond.methodLink RX11 147 M_mm_otherWord.y ∈ lw_gt ∨ ∃ host : String, Cond.methodLinkNest RX11 147 M_mm_otherWord.y host ∈ lw_ns := Or.inl (gt_in 1512 (by decide +kernel) (by decide +kernel))
theorem lk_X11_156 : Cond.methodLink RX11 156 M_mm_wordIn.y ∈ lw_gt ∨ ∃ host : String, Cond.methodLinkNest RX11 156 M_mm_wordIn.y host ∈ lw_ns := Or.inl (gt_in 1488 (by decide +kernel) (by decide +kernel))
theorem lk_X11_159 : Cond.methodLink RX11 159 M_mm_wordTold.y ∈ lw_gt ∨ ∃ host : String, Cond.methodLinkNest RX11 159 M_mm_wordTold.y host ∈ lw_ns := Or.inl (gt_in 1496 (by decide +kernel) (by decide +kernel))
theorem lk_X11_163 : Cond.methodLink RX11 163 M_mm_nearTold.y ∈ lw_gt ∨ ∃ host : String, Cond.methodLinkNest RX11 163 M_mm_nearTold.y host ∈ lw_ns := Or.inl (gt_in 1508 (by decide +kernel) (by decide +kernel))
theorem lk_X11_166 : Cond.methodLink RX11 166 M_mm_readerTold.y ∈ lw_gt ∨ ∃ host : String, Cond.methodLinkNest RX11 166 M_mm_readerTold.y host ∈ lw_ns := Or.inl (gt_in 1516 (by decide +kernel) (by decide +kernel))
theorem lk_X11_169 : Cond.methodLink RX11 169 M_mm_wantTold.y ∈ lw_gt ∨ ∃ host : String, Cond.methodLinkNest RX11 169 M_mm_wantTold.y host ∈ lw_ns := Or.inl (gt_in 1520 (by decide +kernel) (by decide +kernel))
theorem lk_X11_172 : Cond.methodLink RX11 172 M_mm_endsLine.y ∈ lw_gt ∨ ∃ host : String, Cond.methodLinkNest RX11 172 M_mm_endsLine.y host ∈ lw_ns := Or.inl (gt_in 1524 (by decide +kernel) (by decide +kernel))
theorem lk_X11_175 : Cond.methodLink RX11 175 M_mm_isOf.y ∈ lw_gt ∨ ∃ host : String, Cond.methodLinkNest RX11 175 M_mm_isOf.y host ∈ lw_ns := Or.inl (gt_in 1450 (by decide +kernel) (by decide +kernel))
theorem lk_X11_179 : Cond.methodLink RX11 179 M_mm_beginsText.y ∈ lw_gt ∨ ∃ host : String, Cond.methodLinkNest RX11 179 M_mm_beginsText.y host ∈ lw_ns := Or.inl (gt_in 1454 (by decide +kernel) (by decide +kernel))
theorem lk_X11_182 : Cond.methodLink RX11 182 M_mm_paperLine.y ∈ lw_gt ∨ ∃ host : String, Cond.methodLinkNest RX11 182 M_mm_paperLine.y host ∈ lw_ns := Or.inl (gt_in 1484 (by decide +kernel) (by decide +kernel))
theorem lk_X11_185 : Cond.methodLink RX11 185 M_mm_weekLine.y ∈ lw_gt ∨ ∃ host : String, Cond.methodLinkNest RX11 185 M_mm_weekLine.y host ∈ lw_ns := Or.inl (gt_in 1528 (by decide +kernel) (by decide +kernel))
theorem lk_X11_188 : Cond.methodLink RX11 188 M_mm_logLine.y ∈ lw_gt ∨ ∃ host : String, Cond.methodLinkNest RX11 188 M_mm_logLine.y host ∈ lw_ns := Or.inl (gt_in 1532 (by decide +kernel) (by decide +kernel))
theorem lk_X11_191 : Cond.methodLink RX11 191 M_mm_sizeOf.y ∈ lw_gt ∨ ∃ host : String, Cond.methodLinkNest RX11 191 M_mm_sizeOf.y host ∈ lw_ns := Or.inl (gt_in 1536 (by decide +kernel) (by decide +kernel))
theorem lk_X11_194 : Cond.methodLink RX11 194 M_mm_placeOf.y ∈ lw_gt ∨ ∃ host : String, Cond.methodLinkNest RX11 194 M_mm_placeOf.y host ∈ lw_ns := Or.inl (gt_in 1539 (by decide +kernel) (by decide +kernel))
theorem lk_X11_206 : Cond.methodLink RX11 206 M_mm_begins.y ∈ lw_gt ∨ ∃ host : String, Cond.methodLinkNest RX11 206 M_mm_begins.y host ∈ lw_ns := Or.inl (gt_in 1554 (by decide +kernel) (by decide +kernel))
theorem lk_X11_209 : Cond.methodLink RX11 209 M_mm_isPaper.y ∈ lw_gt ∨ ∃ host : String, Cond.methodLinkNest RX11 209 M_mm_isPaper.y host ∈ lw_ns := Or.inl (gt_in 1550 (by decide +kernel) (by decide +kernel))
theorem lk_X11_212 : Cond.methodLink RX11 212 M_mm_isPlace.y ∈ lw_gt ∨ ∃ host : String, Cond.methodLinkNest RX11 212 M_mm_isPlace.y host ∈ lw_ns := Or.inl (gt_in 1570 (by decide +kernel) (by decide +kernel))
theorem lk_X11_215 : Cond.methodLink RX11 215 M_mm_wordTold0.y ∈ lw_gt ∨ ∃ host : String, Cond.methodLinkNest RX11 215 M_mm_wordTold0.y host ∈ lw_ns := Or.inl (gt_in 1562 (by decide +kernel) (by decide +kernel))
theorem lk_X11_218 : Cond.methodLink RX11 218 M_mm_isReader.y ∈ lw_gt ∨ ∃ host : String, Cond.methodLinkNest RX11 218 M_mm_isReader.y host ∈ lw_ns := Or.inl (gt_in 1574 (by decide +kernel) (by decide +kernel))
theorem lk_X11_221 : Cond.methodLink RX11 221 M_mm_patienceOf.y ∈ lw_gt ∨ ∃ host : String, Cond.methodLinkNest RX11 221 M_mm_patienceOf.y host ∈ lw_ns := Or.inl (gt_in 1578 (by decide +kernel) (by decide +kernel))
theorem lk_X11_224 : Cond.methodLink RX11 224 M_mm_daysOf.y ∈ lw_gt ∨ ∃ host : String, Cond.methodLinkNest RX11 224 M_mm_daysOf.y host ∈ lw_ns := Or.inl (gt_in 1582 (by decide +kernel) (by decide +kernel))
theorem lk_X11_227 : Cond.methodLink RX11 227 M_mm_wantOf.y ∈ lw_gt ∨ ∃ host : String, Cond.methodLinkNest RX11 227 M_mm_wantOf.y host ∈ lw_ns := Or.inl (gt_in 1586 (by decide +kernel) (by decide +kernel))
theorem lk_X11_230 : Cond.methodLink RX11 230 M_mm_laysSteps.y ∈ lw_gt ∨ ∃ host : String, Cond.methodLinkNest RX11 230 M_mm_laysSteps.y host ∈ lw_ns := Or.inl (gt_in 1566 (by decide +kernel) (by decide +kernel))
theorem lk_X11_233 : Cond.methodLink RX11 233 M_mm_areNear.y ∈ lw_gt ∨ ∃ host : String, Cond.methodLinkNest RX11 233 M_mm_areNear.y host ∈ lw_ns := Or.inl (gt_in 1605 (by decide +kernel) (by decide +kernel))
theorem lk_X11_236 : Cond.methodLink RX11 236 M_mm_isWord.y ∈ lw_gt ∨ ∃ host : String, Cond.methodLinkNest RX11 236 M_mm_isWord.y host ∈ lw_ns := Or.inl (gt_in 1594 (by decide +kernel) (by decide +kernel))
theorem lk_X11_239 : Cond.methodLink RX11 239 M_mm_towardsOf.y ∈ lw_gt ∨ ∃ host : String, Cond.methodLinkNest RX11 239 M_mm_towardsOf.y host ∈ lw_ns := Or.inl (gt_in 1601 (by decide +kernel) (by decide +kernel))
theorem lk_X11_245 : Cond.methodLink RX11 245 M_mm_beginsProof.y ∈ lw_gt ∨ ∃ host : String, Cond.methodLinkNest RX11 245 M_mm_beginsProof.y host ∈ lw_ns := Or.inl (gt_in 1558 (by decide +kernel) (by decide +kernel))
theorem lk_X11_263 : Cond.methodLink RX11 263 M_mm_putOf.y ∈ lw_gt ∨ ∃ host : String, Cond.methodLinkNest RX11 263 M_mm_putOf.y host ∈ lw_ns := Or.inl (gt_in 1617 (by decide +kernel) (by decide +kernel))
theorem lk_X11_266 : Cond.methodLink RX11 266 M_mm_contentOf.y ∈ lw_gt ∨ ∃ host : String, Cond.methodLinkNest RX11 266 M_mm_contentOf.y host ∈ lw_ns := Or.inl (gt_in 1625 (by decide +kernel) (by decide +kernel))
theorem lk_X11_269 : Cond.methodLink RX11 269 M_mm_reads.y ∈ lw_gt ∨ ∃ host : String, Cond.methodLinkNest RX11 269 M_mm_reads.y host ∈ lw_ns := Or.inl (gt_in 1613 (by decide +kernel) (by decide +kernel))
theorem lk_X11_272 : Cond.methodLink RX11 272 M_mm_contentAll.y ∈ lw_gt ∨ ∃ host : String, Cond.methodLinkNest RX11 272 M_mm_contentAll.y host ∈ lw_ns := Or.inl (gt_in 1621 (by decide +kernel) (by decide +kernel))
theorem lk_X11_276 : Cond.methodLink RX11 276 M_mm_keeps.y ∈ lw_gt ∨ ∃ host : String, Cond.methodLinkNest RX11 276 M_mm_keeps.y host ∈ lw_ns := Or.inl (gt_in 1637 (by decide +kernel) (by decide +kernel))
theorem lk_X11_280 : Cond.methodLink RX11 280 M_mm_round.y ∈ lw_gt ∨ ∃ host : String, Cond.methodLinkNest RX11 280 M_mm_round.y host ∈ lw_ns := Or.inl (gt_in 1641 (by decide +kernel) (by decide +kernel))
theorem lk_X11_283 : Cond.methodLink RX11 283 M_mm_isAsAt.y ∈ lw_gt ∨ ∃ host : String, Cond.methodLinkNest RX11 283 M_mm_isAsAt.y host ∈ lw_ns := Or.inl (gt_in 1645 (by decide +kernel) (by decide +kernel))
theorem lk_X11_287 : Cond.methodLink RX11 287 M_mm_roundsOf.y ∈ lw_gt ∨ ∃ host : String, Cond.methodLinkNest RX11 287 M_mm_roundsOf.y host ∈ lw_ns := Or.inl (gt_in 1633 (by decide +kernel) (by decide +kernel))
theorem lk_X11_291 : Cond.methodLink RX11 291 M_mm_changesPlaces.y ∈ lw_gt ∨ ∃ host : String, Cond.methodLinkNest RX11 291 M_mm_changesPlaces.y host ∈ lw_ns := Or.inl (gt_in 1665 (by decide +kernel) (by decide +kernel))
theorem lk_X11_294 : Cond.methodLink RX11 294 M_mm_firstRow.y ∈ lw_gt ∨ ∃ host : String, Cond.methodLinkNest RX11 294 M_mm_firstRow.y host ∈ lw_ns := Or.inl (gt_in 1653 (by decide +kernel) (by decide +kernel))
theorem lk_X11_297 : Cond.methodLink RX11 297 M_mm_readsRow.y ∈ lw_gt ∨ ∃ host : String, Cond.methodLinkNest RX11 297 M_mm_readsRow.y host ∈ lw_ns := Or.inl (gt_in 1657 (by decide +kernel) (by decide +kernel))
theorem lk_X11_300 : Cond.methodLink RX11 300 M_mm_nextRow.y ∈ lw_gt ∨ ∃ host : String, Cond.methodLinkNest RX11 300 M_mm_nextRow.y host ∈ lw_ns := Or.inl (gt_in 1661 (by decide +kernel) (by decide +kernel))
theorem lk_X11_304 : Cond.methodLink RX11 304 M_mm_deskOf.y ∈ lw_gt ∨ ∃ host : String, Cond.methodLinkNest RX11 304 M_mm_deskOf.y host ∈ lw_ns := Or.inl (gt_in 1677 (by decide +kernel) (by decide +kernel))
theorem lk_X11_308 : Cond.methodLink RX11 308 M_mm_longest.y ∈ lw_gt ∨ ∃ host : String, Cond.methodLinkNest RX11 308 M_mm_longest.y host ∈ lw_ns := Or.inl (gt_in 1673 (by decide +kernel) (by decide +kernel))
theorem lk_X11_315 : Cond.methodLink RX11 315 M_mm_laysTurn.y ∈ lw_gt ∨ ∃ host : String, Cond.methodLinkNest RX11 315 M_mm_laysTurn.y host ∈ lw_ns := Or.inl (gt_in 1689 (by decide +kernel) (by decide +kernel))
theorem lk_X11_318 : Cond.methodLink RX11 318 M_mm_comesBack.y ∈ lw_gt ∨ ∃ host : String, Cond.methodLinkNest RX11 318 M_mm_comesBack.y host ∈ lw_ns := Or.inl (gt_in 1694 (by decide +kernel) (by decide +kernel))
theorem lk_X11_321 : Cond.methodLink RX11 321 M_mm_puts.y ∈ lw_gt ∨ ∃ host : String, Cond.methodLinkNest RX11 321 M_mm_puts.y host ∈ lw_ns := Or.inl (gt_in 1698 (by decide +kernel) (by decide +kernel))
theorem lk_X11_325 : Cond.methodLink RX11 325 M_mm_quarrelOf.y ∈ lw_gt ∨ ∃ host : String, Cond.methodLinkNest RX11 325 M_mm_quarrelOf.y host ∈ lw_ns := Or.inl (gt_in 1685 (by decide +kernel) (by decide +kernel))
theorem lk_X11_328 : Cond.methodLink RX11 328 M_mm_unlikeAt.y ∈ lw_gt ∨ ∃ host : String, Cond.methodLinkNest RX11 328 M_mm_unlikeAt.y host ∈ lw_ns := Or.inl (gt_in 1710 (by decide +kernel) (by decide +kernel))
theorem lk_X11_331 : Cond.methodLink RX11 331 M_mm_areSigns.y ∈ lw_gt ∨ ∃ host : String, Cond.methodLinkNest RX11 331 M_mm_areSigns.y host ∈ lw_ns := Or.inl (gt_in 1706 (by decide +kernel) (by decide +kernel))
theorem lk_X11_334 : Cond.methodLink RX11 334 M_mm_bitsOf.y ∈ lw_gt ∨ ∃ host : String, Cond.methodLinkNest RX11 334 M_mm_bitsOf.y host ∈ lw_ns := Or.inl (gt_in 1714 (by decide +kernel) (by decide +kernel))
theorem lk_X11_337 : Cond.methodLink RX11 337 M_mm_common.y ∈ lw_gt ∨ ∃ host : String, Cond.methodLinkNest RX11 337 M_mm_common.y host ∈ lw_ns := Or.inl (gt_in 1733 (by decide +kernel) (by decide +kernel))
theorem lk_X11_345 : Cond.methodLink RX11 345 M_mm_powerOf.y ∈ lw_gt ∨ ∃ host : String, Cond.methodLinkNest RX11 345 M_mm_powerOf.y host ∈ lw_ns := Or.inl (gt_in 1727 (by decide +kernel) (by decide +kernel))
theorem lk_X11_349 : Cond.methodLink RX11 349 M_mm_parted.y ∈ lw_gt ∨ ∃ host : String, Cond.methodLinkNest RX11 349 M_mm_parted.y host ∈ lw_ns := Or.inl (gt_in 1730 (by decide +kernel) (by decide +kernel))
theorem lk_X11_353 : Cond.methodLink RX11 353 M_mm_kinOf.y ∈ lw_gt ∨ ∃ host : String, Cond.methodLinkNest RX11 353 M_mm_kinOf.y host ∈ lw_ns := Or.inl (gt_in 1744 (by decide +kernel) (by decide +kernel))
theorem lk_X11_356 : Cond.methodLink RX11 356 M_mm_joins.y ∈ lw_gt ∨ ∃ host : String, Cond.methodLinkNest RX11 356 M_mm_joins.y host ∈ lw_ns := Or.inl (gt_in 1760 (by decide +kernel) (by decide +kernel))
theorem lk_X11_360 : Cond.methodLink RX11 360 M_mm_kinAll.y ∈ lw_gt ∨ ∃ host : String, Cond.methodLinkNest RX11 360 M_mm_kinAll.y host ∈ lw_ns := Or.inl (gt_in 1740 (by decide +kernel) (by decide +kernel))
theorem lk_X11_363 : Cond.methodLink RX11 363 M_mm_widest.y ∈ lw_gt ∨ ∃ host : String, Cond.methodLinkNest RX11 363 M_mm_widest.y host ∈ lw_ns := Or.inl (gt_in 1748 (by decide +kernel) (by decide +kernel))
theorem lk_X11_366 : Cond.methodLink RX11 366 M_mm_lone.y ∈ lw_gt ∨ ∃ host : String, Cond.methodLinkNest RX11 366 M_mm_lone.y host ∈ lw_ns := Or.inl (gt_in 1752 (by decide +kernel) (by decide +kernel))
theorem lk_X11_369 : Cond.methodLink RX11 369 M_mm_parting.y ∈ lw_gt ∨ ∃ host : String, Cond.methodLinkNest RX11 369 M_mm_parting.y host ∈ lw_ns := Or.inl (gt_in 1756 (by decide +kernel) (by decide +kernel))
theorem lk_X11_372 : Cond.methodLink RX11 372 M_mm_distanceOf.y ∈ lw_gt ∨ ∃ host : String, Cond.methodLinkNest RX11 372 M_mm_distanceOf.y host ∈ lw_ns := Or.inl (gt_in 1768 (by decide +kernel) (by decide +kernel))
theorem lk_X11_375 : Cond.methodLink RX11 375 M_mm_aloneOf.y ∈ lw_gt ∨ ∃ host : String, Cond.methodLinkNest RX11 375 M_mm_aloneOf.y host ∈ lw_ns := Or.inl (gt_in 1772 (by decide +kernel) (by decide +kernel))
theorem lk_X11_378 : Cond.methodLink RX11 378 M_mm_rivalsOf.y ∈ lw_gt ∨ ∃ host : String, Cond.methodLinkNest RX11 378 M_mm_rivalsOf.y host ∈ lw_ns := Or.inl (gt_in 1776 (by decide +kernel) (by decide +kernel))
theorem lk_X11_381 : Cond.methodLink RX11 381 M_mm_isPeace.y ∈ lw_gt ∨ ∃ host : String, Cond.methodLinkNest RX11 381 M_mm_isPeace.y host ∈ lw_ns := Or.inl (gt_in 1784 (by decide +kernel) (by decide +kernel))
theorem lk_X11_384 : Cond.methodLink RX11 384 M_mm_togetherFrom.y ∈ lw_gt ∨ ∃ host : String, Cond.methodLinkNest RX11 384 M_mm_togetherFrom.y host ∈ lw_ns := Or.inl (gt_in 1792 (by decide +kernel) (by decide +kernel))
theorem lk_X11_387 : Cond.methodLink RX11 387 M_mm_laysRise.y ∈ lw_gt ∨ ∃ host : String, Cond.methodLinkNest RX11 387 M_mm_laysRise.y host ∈ lw_ns := Or.inl (gt_in 1800 (by decide +kernel) (by decide +kernel))
theorem lk_X11_390 : Cond.methodLink RX11 390 M_mm_standsAt.y ∈ lw_gt ∨ ∃ host : String, Cond.methodLinkNest RX11 390 M_mm_standsAt.y host ∈ lw_ns := Or.inl (gt_in 1816 (by decide +kernel) (by decide +kernel))
theorem lk_X11_393 : Cond.methodLink RX11 393 M_mm_bendOf.y ∈ lw_gt ∨ ∃ host : String, Cond.methodLinkNest RX11 393 M_mm_bendOf.y host ∈ lw_ns := Or.inl (gt_in 1804 (by decide +kernel) (by decide +kernel))
theorem lk_X11_396 : Cond.methodLink RX11 396 M_mm_twiceOf.y ∈ lw_gt ∨ ∃ host : String, Cond.methodLinkNest RX11 396 M_mm_twiceOf.y host ∈ lw_ns := Or.inl (gt_in 1808 (by decide +kernel) (by decide +kernel))
theorem lk_X11_399 : Cond.methodLink RX11 399 M_mm_wordsOf.y ∈ lw_gt ∨ ∃ host : String, Cond.methodLinkNest RX11 399 M_mm_wordsOf.y host ∈ lw_ns := Or.inl (gt_in 1812 (by decide +kernel) (by decide +kernel))
theorem lk_X11_402 : Cond.methodLink RX11 402 M_mm_riseAt.y ∈ lw_gt ∨ ∃ host : String, Cond.methodLinkNest RX11 402 M_mm_riseAt.y host ∈ lw_ns := Or.inl (gt_in 1820 (by decide +kernel) (by decide +kernel))
theorem lk_X11_405 : Cond.methodLink RX11 405 M_mm_idleOf.y ∈ lw_gt ∨ ∃ host : String, Cond.methodLinkNest RX11 405 M_mm_idleOf.y host ∈ lw_ns := Or.inl (gt_in 1828 (by decide +kernel) (by decide +kernel))
theorem lk_X11_408 : Cond.methodLink RX11 408 M_mm_lastWordOf.y ∈ lw_gt ∨ ∃ host : String, Cond.methodLinkNest RX11 408 M_mm_lastWordOf.y host ∈ lw_ns := Or.inl (gt_in 1832 (by decide +kernel) (by decide +kernel))
theorem lk_X11_411 : Cond.methodLink RX11 411 M_mm_swapOf.y ∈ lw_gt ∨ ∃ host : String, Cond.methodLinkNest RX11 411 M_mm_swapOf.y host ∈ lw_ns := Or.inl (gt_in 1836 (by decide +kernel) (by decide +kernel))
theorem lk_X11_414 : Cond.methodLink RX11 414 M_mm_teachOf.y ∈ lw_gt ∨ ∃ host : String, Cond.methodLinkNest RX11 414 M_mm_teachOf.y host ∈ lw_ns := Or.inl (gt_in 1840 (by decide +kernel) (by decide +kernel))
theorem lk_X11_420 : Cond.methodLink RX11 420 M_mm_isWeek.y ∈ lw_gt ∨ ∃ host : String, Cond.methodLinkNest RX11 420 M_mm_isWeek.y host ∈ lw_ns := Or.inl (gt_in 1848 (by decide +kernel) (by decide +kernel))
theorem lk_X11_423 : Cond.methodLink RX11 423 M_mm_readsDeed.y ∈ lw_gt ∨ ∃ host : String, Cond.methodLinkNest RX11 423 M_mm_readsDeed.y host ∈ lw_ns := Or.inl (gt_in 1864 (by decide +kernel) (by decide +kernel))
theorem lk_X11_426 : Cond.methodLink RX11 426 M_mm_setsWord.y ∈ lw_gt ∨ ∃ host : String, Cond.methodLinkNest RX11 426 M_mm_setsWord.y host ∈ lw_ns := Or.inl (gt_in 1868 (by decide +kernel) (by decide +kernel))
theorem lk_X11_429 : Cond.methodLink RX11 429 M_mm_stets.y ∈ lw_gt ∨ ∃ host : String, Cond.methodLinkNest RX11 429 M_mm_stets.y host ∈ lw_ns := Or.inl (gt_in 1872 (by decide +kernel) (by decide +kernel))
theorem lk_X11_432 : Cond.methodLink RX11 432 M_mm_joinsWords.y ∈ lw_gt ∨ ∃ host : String, Cond.methodLinkNest RX11 432 M_mm_joinsWords.y host ∈ lw_ns := Or.inl (gt_in 1876 (by decide +kernel) (by decide +kernel))
theorem lk_X11_436 : Cond.methodLink RX11 436 M_mm_printsAll.y ∈ lw_gt ∨ ∃ host : String, Cond.methodLinkNest RX11 436 M_mm_printsAll.y host ∈ lw_ns := Or.inl (gt_in 1880 (by decide +kernel) (by decide +kernel))
theorem lk_X11_439 : Cond.methodLink RX11 439 M_mm_does.y ∈ lw_gt ∨ ∃ host : String, Cond.methodLinkNest RX11 439 M_mm_does.y host ∈ lw_ns := Or.inl (gt_in 1860 (by decide +kernel) (by decide +kernel))
theorem lk_X11_442 : Cond.methodLink RX11 442 M_mm_runs.y ∈ lw_gt ∨ ∃ host : String, Cond.methodLinkNest RX11 442 M_mm_runs.y host ∈ lw_ns := Or.inl (gt_in 1856 (by decide +kernel) (by decide +kernel))
theorem lk_X11_445 : Cond.methodLink RX11 445 M_mm_nowOf.y ∈ lw_gt ∨ ∃ host : String, Cond.methodLinkNest RX11 445 M_mm_nowOf.y host ∈ lw_ns := Or.inl (gt_in 1888 (by decide +kernel) (by decide +kernel))
theorem lk_X11_448 : Cond.methodLink RX11 448 M_mm_busiestOf.y ∈ lw_gt ∨ ∃ host : String, Cond.methodLinkNest RX11 448 M_mm_busiestOf.y host ∈ lw_ns := Or.inl (gt_in 1896 (by decide +kernel) (by decide +kernel))
theorem lk_X11_451 : Cond.methodLink RX11 451 M_mm_editionsOf.y ∈ lw_gt ∨ ∃ host : String, Cond.methodLinkNest RX11 451 M_mm_editionsOf.y host ∈ lw_ns := Or.inl (gt_in 1900 (by decide +kernel) (by decide +kernel))
theorem lk_X11_457 : Cond.methodLink RX11 457 M_mm_isLog.y ∈ lw_gt ∨ ∃ host : String, Cond.methodLinkNest RX11 457 M_mm_isLog.y host ∈ lw_ns := Or.inl (gt_in 1908 (by decide +kernel) (by decide +kernel))
theorem lk_X11_469 : Cond.methodLink RX11 469 M_mm_laysNoFits.y ∈ lw_gt ∨ ∃ host : String, Cond.methodLinkNest RX11 469 M_mm_laysNoFits.y host ∈ lw_ns := Or.inl (gt_in 1920 (by decide +kernel) (by decide +kernel))
theorem lk_X11_472 : Cond.methodLink RX11 472 M_mm_isSo.y ∈ lw_gt ∨ ∃ host : String, Cond.methodLinkNest RX11 472 M_mm_isSo.y host ∈ lw_ns := Or.inl (gt_in 1924 (by decide +kernel) (by decide +kernel))
theorem lk_X11_475 : Cond.methodLink RX11 475 M_mm_numberOf.y ∈ lw_gt ∨ ∃ host : String, Cond.methodLinkNest RX11 475 M_mm_numberOf.y host ∈ lw_ns := Or.inl (gt_in 1928 (by decide +kernel) (by decide +kernel))
theorem lk_X11_478 : Cond.methodLink RX11 478 M_mm_laysFit.y ∈ lw_gt ∨ ∃ host : String, Cond.methodLinkNest RX11 478 M_mm_laysFit.y host ∈ lw_ns := Or.inl (gt_in 1932 (by decide +kernel) (by decide +kernel))
theorem lk_X11_481 : Cond.methodLink RX11 481 M_mm_laysFits.y ∈ lw_gt ∨ ∃ host : String, Cond.methodLinkNest RX11 481 M_mm_laysFits.y host ∈ lw_ns := Or.inl (gt_in 1916 (by decide +kernel) (by decide +kernel))
theorem lk_X11_484 : Cond.methodLink RX11 484 M_mm_askOf.y ∈ lw_gt ∨ ∃ host : String, Cond.methodLinkNest RX11 484 M_mm_askOf.y host ∈ lw_ns := Or.inl (gt_in 1936 (by decide +kernel) (by decide +kernel))
theorem lk_X11_487 : Cond.methodLink RX11 487 M_mm_sureOf.y ∈ lw_gt ∨ ∃ host : String, Cond.methodLinkNest RX11 487 M_mm_sureOf.y host ∈ lw_ns := Or.inl (gt_in 1940 (by decide +kernel) (by decide +kernel))
theorem lk_X11_494 : Cond.methodLink RX11 494 M_mm_below.y ∈ lw_gt ∨ ∃ host : String, Cond.methodLinkNest RX11 494 M_mm_below.y host ∈ lw_ns := Or.inl (gt_in 1960 (by decide +kernel) (by decide +kernel))
theorem lk_X11_497 : Cond.methodLink RX11 497 M_mm_draws.y ∈ lw_gt ∨ ∃ host : String, Cond.methodLinkNest RX11 497 M_mm_draws.y host ∈ lw_ns := Or.inl (gt_in 1956 (by decide +kernel) (by decide +kernel))
theorem gf_X10_10 : GF RX10 10 10 0 11 2 0 := ⟨⟨_, _, _, cls10, by decide, Or.inl (gt_in 526 (by decide +kernel) (by decide +kernel))⟩, by decide, rfl, rfl, by decide⟩
theorem gf_X10_16 : GF RX10 16 10 1 11 2 1 := ⟨⟨_, _, _, cls10, by decide, Or.inl (gt_in 527 (by decide +kernel) (by decide +kernel))⟩, by decide, rfl, rfl, by decide⟩
theorem gf_X10_20 : GF RX10 20 10 2 11 2 2 := ⟨⟨_, _, _, cls10, by decide, Or.inl (gt_in 528 (by decide +kernel) (by decide +kernel))⟩, by decide, rfl, rfl, by decide⟩
theorem gf_X10_27 : GF RX10 27 10 3 11 2 3 := ⟨⟨_, _, _, cls10, by decide, Or.inl (gt_in 529 (by decide +kernel) (by decide +kernel))⟩, by decide, rfl, rfl, by decide⟩
theorem gf_X10_34 : GF RX10 34 10 4 11 2 4 := ⟨⟨_, _, _, cls10, by decide, Or.inl (gt_in 530 (by decide +kernel) (by decide +kernel))⟩, by decide, rfl, rfl, by decide⟩
theorem gf_X10_41 : GF RX10 41 10 5 11 2 5 := ⟨⟨_, _, _, cls10, by decide, Or.inl (gt_in 531 (by decide +kernel) (by decide +kernel))⟩, by decide, rfl, rfl, by decide⟩
theorem gf_X10_48 : GF RX10 48 10 6 11 2 6 := ⟨⟨_, _, _, cls10, by decide, Or.inl (gt_in 532 (by decide +kernel) (by decide +kernel))⟩, by decide, rfl, rfl, by decide⟩
theorem gf_X10_55 : GF RX10 55 10 7 11 2 7 := ⟨⟨_, _, _, cls10, by decide, Or.inl (gt_in 533 (by decide +kernel) (by decide +kernel))⟩, by decide, rfl, rfl, by decide⟩
theorem gf_X10_62 : GF RX10 62 10 8 11 2 8 := ⟨⟨_, _, _, cls10, by decide, Or.inl (gt_in 534 (by decide +kernel) (by decide +kernel))⟩, by decide, rfl, rfl, by decide⟩
theorem gf_X10_66 : GF RX10 66 10 9 11 2 9 := ⟨⟨_, _, _, cls10, by decide, Or.inl (gt_in 535 (by decide +kernel) (by decide +kernel))⟩, by decide, rfl, rfl, by decide⟩
theorem gf_X10_70 : GF RX10 70 10 10 11 2 10 := ⟨⟨_, _, _, cls10, by decide, Or.inl (gt_in 536 (by decide +kernel) (by decide +kernel))⟩, by decide, rfl, rfl, by decide⟩
theorem gf_X10_73 : GF RX10 73 8 1 8 0 1 := ⟨⟨_, _, _, cls8, by decide, Or.inl (gt_in 295 (by decide +kernel) (by decide +kernel))⟩, by decide, rfl, rfl, by decide⟩
theorem gf_X10_81 : GF RX10 81 8 2 8 0 2 := ⟨⟨_, _, _, cls8, by decide, Or.inl (gt_in 297 (by decide +kernel) (by decide +kernel))⟩, by decide, rfl, rfl, by decide⟩
theorem gf_X10_84 : GF RX10 84 8 3 8 0 3 := ⟨⟨_, _, _, cls8, by decide, Or.inl (gt_in 300 (by decide +kernel) (by decide +kernel))⟩, by decide, rfl, rfl, by decide⟩
theorem gf_X10_87 : GF RX10 87 8 4 8 2 4 := ⟨⟨_, _, _, cls8, by decide, Or.inl (gt_in 302 (by decide +kernel) (by decide +kernel))⟩, by decide, rfl, rfl, by decide⟩
theorem gf_X10_90 : GF RX10 90 8 0 8 2 0 := ⟨⟨_, _, _, cls8, by decide, Or.inl (gt_in 294 (by decide +kernel) (by decide +kernel))⟩, by decide, rfl, rfl, by decide⟩
theorem gf_X10_98 : GF RX10 98 6 3 14 0 3 := ⟨⟨_, _, _, cls6, by decide, Or.inl (gt_in 346 (by decide +kernel) (by decide +kernel))⟩, by decide, rfl, rfl, by decide⟩
theorem gf_X10_101 : GF RX10 101 6 4 14 0 4 := ⟨⟨_, _, _, cls6, by decide, Or.inl (gt_in 348 (by decide +kernel) (by decide +kernel))⟩, by decide, rfl, rfl, by decide⟩
theorem gf_X10_112 : GF RX10 112 8 5 8 2 5 := ⟨⟨_, _, _, cls8, by decide, Or.inl (gt_in 304 (by decide +kernel) (by decide +kernel))⟩, by decide, rfl, rfl, by decide⟩
theorem gf_X10_116 : GF RX10 116 8 6 8 2 6 := ⟨⟨_, _, _, cls8, by decide, Or.inl (gt_in 306 (by decide +kernel) (by decide +kernel))⟩, by decide, rfl, rfl, by decide⟩
theorem gf_X10_120 : GF RX10 120 8 7 8 2 7 := ⟨⟨_, _, _, cls8, by decide, Or.inl (gt_in 308 (by decide +kernel) (by decide +kernel))⟩, by decide, rfl, rfl, by decide⟩
theorem gf_X10_138 : GF RX10 138 9 0 4 0 0 := ⟨⟨_, _, _, cls9, by decide, Or.inl (gt_in 255 (by decide +kernel) (by decide +kernel))⟩, by decide, rfl, rfl, by decide⟩
theorem gf_X10_143 : GF RX10 143 9 1 4 2 1 := ⟨⟨_, _, _, cls9, by decide, Or.inl (gt_in 258 (by decide +kernel) (by decide +kernel))⟩, by decide, rfl, rfl, by decide⟩
theorem gf_X10_146 : GF RX10 146 9 2 4 2 2 := ⟨⟨_, _, _, cls9, by decide, Or.inl (gt_in 261 (by decide +kernel) (by decide +kernel))⟩, by decide, rfl, rfl, by decide⟩
theorem gf_X10_149 : GF RX10 149 9 3 4 2 3 := ⟨⟨_, _, _, cls9, by decide, Or.inl (gt_in 264 (by decide +kernel) (by decide +kernel))⟩, by decide, rfl, rfl, by decide⟩
theorem gf_X10_156 : GF RX10 156 0 0 3 0 0 := ⟨⟨_, _, _, cls0, by decide, Or.inl (gt_in 281 (by decide +kernel) (by decide +kernel))⟩, by decide, rfl, rfl, by decide⟩
theorem gf_X10_161 : GF RX10 161 0 1 3 2 1 := ⟨⟨_, _, _, cls0, by decide, Or.inl (gt_in 283 (by decide +kernel) (by decide +kernel))⟩, by decide, rfl, rfl, by decide⟩
theorem gf_X10_163 : GF RX10 163 0 2 3 2 2 := ⟨⟨_, _, _, cls0, by decide, Or.inl (gt_in 285 (by decide +kernel) (by decide +kernel))⟩, by decide, rfl, rfl, by decide⟩
theorem gf_X10_171 : GF RX10 171 7 9 13 0 9 := ⟨⟨_, _, _, cls7, by decide, Or.inl (gt_in 408 (by decide +kernel) (by decide +kernel))⟩, by decide, rfl, rfl, by decide⟩
theorem gf_X10_178 : GF RX10 178 7 10 13 0 10 := ⟨⟨_, _, _, cls7, by decide, Or.inl (gt_in 410 (by decide +kernel) (by decide +kernel))⟩, by decide, rfl, rfl, by decide⟩
theorem gf_X10_181 : GF RX10 181 7 11 13 0 11 := ⟨⟨_, _, _, cls7, by decide, Or.inl (gt_in 412 (by decide +kernel) (by decide +kernel))⟩, by decide, rfl, rfl, by decide⟩
theorem gf_X10_184 : GF RX10 184 7 12 13 0 12 := ⟨⟨_, _, _, cls7, by decide, Or.inl (gt_in 414 (by decide +kernel) (by decide +kernel))⟩, by decide, rfl, rfl, by decide⟩
theorem gf_X10_191 : GF RX10 191 1 0 2 2 0 := ⟨⟨_, _, _, cls1, by decide, Or.inl (gt_in 451 (by decide +kernel) (by decide +kernel))⟩, by decide, rfl, rfl, by decide⟩
theorem gf_X10_199 : GF RX10 199 3 3 7 2 3 := ⟨⟨_, _, _, cls3, by decide, Or.inl (gt_in 226 (by decide +kernel) (by decide +kernel))⟩, by decide, rfl, rfl, by decide⟩
theorem gf_X10_245 : GF RX10 245 3 2 7 0 2 := ⟨⟨_, _, _, cls3, by decide, Or.inl (gt_in 222 (by decide +kernel) (by decide +kernel))⟩, by decide, rfl, rfl, by decide⟩
theorem gf_X10_248 : GF RX10 248 3 0 7 0 0 := ⟨⟨_, _, _, cls3, by decide, Or.inl (gt_in 209 (by decide +kernel) (by decide +kernel))⟩, by decide, rfl, rfl, by decide⟩
theorem gf_X10_269 : GF RX10 269 3 1 7 0 1 := ⟨⟨_, _, _, cls3, by decide, Or.inl (gt_in 215 (by decide +kernel) (by decide +kernel))⟩, by decide, rfl, rfl, by decide⟩
theorem gf_X10_278 : GF RX10 278 4 1 4 0 1 := ⟨⟨_, _, _, cls4, by decide, Or.inl (gt_in 466 (by decide +kernel) (by decide +kernel))⟩, by decide, rfl, rfl, by decide⟩
theorem gf_X10_281 : GF RX10 281 4 2 4 0 2 := ⟨⟨_, _, _, cls4, by decide, Or.inl (gt_in 468 (by decide +kernel) (by decide +kernel))⟩, by decide, rfl, rfl, by decide⟩
theorem gf_X10_284 : GF RX10 284 4 3 4 0 3 := ⟨⟨_, _, _, cls4, by decide, Or.inl (gt_in 470 (by decide +kernel) (by decide +kernel))⟩, by decide, rfl, rfl, by decide⟩
theorem gf_X10_336 : GF RX10 336 3 5 7 2 5 := ⟨⟨_, _, _, cls3, by decide, Or.inl (gt_in 229 (by decide +kernel) (by decide +kernel))⟩, by decide, rfl, rfl, by decide⟩
theorem gf_X10_408 : GF RX10 408 5 8 11 2 8 := ⟨⟨_, _, _, cls5, by decide, Or.inl (gt_in 496 (by decide +kernel) (by decide +kernel))⟩, by decide, rfl, rfl, by decide⟩
theorem gf_X10_417 : GF RX10 417 5 10 11 0 10 := ⟨⟨_, _, _, cls5, by decide, Or.inl (gt_in 500 (by decide +kernel) (by decide +kernel))⟩, by decide, rfl, rfl, by decide⟩
theorem gf_X10_427 : GF RX10 427 5 6 11 2 6 := ⟨⟨_, _, _, cls5, by decide, Or.inl (gt_in 493 (by decide +kernel) (by decide +kernel))⟩, by decide, rfl, rfl, by decide⟩
theorem gf_X10_430 : GF RX10 430 5 9 11 2 9 := ⟨⟨_, _, _, cls5, by decide, Or.inl (gt_in 498 (by decide +kernel) (by decide +kernel))⟩, by decide, rfl, rfl, by decide⟩
theorem gf_X0_9 : GF RX0 9 0 1 3 2 1 := ⟨⟨_, _, _, cls0, by decide, Or.inl (gt_in 282 (by decide +kernel) (by decide +kernel))⟩, by decide, rfl, rfl, by decide⟩
theorem gf_X0_15 : GF RX0 15 0 2 3 2 2 := ⟨⟨_, _, _, cls0, by decide, Or.inl (gt_in 284 (by decide +kernel) (by decide +kernel))⟩, by decide, rfl, rfl, by decide⟩
theorem gf_X0_18 : GF RX0 18 0 0 3 0 0 := ⟨⟨_, _, _, cls0, by decide, Or.inl (gt_in 279 (by decide +kernel) (by decide +kernel))⟩, by decide, rfl, rfl, by decide⟩
theorem gf_X1_12 : GF RX1 12 1 0 2 2 0 := ⟨⟨_, _, _, cls1, by decide, Or.inl (gt_in 450 (by decide +kernel) (by decide +kernel))⟩, by decide, rfl, rfl, by decide⟩
theorem gf_X1_18 : GF RX1 18 9 0 4 0 0 := ⟨⟨_, _, _, cls9, by decide, Or.inl (gt_in 252 (by decide +kernel) (by decide +kernel))⟩, by decide, rfl, rfl, by decide⟩
theorem gf_X1_22 : GF RX1 22 1 1 2 0 1 := ⟨⟨_, _, _, cls1, by decide, Or.inl (gt_in 452 (by decide +kernel) (by decide +kernel))⟩, by decide, rfl, rfl, by decide⟩
theorem gf_X1_25 : GF RX1 25 3 2 7 0 2 := ⟨⟨_, _, _, cls3, by decide, Or.inl (gt_in 217 (by decide +kernel) (by decide +kernel))⟩, by decide, rfl, rfl, by decide⟩
theorem gf_X1_30 : GF RX1 30 3 1 7 0 1 := ⟨⟨_, _, _, cls3, by decide, Or.inl (gt_in 211 (by decide +kernel) (by decide +kernel))⟩, by decide, rfl, rfl, by decide⟩
theorem gf_X2_9 : GF RX2 9 2 0 4 2 0 := ⟨⟨_, _, _, cls2, by decide, Or.inl (gt_in 188 (by decide +kernel) (by decide +kernel))⟩, by decide, rfl, rfl, by decide⟩
theorem gf_X2_15 : GF RX2 15 2 1 4 2 1 := ⟨⟨_, _, _, cls2, by decide, Or.inl (gt_in 191 (by decide +kernel) (by decide +kernel))⟩, by decide, rfl, rfl, by decide⟩
theorem gf_X2_18 : GF RX2 18 2 2 4 2 2 := ⟨⟨_, _, _, cls2, by decide, Or.inl (gt_in 192 (by decide +kernel) (by decide +kernel))⟩, by decide, rfl, rfl, by decide⟩
theorem gf_X2_21 : GF RX2 21 2 3 4 0 3 := ⟨⟨_, _, _, cls2, by decide, Or.inl (gt_in 193 (by decide +kernel) (by decide +kernel))⟩, by decide, rfl, rfl, by decide⟩
theorem gf_X3_12 : GF RX3 12 3 3 7 2 3 := ⟨⟨_, _, _, cls3, by decide, Or.inl (gt_in 223 (by decide +kernel) (by decide +kernel))⟩, by decide, rfl, rfl, by decide⟩
theorem gf_X3_18 : GF RX3 18 3 4 7 2 4 := ⟨⟨_, _, _, cls3, by decide, Or.inl (gt_in 227 (by decide +kernel) (by decide +kernel))⟩, by decide, rfl, rfl, by decide⟩
theorem gf_X3_22 : GF RX3 22 3 5 7 2 5 := ⟨⟨_, _, _, cls3, by decide, Or.inl (gt_in 228 (by decide +kernel) (by decide +kernel))⟩, by decide, rfl, rfl, by decide⟩
theorem gf_X3_25 : GF RX3 25 3 6 7 2 6 := ⟨⟨_, _, _, cls3, by decide, Or.inl (gt_in 230 (by decide +kernel) (by decide +kernel))⟩, by decide, rfl, rfl, by decide⟩
theorem gf_X3_28 : GF RX3 28 3 0 7 0 0 := ⟨⟨_, _, _, cls3, by decide, Or.inl (gt_in 205 (by decide +kernel) (by decide +kernel))⟩, by decide, rfl, rfl, by decide⟩
theorem gf_X3_32 : GF RX3 32 3 1 7 0 1 := ⟨⟨_, _, _, cls3, by decide, Or.inl (gt_in 210 (by decide +kernel) (by decide +kernel))⟩, by decide, rfl, rfl, by decide⟩
theorem gf_X3_35 : GF RX3 35 3 2 7 0 2 := ⟨⟨_, _, _, cls3, by decide, Or.inl (gt_in 216 (by decide +kernel) (by decide +kernel))⟩, by decide, rfl, rfl, by decide⟩
theorem gf_X3_57 : GF RX3 57 2 0 4 2 0 := ⟨⟨_, _, _, cls2, by decide, Or.inl (gt_in 189 (by decide +kernel) (by decide +kernel))⟩, by decide, rfl, rfl, by decide⟩
theorem gf_X4_9 : GF RX4 9 4 0 4 2 0 := ⟨⟨_, _, _, cls4, by decide, Or.inl (gt_in 464 (by decide +kernel) (by decide +kernel))⟩, by decide, rfl, rfl, by decide⟩
theorem gf_X4_15 : GF RX4 15 4 1 4 0 1 := ⟨⟨_, _, _, cls4, by decide, Or.inl (gt_in 465 (by decide +kernel) (by decide +kernel))⟩, by decide, rfl, rfl, by decide⟩
theorem gf_X4_19 : GF RX4 19 4 2 4 0 2 := ⟨⟨_, _, _, cls4, by decide, Or.inl (gt_in 467 (by decide +kernel) (by decide +kernel))⟩, by decide, rfl, rfl, by decide⟩
theorem gf_X4_22 : GF RX4 22 3 0 7 0 0 := ⟨⟨_, _, _, cls3, by decide, Or.inl (gt_in 206 (by decide +kernel) (by decide +kernel))⟩, by decide, rfl, rfl, by decide⟩
theorem gf_X4_27 : GF RX4 27 4 3 4 0 3 := ⟨⟨_, _, _, cls4, by decide, Or.inl (gt_in 469 (by decide +kernel) (by decide +kernel))⟩, by decide, rfl, rfl, by decide⟩
theorem gf_X4_38 : GF RX4 38 3 2 7 0 2 := ⟨⟨_, _, _, cls3, by decide, Or.inl (gt_in 219 (by decide +kernel) (by decide +kernel))⟩, by decide, rfl, rfl, by decide⟩
theorem gf_X5_9 : GF RX5 9 5 0 11 0 0 := ⟨⟨_, _, _, cls5, by decide, Or.inl (gt_in 486 (by decide +kernel) (by decide +kernel))⟩, by decide, rfl, rfl, by decide⟩
theorem gf_X5_15 : GF RX5 15 5 4 11 2 4 := ⟨⟨_, _, _, cls5, by decide, Or.inl (gt_in 490 (by decide +kernel) (by decide +kernel))⟩, by decide, rfl, rfl, by decide⟩
theorem gf_X5_19 : GF RX5 19 5 5 11 2 5 := ⟨⟨_, _, _, cls5, by decide, Or.inl (gt_in 491 (by decide +kernel) (by decide +kernel))⟩, by decide, rfl, rfl, by decide⟩
theorem gf_X5_22 : GF RX5 22 5 6 11 2 6 := ⟨⟨_, _, _, cls5, by decide, Or.inl (gt_in 492 (by decide +kernel) (by decide +kernel))⟩, by decide, rfl, rfl, by decide⟩
theorem gf_X5_25 : GF RX5 25 5 7 11 2 7 := ⟨⟨_, _, _, cls5, by decide, Or.inl (gt_in 494 (by decide +kernel) (by decide +kernel))⟩, by decide, rfl, rfl, by decide⟩
theorem gf_X5_28 : GF RX5 28 5 8 11 2 8 := ⟨⟨_, _, _, cls5, by decide, Or.inl (gt_in 495 (by decide +kernel) (by decide +kernel))⟩, by decide, rfl, rfl, by decide⟩
theorem gf_X5_31 : GF RX5 31 5 9 11 2 9 := ⟨⟨_, _, _, cls5, by decide, Or.inl (gt_in 497 (by decide +kernel) (by decide +kernel))⟩, by decide, rfl, rfl, by decide⟩
theorem gf_X5_34 : GF RX5 34 5 1 11 0 1 := ⟨⟨_, _, _, cls5, by decide, Or.inl (gt_in 487 (by decide +kernel) (by decide +kernel))⟩, by decide, rfl, rfl, by decide⟩
theorem gf_X5_37 : GF RX5 37 3 2 7 0 2 := ⟨⟨_, _, _, cls3, by decide, Or.inl (gt_in 220 (by decide +kernel) (by decide +kernel))⟩, by decide, rfl, rfl, by decide⟩
theorem gf_X5_48 : GF RX5 48 5 2 11 0 2 := ⟨⟨_, _, _, cls5, by decide, Or.inl (gt_in 488 (by decide +kernel) (by decide +kernel))⟩, by decide, rfl, rfl, by decide⟩
theorem gf_X5_49 : GF RX5 49 3 1 7 0 1 := ⟨⟨_, _, _, cls3, by decide, Or.inl (gt_in 213 (by decide +kernel) (by decide +kernel))⟩, by decide, rfl, rfl, by decide⟩
theorem gf_X5_52 : GF RX5 52 5 3 11 0 3 := ⟨⟨_, _, _, cls5, by decide, Or.inl (gt_in 489 (by decide +kernel) (by decide +kernel))⟩, by decide, rfl, rfl, by decide⟩
theorem gf_X5_53 : GF RX5 53 3 0 7 0 0 := ⟨⟨_, _, _, cls3, by decide, Or.inl (gt_in 208 (by decide +kernel) (by decide +kernel))⟩, by decide, rfl, rfl, by decide⟩
theorem gf_X5_77 : GF RX5 77 5 10 11 0 10 := ⟨⟨_, _, _, cls5, by decide, Or.inl (gt_in 499 (by decide +kernel) (by decide +kernel))⟩, by decide, rfl, rfl, by decide⟩
theorem gf_X6_12 : GF RX6 12 6 0 14 2 0 := ⟨⟨_, _, _, cls6, by decide, Or.inl (gt_in 339 (by decide +kernel) (by decide +kernel))⟩, by decide, rfl, rfl, by decide⟩
theorem gf_X6_21 : GF RX6 21 6 1 14 2 1 := ⟨⟨_, _, _, cls6, by decide, Or.inl (gt_in 341 (by decide +kernel) (by decide +kernel))⟩, by decide, rfl, rfl, by decide⟩
theorem gf_X6_28 : GF RX6 28 6 2 14 2 2 := ⟨⟨_, _, _, cls6, by decide, Or.inl (gt_in 343 (by decide +kernel) (by decide +kernel))⟩, by decide, rfl, rfl, by decide⟩
theorem gf_X6_32 : GF RX6 32 6 5 14 2 5 := ⟨⟨_, _, _, cls6, by decide, Or.inl (gt_in 349 (by decide +kernel) (by decide +kernel))⟩, by decide, rfl, rfl, by decide⟩
theorem gf_X6_36 : GF RX6 36 6 11 14 2 11 := ⟨⟨_, _, _, cls6, by decide, Or.inl (gt_in 355 (by decide +kernel) (by decide +kernel))⟩, by decide, rfl, rfl, by decide⟩
theorem gf_X6_49 : GF RX6 49 6 6 14 0 6 := ⟨⟨_, _, _, cls6, by decide, Or.inl (gt_in 350 (by decide +kernel) (by decide +kernel))⟩, by decide, rfl, rfl, by decide⟩
theorem gf_X6_62 : GF RX6 62 9 0 4 0 0 := ⟨⟨_, _, _, cls9, by decide, Or.inl (gt_in 253 (by decide +kernel) (by decide +kernel))⟩, by decide, rfl, rfl, by decide⟩
theorem gf_X6_65 : GF RX6 65 0 0 3 0 0 := ⟨⟨_, _, _, cls0, by decide, Or.inl (gt_in 280 (by decide +kernel) (by decide +kernel))⟩, by decide, rfl, rfl, by decide⟩
theorem gf_X6_68 : GF RX6 68 6 3 14 0 3 := ⟨⟨_, _, _, cls6, by decide, Or.inl (gt_in 345 (by decide +kernel) (by decide +kernel))⟩, by decide, rfl, rfl, by decide⟩
theorem gf_X6_71 : GF RX6 71 6 4 14 0 4 := ⟨⟨_, _, _, cls6, by decide, Or.inl (gt_in 347 (by decide +kernel) (by decide +kernel))⟩, by decide, rfl, rfl, by decide⟩
theorem gf_X6_74 : GF RX6 74 6 7 14 0 7 := ⟨⟨_, _, _, cls6, by decide, Or.inl (gt_in 351 (by decide +kernel) (by decide +kernel))⟩, by decide, rfl, rfl, by decide⟩
theorem gf_X6_77 : GF RX6 77 6 12 14 0 12 := ⟨⟨_, _, _, cls6, by decide, Or.inl (gt_in 356 (by decide +kernel) (by decide +kernel))⟩, by decide, rfl, rfl, by decide⟩
theorem gf_X6_80 : GF RX6 80 6 13 14 0 13 := ⟨⟨_, _, _, cls6, by decide, Or.inl (gt_in 357 (by decide +kernel) (by decide +kernel))⟩, by decide, rfl, rfl, by decide⟩
theorem gf_X6_86 : GF RX6 86 6 8 14 0 8 := ⟨⟨_, _, _, cls6, by decide, Or.inl (gt_in 352 (by decide +kernel) (by decide +kernel))⟩, by decide, rfl, rfl, by decide⟩
theorem gf_X6_93 : GF RX6 93 3 2 7 0 2 := ⟨⟨_, _, _, cls3, by decide, Or.inl (gt_in 218 (by decide +kernel) (by decide +kernel))⟩, by decide, rfl, rfl, by decide⟩
theorem gf_X6_100 : GF RX6 100 3 1 7 0 1 := ⟨⟨_, _, _, cls3, by decide, Or.inl (gt_in 212 (by decide +kernel) (by decide +kernel))⟩, by decide, rfl, rfl, by decide⟩
theorem gf_X6_114 : GF RX6 114 6 9 14 0 9 := ⟨⟨_, _, _, cls6, by decide, Or.inl (gt_in 353 (by decide +kernel) (by decide +kernel))⟩, by decide, rfl, rfl, by decide⟩
theorem gf_X6_120 : GF RX6 120 6 10 14 0 10 := ⟨⟨_, _, _, cls6, by decide, Or.inl (gt_in 354 (by decide +kernel) (by decide +kernel))⟩, by decide, rfl, rfl, by decide⟩
theorem gf_X6_175 : GF RX6 175 3 3 7 2 3 := ⟨⟨_, _, _, cls3, by decide, Or.inl (gt_in 225 (by decide +kernel) (by decide +kernel))⟩, by decide, rfl, rfl, by decide⟩
theorem gf_X7_12 : GF RX7 12 7 0 13 2 0 := ⟨⟨_, _, _, cls7, by decide, Or.inl (gt_in 398 (by decide +kernel) (by decide +kernel))⟩, by decide, rfl, rfl, by decide⟩
theorem gf_X7_21 : GF RX7 21 7 1 13 2 1 := ⟨⟨_, _, _, cls7, by decide, Or.inl (gt_in 399 (by decide +kernel) (by decide +kernel))⟩, by decide, rfl, rfl, by decide⟩
theorem gf_X7_25 : GF RX7 25 7 3 13 2 3 := ⟨⟨_, _, _, cls7, by decide, Or.inl (gt_in 401 (by decide +kernel) (by decide +kernel))⟩, by decide, rfl, rfl, by decide⟩
theorem gf_X7_29 : GF RX7 29 7 4 13 2 4 := ⟨⟨_, _, _, cls7, by decide, Or.inl (gt_in 402 (by decide +kernel) (by decide +kernel))⟩, by decide, rfl, rfl, by decide⟩
theorem gf_X7_32 : GF RX7 32 7 7 13 2 7 := ⟨⟨_, _, _, cls7, by decide, Or.inl (gt_in 405 (by decide +kernel) (by decide +kernel))⟩, by decide, rfl, rfl, by decide⟩
theorem gf_X7_35 : GF RX7 35 3 3 7 2 3 := ⟨⟨_, _, _, cls3, by decide, Or.inl (gt_in 224 (by decide +kernel) (by decide +kernel))⟩, by decide, rfl, rfl, by decide⟩
theorem gf_X7_40 : GF RX7 40 3 0 7 0 0 := ⟨⟨_, _, _, cls3, by decide, Or.inl (gt_in 207 (by decide +kernel) (by decide +kernel))⟩, by decide, rfl, rfl, by decide⟩
theorem gf_X7_44 : GF RX7 44 7 2 13 0 2 := ⟨⟨_, _, _, cls7, by decide, Or.inl (gt_in 400 (by decide +kernel) (by decide +kernel))⟩, by decide, rfl, rfl, by decide⟩
theorem gf_X7_45 : GF RX7 45 7 5 13 0 5 := ⟨⟨_, _, _, cls7, by decide, Or.inl (gt_in 403 (by decide +kernel) (by decide +kernel))⟩, by decide, rfl, rfl, by decide⟩
theorem gf_X7_48 : GF RX7 48 7 6 13 0 6 := ⟨⟨_, _, _, cls7, by decide, Or.inl (gt_in 404 (by decide +kernel) (by decide +kernel))⟩, by decide, rfl, rfl, by decide⟩
theorem gf_X7_51 : GF RX7 51 7 8 13 0 8 := ⟨⟨_, _, _, cls7, by decide, Or.inl (gt_in 406 (by decide +kernel) (by decide +kernel))⟩, by decide, rfl, rfl, by decide⟩
theorem gf_X7_54 : GF RX7 54 7 9 13 0 9 := ⟨⟨_, _, _, cls7, by decide, Or.inl (gt_in 407 (by decide +kernel) (by decide +kernel))⟩, by decide, rfl, rfl, by decide⟩
theorem gf_X7_57 : GF RX7 57 7 10 13 0 10 := ⟨⟨_, _, _, cls7, by decide, Or.inl (gt_in 409 (by decide +kernel) (by decide +kernel))⟩, by decide, rfl, rfl, by decide⟩
theorem gf_X7_60 : GF RX7 60 7 11 13 0 11 := ⟨⟨_, _, _, cls7, by decide, Or.inl (gt_in 411 (by decide +kernel) (by decide +kernel))⟩, by decide, rfl, rfl, by decide⟩
theorem gf_X7_63 : GF RX7 63 7 12 13 0 12 := ⟨⟨_, _, _, cls7, by decide, Or.inl (gt_in 413 (by decide +kernel) (by decide +kernel))⟩, by decide, rfl, rfl, by decide⟩
theorem gf_X7_70 : GF RX7 70 9 0 4 0 0 := ⟨⟨_, _, _, cls9, by decide, Or.inl (gt_in 254 (by decide +kernel) (by decide +kernel))⟩, by decide, rfl, rfl, by decide⟩
theorem gf_X7_75 : GF RX7 75 9 1 4 2 1 := ⟨⟨_, _, _, cls9, by decide, Or.inl (gt_in 257 (by decide +kernel) (by decide +kernel))⟩, by decide, rfl, rfl, by decide⟩
theorem gf_X7_78 : GF RX7 78 9 2 4 2 2 := ⟨⟨_, _, _, cls9, by decide, Or.inl (gt_in 260 (by decide +kernel) (by decide +kernel))⟩, by decide, rfl, rfl, by decide⟩
theorem gf_X7_81 : GF RX7 81 9 3 4 2 3 := ⟨⟨_, _, _, cls9, by decide, Or.inl (gt_in 263 (by decide +kernel) (by decide +kernel))⟩, by decide, rfl, rfl, by decide⟩
theorem gf_X7_94 : GF RX7 94 3 2 7 0 2 := ⟨⟨_, _, _, cls3, by decide, Or.inl (gt_in 221 (by decide +kernel) (by decide +kernel))⟩, by decide, rfl, rfl, by decide⟩
theorem gf_X7_97 : GF RX7 97 3 1 7 0 1 := ⟨⟨_, _, _, cls3, by decide, Or.inl (gt_in 214 (by decide +kernel) (by decide +kernel))⟩, by decide, rfl, rfl, by decide⟩
theorem gf_X7_144 : GF RX7 144 2 0 4 2 0 := ⟨⟨_, _, _, cls2, by decide, Or.inl (gt_in 190 (by decide +kernel) (by decide +kernel))⟩, by decide, rfl, rfl, by decide⟩
theorem gf_X8_9 : GF RX8 9 8 0 8 2 0 := ⟨⟨_, _, _, cls8, by decide, Or.inl (gt_in 293 (by decide +kernel) (by decide +kernel))⟩, by decide, rfl, rfl, by decide⟩
theorem gf_X8_15 : GF RX8 15 8 3 8 0 3 := ⟨⟨_, _, _, cls8, by decide, Or.inl (gt_in 299 (by decide +kernel) (by decide +kernel))⟩, by decide, rfl, rfl, by decide⟩
theorem gf_X8_19 : GF RX8 19 8 4 8 2 4 := ⟨⟨_, _, _, cls8, by decide, Or.inl (gt_in 301 (by decide +kernel) (by decide +kernel))⟩, by decide, rfl, rfl, by decide⟩
theorem gf_X8_25 : GF RX8 25 8 5 8 2 5 := ⟨⟨_, _, _, cls8, by decide, Or.inl (gt_in 303 (by decide +kernel) (by decide +kernel))⟩, by decide, rfl, rfl, by decide⟩
theorem gf_X8_31 : GF RX8 31 8 6 8 2 6 := ⟨⟨_, _, _, cls8, by decide, Or.inl (gt_in 305 (by decide +kernel) (by decide +kernel))⟩, by decide, rfl, rfl, by decide⟩
theorem gf_X8_37 : GF RX8 37 8 7 8 2 7 := ⟨⟨_, _, _, cls8, by decide, Or.inl (gt_in 307 (by decide +kernel) (by decide +kernel))⟩, by decide, rfl, rfl, by decide⟩
theorem gf_X8_44 : GF RX8 44 8 1 8 0 1 := ⟨⟨_, _, _, cls8, by decide, Or.inl (gt_in 296 (by decide +kernel) (by decide +kernel))⟩, by decide, rfl, rfl, by decide⟩
theorem gf_X8_47 : GF RX8 47 6 0 14 2 0 := ⟨⟨_, _, _, cls6, by decide, Or.inl (gt_in 340 (by decide +kernel) (by decide +kernel))⟩, by decide, rfl, rfl, by decide⟩
theorem gf_X8_57 : GF RX8 57 6 1 14 2 1 := ⟨⟨_, _, _, cls6, by decide, Or.inl (gt_in 342 (by decide +kernel) (by decide +kernel))⟩, by decide, rfl, rfl, by decide⟩
theorem gf_X8_64 : GF RX8 64 6 2 14 2 2 := ⟨⟨_, _, _, cls6, by decide, Or.inl (gt_in 344 (by decide +kernel) (by decide +kernel))⟩, by decide, rfl, rfl, by decide⟩
theorem gf_X8_83 : GF RX8 83 8 2 8 0 2 := ⟨⟨_, _, _, cls8, by decide, Or.inl (gt_in 298 (by decide +kernel) (by decide +kernel))⟩, by decide, rfl, rfl, by decide⟩
theorem gf_X9_9 : GF RX9 9 9 1 4 2 1 := ⟨⟨_, _, _, cls9, by decide, Or.inl (gt_in 256 (by decide +kernel) (by decide +kernel))⟩, by decide, rfl, rfl, by decide⟩
theorem gf_X9_15 : GF RX9 15 9 2 4 2 2 := ⟨⟨_, _, _, cls9, by decide, Or.inl (gt_in 259 (by decide +kernel) (by decide +kernel))⟩, by decide, rfl, rfl, by decide⟩
theorem gf_X9_18 : GF RX9 18 9 3 4 2 3 := ⟨⟨_, _, _, cls9, by decide, Or.inl (gt_in 262 (by decide +kernel) (by decide +kernel))⟩, by decide, rfl, rfl, by decide⟩
theorem gf_X9_21 : GF RX9 21 9 0 4 0 0 := ⟨⟨_, _, _, cls9, by decide, Or.inl (gt_in 251 (by decide +kernel) (by decide +kernel))⟩, by decide, rfl, rfl, by decide⟩
theorem gf_X11_7 : GF RX11 7 11 0 47 2 0 := ⟨⟨_, _, _, cls11, by decide, Or.inl (gt_in 1293 (by decide +kernel) (by decide +kernel))⟩, by decide, rfl, rfl, by decide⟩
theorem gf_X11_13 : GF RX11 13 11 1 47 2 1 := ⟨⟨_, _, _, cls11, by decide, Or.inl (gt_in 1294 (by decide +kernel) (by decide +kernel))⟩, by decide, rfl, rfl, by decide⟩
theorem gf_X11_17 : GF RX11 17 11 11 47 2 11 := ⟨⟨_, _, _, cls11, by decide, Or.inl (gt_in 1304 (by decide +kernel) (by decide +kernel))⟩, by decide, rfl, rfl, by decide⟩
theorem gf_X11_20 : GF RX11 20 11 15 47 2 15 := ⟨⟨_, _, _, cls11, by decide, Or.inl (gt_in 1308 (by decide +kernel) (by decide +kernel))⟩, by decide, rfl, rfl, by decide⟩
theorem gf_X11_23 : GF RX11 23 11 16 47 2 16 := ⟨⟨_, _, _, cls11, by decide, Or.inl (gt_in 1309 (by decide +kernel) (by decide +kernel))⟩, by decide, rfl, rfl, by decide⟩
theorem gf_X11_26 : GF RX11 26 11 23 47 2 23 := ⟨⟨_, _, _, cls11, by decide, Or.inl (gt_in 1316 (by decide +kernel) (by decide +kernel))⟩, by decide, rfl, rfl, by decide⟩
theorem gf_X11_29 : GF RX11 29 11 24 47 2 24 := ⟨⟨_, _, _, cls11, by decide, Or.inl (gt_in 1317 (by decide +kernel) (by decide +kernel))⟩, by decide, rfl, rfl, by decide⟩
theorem gf_X11_32 : GF RX11 32 11 25 47 2 25 := ⟨⟨_, _, _, cls11, by decide, Or.inl (gt_in 1318 (by decide +kernel) (by decide +kernel))⟩, by decide, rfl, rfl, by decide⟩
theorem gf_X11_35 : GF RX11 35 11 26 47 2 26 := ⟨⟨_, _, _, cls11, by decide, Or.inl (gt_in 1319 (by decide +kernel) (by decide +kernel))⟩, by decide, rfl, rfl, by decide⟩
theorem gf_X11_38 : GF RX11 38 11 27 47 2 27 := ⟨⟨_, _, _, cls11, by decide, Or.inl (gt_in 1320 (by decide +kernel) (by decide +kernel))⟩, by decide, rfl, rfl, by decide⟩
theorem gf_X11_41 : GF RX11 41 11 28 47 2 28 := ⟨⟨_, _, _, cls11, by decide, Or.inl (gt_in 1321 (by decide +kernel) (by decide +kernel))⟩, by decide, rfl, rfl, by decide⟩
theorem gf_X11_44 : GF RX11 44 11 29 47 2 29 := ⟨⟨_, _, _, cls11, by decide, Or.inl (gt_in 1322 (by decide +kernel) (by decide +kernel))⟩, by decide, rfl, rfl, by decide⟩
theorem gf_X11_47 : GF RX11 47 11 30 47 2 30 := ⟨⟨_, _, _, cls11, by decide, Or.inl (gt_in 1323 (by decide +kernel) (by decide +kernel))⟩, by decide, rfl, rfl, by decide⟩
theorem gf_X11_50 : GF RX11 50 11 31 47 2 31 := ⟨⟨_, _, _, cls11, by decide, Or.inl (gt_in 1324 (by decide +kernel) (by decide +kernel))⟩, by decide, rfl, rfl, by decide⟩
theorem gf_X11_53 : GF RX11 53 11 32 47 2 32 := ⟨⟨_, _, _, cls11, by decide, Or.inl (gt_in 1325 (by decide +kernel) (by decide +kernel))⟩, by decide, rfl, rfl, by decide⟩
theorem gf_X11_56 : GF RX11 56 11 33 47 2 33 := ⟨⟨_, _, _, cls11, by decide, Or.inl (gt_in 1326 (by decide +kernel) (by decide +kernel))⟩, by decide, rfl, rfl, by decide⟩
theorem gf_X11_59 : GF RX11 59 11 34 47 2 34 := ⟨⟨_, _, _, cls11, by decide, Or.inl (gt_in 1327 (by decide +kernel) (by decide +kernel))⟩, by decide, rfl, rfl, by decide⟩
theorem gf_X11_62 : GF RX11 62 11 36 47 2 36 := ⟨⟨_, _, _, cls11, by decide, Or.inl (gt_in 1329 (by decide +kernel) (by decide +kernel))⟩, by decide, rfl, rfl, by decide⟩
theorem gf_X11_65 : GF RX11 65 11 38 47 2 38 := ⟨⟨_, _, _, cls11, by decide, Or.inl (gt_in 1331 (by decide +kernel) (by decide +kernel))⟩, by decide, rfl, rfl, by decide⟩
theorem gf_X11_68 : GF RX11 68 11 43 47 2 43 := ⟨⟨_, _, _, cls11, by decide, Or.inl (gt_in 1336 (by decide +kernel) (by decide +kernel))⟩, by decide, rfl, rfl, by decide⟩
theorem gf_X11_71 : GF RX11 71 11 44 47 2 44 := ⟨⟨_, _, _, cls11, by decide, Or.inl (gt_in 1337 (by decide +kernel) (by decide +kernel))⟩, by decide, rfl, rfl, by decide⟩
theorem gf_X11_74 : GF RX11 74 11 45 47 2 45 := ⟨⟨_, _, _, cls11, by decide, Or.inl (gt_in 1338 (by decide +kernel) (by decide +kernel))⟩, by decide, rfl, rfl, by decide⟩
theorem gf_X11_77 : GF RX11 77 11 2 47 0 2 := ⟨⟨_, _, _, cls11, by decide, Or.inl (gt_in 1295 (by decide +kernel) (by decide +kernel))⟩, by decide, rfl, rfl, by decide⟩
theorem gf_X11_91 : GF RX11 91 11 3 47 0 3 := ⟨⟨_, _, _, cls11, by decide, Or.inl (gt_in 1296 (by decide +kernel) (by decide +kernel))⟩, by decide, rfl, rfl, by decide⟩
theorem gf_X11_98 : GF RX11 98 11 4 47 0 4 := ⟨⟨_, _, _, cls11, by decide, Or.inl (gt_in 1297 (by decide +kernel) (by decide +kernel))⟩, by decide, rfl, rfl, by decide⟩
theorem gf_X11_101 : GF RX11 101 11 5 47 0 5 := ⟨⟨_, _, _, cls11, by decide, Or.inl (gt_in 1298 (by decide +kernel) (by decide +kernel))⟩, by decide, rfl, rfl, by decide⟩
theorem gf_X11_116 : GF RX11 116 11 7 47 0 7 := ⟨⟨_, _, _, cls11, by decide, Or.inl (gt_in 1300 (by decide +kernel) (by decide +kernel))⟩, by decide, rfl, rfl, by decide⟩
theorem gf_X11_122 : GF RX11 122 11 6 47 0 6 := ⟨⟨_, _, _, cls11, by decide, Or.inl (gt_in 1299 (by decide +kernel) (by decide +kernel))⟩, by decide, rfl, rfl, by decide⟩
theorem gf_X11_125 : GF RX11 125 11 8 47 0 8 := ⟨⟨_, _, _, cls11, by decide, Or.inl (gt_in 1301 (by decide +kernel) (by decide +kernel))⟩, by decide, rfl, rfl, by decide⟩
theorem gf_X11_150 : GF RX11 150 11 9 47 0 9 := ⟨⟨_, _, _, cls11, by decide, Or.inl (gt_in 1302 (by decide +kernel) (by decide +kernel))⟩, by decide, rfl, rfl, by decide⟩
theorem gf_X11_153 : GF RX11 153 11 10 47 0 10 := ⟨⟨_, _, _, cls11, by decide, Or.inl (gt_in 1303 (by decide +kernel) (by decide +kernel))⟩, by decide, rfl, rfl, by decide⟩
theorem gf_X11_197 : GF RX11 197 11 12 47 0 12 := ⟨⟨_, _, _, cls11, by decide, Or.inl (gt_in 1305 (by decide +kernel) (by decide +kernel))⟩, by decide, rfl, rfl, by decide⟩
theorem gf_X11_200 : GF RX11 200 11 13 47 0 13 := ⟨⟨_, _, _, cls11, by decide, Or.inl (gt_in 1306 (by decide +kernel) (by decide +kernel))⟩, by decide, rfl, rfl, by decide⟩
theorem gf_X11_203 : GF RX11 203 11 14 47 0 14 := ⟨⟨_, _, _, cls11, by decide, Or.inl (gt_in 1307 (by decide +kernel) (by decide +kernel))⟩, by decide, rfl, rfl, by decide⟩
theorem gf_X11_242 : GF RX11 242 11 17 47 0 17 := ⟨⟨_, _, _, cls11, by decide, Or.inl (gt_in 1310 (by decide +kernel) (by decide +kernel))⟩, by decide, rfl, rfl, by decide⟩
theorem gf_X11_248 : GF RX11 248 11 18 47 0 18 := ⟨⟨_, _, _, cls11, by decide, Or.inl (gt_in 1311 (by decide +kernel) (by decide +kernel))⟩, by decide, rfl, rfl, by decide⟩
theorem gf_X11_251 : GF RX11 251 11 19 47 0 19 := ⟨⟨_, _, _, cls11, by decide, Or.inl (gt_in 1312 (by decide +kernel) (by decide +kernel))⟩, by decide, rfl, rfl, by decide⟩
theorem gf_X11_254 : GF RX11 254 11 20 47 0 20 := ⟨⟨_, _, _, cls11, by decide, Or.inl (gt_in 1313 (by decide +kernel) (by decide +kernel))⟩, by decide, rfl, rfl, by decide⟩
theorem gf_X11_257 : GF RX11 257 11 21 47 0 21 := ⟨⟨_, _, _, cls11, by decide, Or.inl (gt_in 1314 (by decide +kernel) (by decide +kernel))⟩, by decide, rfl, rfl, by decide⟩
theorem gf_X11_260 : GF RX11 260 11 22 47 0 22 := ⟨⟨_, _, _, cls11, by decide, Or.inl (gt_in 1315 (by decide +kernel) (by decide +kernel))⟩, by decide, rfl, rfl, by decide⟩
theorem gf_X11_312 : GF RX11 312 11 35 47 0 35 := ⟨⟨_, _, _, cls11, by decide, Or.inl (gt_in 1328 (by decide +kernel) (by decide +kernel))⟩, by decide, rfl, rfl, by decide⟩
theorem gf_X11_417 : GF RX11 417 11 37 47 0 37 := ⟨⟨_, _, _, cls11, by decide, Or.inl (gt_in 1330 (by decide +kernel) (by decide +kernel))⟩, by decide, rfl, rfl, by decide⟩
theorem gf_X11_454 : GF RX11 454 11 39 47 0 39 := ⟨⟨_, _, _, cls11, by decide, Or.inl (gt_in 1332 (by decide +kernel) (by decide +kernel))⟩, by decide, rfl, rfl, by decide⟩
theorem gf_X11_460 : GF RX11 460 11 40 47 0 40 := ⟨⟨_, _, _, cls11, by decide, Or.inl (gt_in 1333 (by decide +kernel) (by decide +kernel))⟩, by decide, rfl, rfl, by decide⟩
theorem gf_X11_463 : GF RX11 463 11 41 47 0 41 := ⟨⟨_, _, _, cls11, by decide, Or.inl (gt_in 1334 (by decide +kernel) (by decide +kernel))⟩, by decide, rfl, rfl, by decide⟩
theorem gf_X11_466 : GF RX11 466 11 42 47 0 42 := ⟨⟨_, _, _, cls11, by decide, Or.inl (gt_in 1335 (by decide +kernel) (by decide +kernel))⟩, by decide, rfl, rfl, by decide⟩
theorem gf_X11_490 : GF RX11 490 11 46 47 0 46 := ⟨⟨_, _, _, cls11, by decide, Or.inl (gt_in 1339 (by decide +kernel) (by decide +kernel))⟩, by decide, rfl, rfl, by decide⟩
theorem po_0_0 {M : MC} {idx : Nat} : PutOK M idx 0 0 := fun C T N h => by cases (Option.some.inj h); exact Or.inl rfl
theorem po_1_1 {M : MC} {idx : Nat} : PutOK M idx 1 1 := fun C T N h => by cases (Option.some.inj h); exact Or.inl rfl
theorem po_2_3 {M : MC} {idx : Nat} : PutOK M idx 2 3 := fun C T N h => by cases (Option.some.inj h); exact Or.inl rfl
theorem po_3_0 {M : MC} {idx : Nat} : PutOK M idx 3 0 := fun C T N h => by cases (Option.some.inj h); exact Or.inl rfl
theorem po_3_1 {M : MC} {idx : Nat} : PutOK M idx 3 1 := fun C T N h => by cases (Option.some.inj h); exact Or.inl rfl
theorem po_3_2 {M : MC} {idx : Nat} : PutOK M idx 3 2 := fun C T N h => by cases (Option.some.inj h); exact Or.inl rfl
theorem po_4_1 {M : MC} {idx : Nat} : PutOK M idx 4 1 := fun C T N h => by cases (Option.some.inj h); exact Or.inl rfl
theorem po_4_2 {M : MC} {idx : Nat} : PutOK M idx 4 2 := fun C T N h => by cases (Option.some.inj h); exact Or.inl rfl
theorem po_4_3 {M : MC} {idx : Nat} : PutOK M idx 4 3 := fun C T N h => by cases (Option.some.inj h); exact Or.inl rfl
theorem po_5_0 {M : MC} {idx : Nat} : PutOK M idx 5 0 := fun C T N h => by cases (Option.some.inj h); exact Or.inl rfl
theorem po_5_1 {M : MC} {idx : Nat} : PutOK M idx 5 1 := fun C T N h => by cases (Option.some.inj h); exact Or.inl rfl
theorem po_5_2 {M : MC} {idx : Nat} : PutOK M idx 5 2 := fun C T N h => by cases (Option.some.inj h); exact Or.inl rfl
theorem po_5_3 {M : MC} {idx : Nat} : PutOK M idx 5 3 := fun C T N h => by cases (Option.some.inj h); exact Or.inl rfl
theorem po_5_10 {M : MC} {idx : Nat} : PutOK M idx 5 10 := fun C T N h => by cases (Option.some.inj h); exact Or.inl rfl
theorem po_6_3 {M : MC} {idx : Nat} : PutOK M idx 6 3 := fun C T N h => by cases (Option.some.inj h); exact Or.inl rfl
theorem po_6_4 {M : MC} {idx : Nat} : PutOK M idx 6 4 := fun C T N h => by cases (Option.some.inj h); exact Or.inl rfl
theorem po_6_6 {M : MC} {idx : Nat} : PutOK M idx 6 6 := fun C T N h => by cases (Option.some.inj h); exact Or.inl rfl
theorem po_6_7 {M : MC} {idx : Nat} : PutOK M idx 6 7 := fun C T N h => by cases (Option.some.inj h); exact Or.inl rfl
theorem po_6_8 {M : MC} {idx : Nat} : PutOK M idx 6 8 := fun C T N h => by cases (Option.some.inj h); exact Or.inl rfl
theorem po_6_9 {M : MC} {idx : Nat} : PutOK M idx 6 9 := fun C T N h => by cases (Option.some.inj h); exact Or.inl rfl
theorem po_6_10 {M : MC} {idx : Nat} : PutOK M idx 6 10 := fun C T N h => by cases (Option.some.inj h); exact Or.inl rfl
theorem po_6_12 {M : MC} {idx : Nat} : PutOK M idx 6 12 := fun C T N h => by cases (Option.some.inj h); exact Or.inl rfl
theorem po_6_13 {M : MC} {idx : Nat} : PutOK M idx 6 13 := fun C T N h => by cases (Option.some.inj h); exact Or.inl rfl
theorem po_7_0 {M : MC} {idx : Nat} : PutOK M idx 7 0 := fun C T N h => by cases (Option.some.inj h); exact Or.inl rfl
theorem po_7_2 {M : MC} {idx : Nat} : PutOK M idx 7 2 := fun C T N h => by cases (Option.some.inj h); exact Or.inl rfl
theorem po_7_5 {M : MC} {idx : Nat} : PutOK M idx 7 5 := fun C T N h => by cases (Option.some.inj h); exact Or.inl rfl
theorem po_7_6 {M : MC} {idx : Nat} : PutOK M idx 7 6 := fun C T N h => by cases (Option.some.inj h); exact Or.inl rfl
theorem po_7_8 {M : MC} {idx : Nat} : PutOK M idx 7 8 := fun C T N h => by cases (Option.some.inj h); exact Or.inl rfl
theorem po_7_9 {M : MC} {idx : Nat} : PutOK M idx 7 9 := fun C T N h => by cases (Option.some.inj h); exact Or.inl rfl
theorem po_7_10 {M : MC} {idx : Nat} : PutOK M idx 7 10 := fun C T N h => by cases (Option.some.inj h); exact Or.inl rfl
theorem po_7_11 {M : MC} {idx : Nat} : PutOK M idx 7 11 := fun C T N h => by cases (Option.some.inj h); exact Or.inl rfl
theorem po_7_12 {M : MC} {idx : Nat} : PutOK M idx 7 12 := fun C T N h => by cases (Option.some.inj h); exact Or.inl rfl
theorem po_8_1 {M : MC} {idx : Nat} : PutOK M idx 8 1 := fun C T N h => by cases (Option.some.inj h); exact Or.inl rfl
theorem po_8_2 {M : MC} {idx : Nat} : PutOK M idx 8 2 := fun C T N h => by cases (Option.some.inj h); exact Or.inl rfl
theorem po_8_3 {M : MC} {idx : Nat} : PutOK M idx 8 3 := fun C T N h => by cases (Option.some.inj h); exact Or.inl rfl
theorem po_9_0 {M : MC} {idx : Nat} : PutOK M idx 9 0 := fun C T N h => by cases (Option.some.inj h); exact Or.inl rfl
theorem po_11_2 {M : MC} {idx : Nat} : PutOK M idx 11 2 := fun C T N h => by cases (Option.some.inj h); exact Or.inl rfl
theorem po_11_3 {M : MC} {idx : Nat} : PutOK M idx 11 3 := fun C T N h => by cases (Option.some.inj h); exact Or.inl rfl
theorem po_11_4 {M : MC} {idx : Nat} : PutOK M idx 11 4 := fun C T N h => by cases (Option.some.inj h); exact Or.inl rfl
theorem po_11_5 {M : MC} {idx : Nat} : PutOK M idx 11 5 := fun C T N h => by cases (Option.some.inj h); exact Or.inl rfl
theorem po_11_6 {M : MC} {idx : Nat} : PutOK M idx 11 6 := fun C T N h => by cases (Option.some.inj h); exact Or.inl rfl
theorem po_11_7 {M : MC} {idx : Nat} : PutOK M idx 11 7 := fun C T N h => by cases (Option.some.inj h); exact Or.inl rfl
theorem po_11_8 {M : MC} {idx : Nat} : PutOK M idx 11 8 := fun C T N h => by cases (Option.some.inj h); exact Or.inl rfl
theorem po_11_9 {M : MC} {idx : Nat} : PutOK M idx 11 9 := fun C T N h => by cases (Option.some.inj h); exact Or.inl rfl
theorem po_11_10 {M : MC} {idx : Nat} : PutOK M idx 11 10 := fun C T N h => by cases (Option.some.inj h); exact Or.inl rfl
theorem po_11_12 {M : MC} {idx : Nat} : PutOK M idx 11 12 := fun C T N h => by cases (Option.some.inj h); exact Or.inl rfl
theorem po_11_13 {M : MC} {idx : Nat} : PutOK M idx 11 13 := fun C T N h => by cases (Option.some.inj h); exact Or.inl rfl
theorem po_11_14 {M : MC} {idx : Nat} : PutOK M idx 11 14 := fun C T N h => by cases (Option.some.inj h); exact Or.inl rfl
theorem po_11_17 {M : MC} {idx : Nat} : PutOK M idx 11 17 := fun C T N h => by cases (Option.some.inj h); exact Or.inl rfl
theorem po_11_18 {M : MC} {idx : Nat} : PutOK M idx 11 18 := fun C T N h => by cases (Option.some.inj h); exact Or.inl rfl
theorem po_11_19 {M : MC} {idx : Nat} : PutOK M idx 11 19 := fun C T N h => by cases (Option.some.inj h); exact Or.inl rfl
theorem po_11_20 {M : MC} {idx : Nat} : PutOK M idx 11 20 := fun C T N h => by cases (Option.some.inj h); exact Or.inl rfl
theorem po_11_21 {M : MC} {idx : Nat} : PutOK M idx 11 21 := fun C T N h => by cases (Option.some.inj h); exact Or.inl rfl
theorem po_11_22 {M : MC} {idx : Nat} : PutOK M idx 11 22 := fun C T N h => by cases (Option.some.inj h); exact Or.inl rfl
theorem po_11_35 {M : MC} {idx : Nat} : PutOK M idx 11 35 := fun C T N h => by cases (Option.some.inj h); exact Or.inl rfl
theorem po_11_37 {M : MC} {idx : Nat} : PutOK M idx 11 37 := fun C T N h => by cases (Option.some.inj h); exact Or.inl rfl
theorem po_11_39 {M : MC} {idx : Nat} : PutOK M idx 11 39 := fun C T N h => by cases (Option.some.inj h); exact Or.inl rfl
theorem po_11_40 {M : MC} {idx : Nat} : PutOK M idx 11 40 := fun C T N h => by cases (Option.some.inj h); exact Or.inl rfl
theorem po_11_41 {M : MC} {idx : Nat} : PutOK M idx 11 41 := fun C T N h => by cases (Option.some.inj h); exact Or.inl rfl
theorem po_11_42 {M : MC} {idx : Nat} : PutOK M idx 11 42 := fun C T N h => by cases (Option.some.inj h); exact Or.inl rfl
theorem po_11_46 {M : MC} {idx : Nat} : PutOK M idx 11 46 := fun C T N h => by cases (Option.some.inj h); exact Or.inl rfl
theorem nf_0_0 (z : Int) : NF 0 0 0 z := fun _ => nf_int
theorem nf_1_1 (z : Int) : NF 1 1 0 z := fun _ => nf_int
theorem nf_2_3 (z : Int) : NF 2 3 0 z := fun _ => nf_int
theorem nf_3_0 (z : Int) : NF 3 0 0 z := fun _ => nf_int
theorem nf_3_1 (z : Int) : NF 3 1 0 z := fun _ => nf_int
theorem nf_3_2 (z : Int) : NF 3 2 0 z := fun _ => nf_int
theorem nf_4_1 (z : Int) : NF 4 1 0 z := fun _ => nf_int
theorem nf_4_2 (z : Int) : NF 4 2 0 z := fun _ => nf_int
theorem nf_4_3 (z : Int) : NF 4 3 0 z := fun _ => nf_int
theorem nf_5_0 (z : Int) : NF 5 0 0 z := fun _ => nf_int
theorem nf_5_1 (z : Int) : NF 5 1 0 z := fun _ => nf_int
theorem nf_5_2 (z : Int) : NF 5 2 0 z := fun _ => nf_int
theorem nf_5_3 (z : Int) : NF 5 3 0 z := fun _ => nf_int
theorem nf_5_10 (z : Int) : NF 5 10 0 z := fun _ => nf_int
theorem nf_6_3 (z : Int) : NF 6 3 0 z := fun _ => nf_int
theorem nf_6_4 (z : Int) : NF 6 4 0 z := fun _ => nf_int
theorem nf_6_6 (z : Int) : NF 6 6 0 z := fun _ => nf_int
theorem nf_6_7 (z : Int) : NF 6 7 0 z := fun _ => nf_int
theorem nf_6_8 (z : Int) : NF 6 8 0 z := fun _ => nf_int
theorem nf_6_9 (z : Int) : NF 6 9 0 z := fun _ => nf_int
theorem nf_6_10 (z : Int) : NF 6 10 0 z := fun _ => nf_int
theorem nf_6_12 (z : Int) : NF 6 12 0 z := fun _ => nf_int
theorem nf_6_13 (z : Int) : NF 6 13 0 z := fun _ => nf_int
theorem nf_7_2 (z : Int) : NF 7 2 0 z := fun _ => nf_int
theorem nf_7_5 (z : Int) : NF 7 5 0 z := fun _ => nf_int
theorem nf_7_6 (z : Int) : NF 7 6 0 z := fun _ => nf_int
theorem nf_7_8 (z : Int) : NF 7 8 0 z := fun _ => nf_int
theorem nf_7_9 (z : Int) : NF 7 9 0 z := fun _ => nf_int
theorem nf_7_10 (z : Int) : NF 7 10 0 z := fun _ => nf_int
theorem nf_7_11 (z : Int) : NF 7 11 0 z := fun _ => nf_int
theorem nf_7_12 (z : Int) : NF 7 12 0 z := fun _ => nf_int
theorem nf_8_1 (z : Int) : NF 8 1 0 z := fun _ => nf_int
theorem nf_8_2 (z : Int) : NF 8 2 0 z := fun _ => nf_int
theorem nf_8_3 (z : Int) : NF 8 3 0 z := fun _ => nf_int
theorem nf_9_0 (z : Int) : NF 9 0 0 z := fun _ => nf_int
theorem nf_11_2 (z : Int) : NF 11 2 0 z := fun _ => nf_int
theorem nf_11_3 (z : Int) : NF 11 3 0 z := fun _ => nf_int
theorem nf_11_4 (z : Int) : NF 11 4 0 z := fun _ => nf_int
theorem nf_11_5 (z : Int) : NF 11 5 0 z := fun _ => nf_int
theorem nf_11_6 (z : Int) : NF 11 6 0 z := fun _ => nf_int
theorem nf_11_7 (z : Int) : NF 11 7 0 z := fun _ => nf_int
theorem nf_11_9 (z : Int) : NF 11 9 0 z := fun _ => nf_int
theorem nf_11_10 (z : Int) : NF 11 10 0 z := fun _ => nf_int
theorem nf_11_12 (z : Int) : NF 11 12 0 z := fun _ => nf_int
theorem nf_11_13 (z : Int) : NF 11 13 0 z := fun _ => nf_int
theorem nf_11_14 (z : Int) : NF 11 14 0 z := fun _ => nf_int
theorem nf_11_17 (z : Int) : NF 11 17 0 z := fun _ => nf_int
theorem nf_11_18 (z : Int) : NF 11 18 0 z := fun _ => nf_int
theorem nf_11_19 (z : Int) : NF 11 19 0 z := fun _ => nf_int
theorem nf_11_20 (z : Int) : NF 11 20 0 z := fun _ => nf_int
theorem nf_11_21 (z : Int) : NF 11 21 0 z := fun _ => nf_int
theorem nf_11_22 (z : Int) : NF 11 22 0 z := fun _ => nf_int
theorem nf_11_35 (z : Int) : NF 11 35 0 z := fun _ => nf_int
theorem nf_11_37 (z : Int) : NF 11 37 0 z := fun _ => nf_int
theorem nf_11_39 (z : Int) : NF 11 39 0 z := fun _ => nf_int
theorem nf_11_40 (z : Int) : NF 11 40 0 z := fun _ => nf_int
theorem nf_11_41 (z : Int) : NF 11 41 0 z := fun _ => nf_int
theorem nf_11_42 (z : Int) : NF 11 42 0 z := fun _ => nf_int
theorem nf_11_46 (z : Int) : NF 11 46 0 z := fun _ => nf_int
theorem r32_m99 : r32 (-99) := by unfold r32; omega
theorem r32_m2 : r32 (-2) := by unfold r32; omega
theorem r32_m1 : r32 (-1) := by unfold r32; omega
theorem r32_0 : r32 0 := by unfold r32; omega
theorem r32_1 : r32 1 := by unfold r32; omega
theorem r32_2 : r32 2 := by unfold r32; omega
theorem r32_3 : r32 3 := by unfold r32; omega
theorem r32_4 : r32 4 := by unfold r32; omega
theorem r32_5 : r32 5 := by unfold r32; omega
theorem r32_6 : r32 6 := by unfold r32; omega
theorem r32_7 : r32 7 := by unfold r32; omega
theorem r32_8 : r32 8 := by unfold r32; omega
theorem r32_9 : r32 9 := by unfold r32; omega
theorem r32_10 : r32 10 := by unfold r32; omega
theorem r32_11 : r32 11 := by unfold r32; omega
theorem r32_12 : r32 12 := by unfold r32; omega
theorem r32_14 : r32 14 := by unfold r32; omega
theorem r32_15 : r32 15 := by unfold r32; omega
theorem r32_16 : r32 16 := by unfold r32; omega
theorem r32_17 : r32 17 := by unfold r32; omega
theorem r32_18 : r32 18 := by unfold r32; omega
theorem r32_19 : r32 19 := by unfold r32; omega
theorem r32_20 : r32 20 := by unfold r32; omega
theorem r32_21 : r32 21 := by unfold r32; omega
theorem r32_23 : r32 23 := by unfold r32; omega
theorem r32_24 : r32 24 := by unfold r32; omega
theorem r32_32 : r32 32 := by unfold r32; omega
theorem r32_36 : r32 36 := by unfold r32; omega
theorem r32_40 : r32 40 := by unfold r32; omega
theorem r32_48 : r32 48 := by unfold r32; omega
theorem r32_55 : r32 55 := by unfold r32; omega
theorem r32_57 : r32 57 := by unfold r32; omega
theorem r32_59 : r32 59 := by unfold r32; omega
theorem r32_60 : r32 60 := by unfold r32; omega
theorem r32_63 : r32 63 := by unfold r32; omega
theorem r32_79 : r32 79 := by unfold r32; omega
theorem r32_80 : r32 80 := by unfold r32; omega
theorem r32_97 : r32 97 := by unfold r32; omega
theorem r32_99 : r32 99 := by unfold r32; omega
theorem r32_100 : r32 100 := by unfold r32; omega
theorem r32_121 : r32 121 := by unfold r32; omega
theorem r32_122 : r32 122 := by unfold r32; omega
theorem r32_255 : r32 255 := by unfold r32; omega
theorem r32_600 : r32 600 := by unfold r32; omega
theorem r32_610 : r32 610 := by unfold r32; omega
theorem r32_720 : r32 720 := by unfold r32; omega
theorem r32_721 : r32 721 := by unfold r32; omega
theorem r32_770 : r32 770 := by unfold r32; omega
theorem r32_1012 : r32 1012 := by unfold r32; omega
theorem r32_1046 : r32 1046 := by unfold r32; omega
theorem r32_12345 : r32 12345 := by unfold r32; omega
theorem r32_99999999 : r32 99999999 := by unfold r32; omega
theorem r32_252645135 : r32 252645135 := by unfold r32; omega
theorem r32_858993459 : r32 858993459 := by unfold r32; omega
theorem r32_1103515245 : r32 1103515245 := by unfold r32; omega
theorem r32_1431655765 : r32 1431655765 := by unfold r32; omega
theorem bp_ok : True := trivial
theorem bp_m99 : (Int8.ofInt (-99)).toInt32 = I32 (-99) := by decide +kernel
theorem bp_m2 : (Int8.ofInt (-2)).toInt32 = I32 (-2) := by decide +kernel
theorem bp_6 : (Int8.ofInt 6).toInt32 = I32 6 := by decide +kernel
theorem bp_7 : (Int8.ofInt 7).toInt32 = I32 7 := by decide +kernel
theorem bp_8 : (Int8.ofInt 8).toInt32 = I32 8 := by decide +kernel
theorem bp_9 : (Int8.ofInt 9).toInt32 = I32 9 := by decide +kernel
theorem bp_10 : (Int8.ofInt 10).toInt32 = I32 10 := by decide +kernel
theorem bp_11 : (Int8.ofInt 11).toInt32 = I32 11 := by decide +kernel
theorem bp_12 : (Int8.ofInt 12).toInt32 = I32 12 := by decide +kernel
theorem bp_14 : (Int8.ofInt 14).toInt32 = I32 14 := by decide +kernel
theorem bp_15 : (Int8.ofInt 15).toInt32 = I32 15 := by decide +kernel
theorem bp_16 : (Int8.ofInt 16).toInt32 = I32 16 := by decide +kernel
theorem bp_17 : (Int8.ofInt 17).toInt32 = I32 17 := by decide +kernel
theorem bp_18 : (Int8.ofInt 18).toInt32 = I32 18 := by decide +kernel
theorem bp_19 : (Int8.ofInt 19).toInt32 = I32 19 := by decide +kernel
theorem bp_20 : (Int8.ofInt 20).toInt32 = I32 20 := by decide +kernel
theorem bp_21 : (Int8.ofInt 21).toInt32 = I32 21 := by decide +kernel
theorem bp_23 : (Int8.ofInt 23).toInt32 = I32 23 := by decide +kernel
theorem bp_24 : (Int8.ofInt 24).toInt32 = I32 24 := by decide +kernel
theorem bp_32 : (Int8.ofInt 32).toInt32 = I32 32 := by decide +kernel
theorem bp_36 : (Int8.ofInt 36).toInt32 = I32 36 := by decide +kernel
theorem bp_40 : (Int8.ofInt 40).toInt32 = I32 40 := by decide +kernel
theorem bp_48 : (Int8.ofInt 48).toInt32 = I32 48 := by decide +kernel
theorem bp_55 : (Int8.ofInt 55).toInt32 = I32 55 := by decide +kernel
theorem bp_57 : (Int8.ofInt 57).toInt32 = I32 57 := by decide +kernel
theorem bp_59 : (Int8.ofInt 59).toInt32 = I32 59 := by decide +kernel
theorem bp_60 : (Int8.ofInt 60).toInt32 = I32 60 := by decide +kernel
theorem bp_63 : (Int8.ofInt 63).toInt32 = I32 63 := by decide +kernel
theorem bp_79 : (Int8.ofInt 79).toInt32 = I32 79 := by decide +kernel
theorem bp_80 : (Int8.ofInt 80).toInt32 = I32 80 := by decide +kernel
theorem bp_97 : (Int8.ofInt 97).toInt32 = I32 97 := by decide +kernel
theorem bp_99 : (Int8.ofInt 99).toInt32 = I32 99 := by decide +kernel
theorem bp_100 : (Int8.ofInt 100).toInt32 = I32 100 := by decide +kernel
theorem bp_121 : (Int8.ofInt 121).toInt32 = I32 121 := by decide +kernel
theorem bp_122 : (Int8.ofInt 122).toInt32 = I32 122 := by decide +kernel
theorem sp_255 : (Int16.ofInt 255).toInt32 = I32 255 := by decide +kernel
theorem sp_600 : (Int16.ofInt 600).toInt32 = I32 600 := by decide +kernel
theorem sp_610 : (Int16.ofInt 610).toInt32 = I32 610 := by decide +kernel
theorem sp_720 : (Int16.ofInt 720).toInt32 = I32 720 := by decide +kernel
theorem sp_721 : (Int16.ofInt 721).toInt32 = I32 721 := by decide +kernel
theorem sp_770 : (Int16.ofInt 770).toInt32 = I32 770 := by decide +kernel
theorem sp_1012 : (Int16.ofInt 1012).toInt32 = I32 1012 := by decide +kernel
theorem sp_1046 : (Int16.ofInt 1046).toInt32 = I32 1046 := by decide +kernel
theorem sp_12345 : (Int16.ofInt 12345).toInt32 = I32 12345 := by decide +kernel
theorem cs_X10_449 : Cond.constantLong RX10 449 (I64 (-1)) ∈ lw_gt := (gt_in 1285 (by decide +kernel) (by decide +kernel))
theorem cs_X10_451 : Cond.constantLong RX10 451 (I64 10) ∈ lw_gt := (gt_in 1286 (by decide +kernel) (by decide +kernel))
theorem cs_X1_41 : Cond.constant RX1 41 (I32 1103515245) ∈ lw_gt := (gt_in 925 (by decide +kernel) (by decide +kernel))
theorem cs_X11_85 : Cond.constantLong RX11 85 (I64 1048576) ∈ lw_gt := (gt_in 1480 (by decide +kernel) (by decide +kernel))
theorem cs_X11_108 : Cond.constantLong RX11 108 (I64 32) ∈ lw_gt := (gt_in 1469 (by decide +kernel) (by decide +kernel))
theorem cs_X11_110 : Cond.constantLong RX11 110 (I64 96) ∈ lw_gt := (gt_in 1470 (by decide +kernel) (by decide +kernel))
theorem cs_X11_311 : Cond.constant RX11 311 (I32 99999999) ∈ lw_gt := (gt_in 1693 (by decide +kernel) (by decide +kernel))
theorem cs_X11_341 : Cond.constantLong RX11 341 (I64 (-1)) ∈ lw_gt := (gt_in 1725 (by decide +kernel) (by decide +kernel))
theorem cs_X11_343 : Cond.constantLong RX11 343 (I64 10) ∈ lw_gt := (gt_in 1726 (by decide +kernel) (by decide +kernel))
theorem cs_X11_493 : Cond.constant RX11 493 (I32 1103515245) ∈ lw_gt := (gt_in 1964 (by decide +kernel) (by decide +kernel))
theorem cs_J6_265 : Cond.constant RJ6 265 (I32 1431655765) ∈ lw_gt := (gt_in 879 (by decide +kernel) (by decide +kernel))
theorem cs_J6_266 : Cond.constant RJ6 266 (I32 858993459) ∈ lw_gt := (gt_in 880 (by decide +kernel) (by decide +kernel))
theorem cs_J6_267 : Cond.constant RJ6 267 (I32 252645135) ∈ lw_gt := (gt_in 881 (by decide +kernel) (by decide +kernel))
theorem st_X5_74 : Cond.fieldLink RX5 74 "ProofLine" (stn 2) "[I" ∈ lw_gt ∨ ∃ host : String, Cond.fieldLinkNest RX5 74 "ProofLine" (stn 2) "[I" host ∈ lw_ns := Or.inr ⟨"ProofLine", (ns_in 1224 (by decide +kernel) (by decide +kernel))⟩
theorem st_X6_117 : Cond.fieldLink RX6 117 "ProofLine" (stn 0) "[I" ∈ lw_gt ∨ ∃ host : String, Cond.fieldLinkNest RX6 117 "ProofLine" (stn 0) "[I" host ∈ lw_ns := Or.inr ⟨"ProofLine", (ns_in 698 (by decide +kernel) (by decide +kernel))⟩
theorem st_X6_169 : Cond.fieldLink RX6 169 "ProofLine" (stn 1) "[I" ∈ lw_gt ∨ ∃ host : String, Cond.fieldLinkNest RX6 169 "ProofLine" (stn 1) "[I" host ∈ lw_ns := Or.inr ⟨"ProofLine", (ns_in 704 (by decide +kernel) (by decide +kernel))⟩
theorem st_max : Cond.static Lib.Math.max.name ∈ lw_gt := (gt_in 584 (by decide +kernel) (by decide +kernel))
theorem co_max : Cond.code Lib.Math.max.name Lib.Math.max.code 2 (some .int) ∈ lw_gt := (gt_in 585 (by decide +kernel) (by decide +kernel))
theorem st_min : Cond.static Lib.Math.min.name ∈ lw_gt := (gt_in 581 (by decide +kernel) (by decide +kernel))
theorem co_min : Cond.code Lib.Math.min.name Lib.Math.min.code 2 (some .int) ∈ lw_gt := (gt_in 582 (by decide +kernel) (by decide +kernel))
theorem in_Math : Cond.initialized "java/lang/Math" ∈ lw_gt := (gt_in 150 (by decide +kernel) (by decide +kernel))
theorem mm_X10_339 : Cond.methodLink RX10 339 Lib.Math.max.name ∈ lw_gt := (gt_in 1096 (by decide +kernel) (by decide +kernel))
theorem mm_X2_50 : Cond.methodLink RX2 50 Lib.Math.max.name ∈ lw_gt := (gt_in 966 (by decide +kernel) (by decide +kernel))
theorem mm_X3_83 : Cond.methodLink RX3 83 Lib.Math.max.name ∈ lw_gt := (gt_in 1036 (by decide +kernel) (by decide +kernel))
theorem mm_X5_42 : Cond.methodLink RX5 42 Lib.Math.min.name ∈ lw_gt := (gt_in 1201 (by decide +kernel) (by decide +kernel))
theorem mm_X5_93 : Cond.methodLink RX5 93 Lib.Math.max.name ∈ lw_gt := (gt_in 1248 (by decide +kernel) (by decide +kernel))
theorem mm_X6_40 : Cond.methodLink RX6 40 Lib.Math.min.name ∈ lw_gt := (gt_in 580 (by decide +kernel) (by decide +kernel))
theorem mm_X6_46 : Cond.methodLink RX6 46 Lib.Math.max.name ∈ lw_gt := (gt_in 583 (by decide +kernel) (by decide +kernel))
theorem mm_X7_88 : Cond.methodLink RX7 88 Lib.Math.min.name ∈ lw_gt := (gt_in 892 (by decide +kernel) (by decide +kernel))
theorem mm_X8_71 : Cond.methodLink RX8 71 Lib.Math.max.name ∈ lw_gt := (gt_in 768 (by decide +kernel) (by decide +kernel))
theorem cy_X10_456 {M : MC} (h : M.y.cls = RX10) : CpyOK M 456 := ⟨by rw [h]; exact (gt_in 756 (by decide +kernel) (by decide +kernel)), (gt_in 588 (by decide +kernel) (by decide +kernel)), (gt_in 587 (by decide +kernel) (by decide +kernel)), (gt_in 151 (by decide +kernel) (by decide +kernel))⟩
theorem cy_X6_53 {M : MC} (h : M.y.cls = RX6) : CpyOK M 53 := ⟨by rw [h]; exact (gt_in 586 (by decide +kernel) (by decide +kernel)), (gt_in 588 (by decide +kernel) (by decide +kernel)), (gt_in 587 (by decide +kernel) (by decide +kernel)), (gt_in 151 (by decide +kernel) (by decide +kernel))⟩
theorem cy_X8_77 {M : MC} (h : M.y.cls = RX8) : CpyOK M 77 := ⟨by rw [h]; exact (gt_in 789 (by decide +kernel) (by decide +kernel)), (gt_in 588 (by decide +kernel) (by decide +kernel)), (gt_in 587 (by decide +kernel) (by decide +kernel)), (gt_in 151 (by decide +kernel) (by decide +kernel))⟩
