/-! What the claim's tables say of the small machine's methods: printed by program, each row decided. -/
def Rn (o : Nat) : String := match o with
  | 0 => RX0
  | 1 => RX1
  | 2 => RX2
  | 3 => RX3
  | 4 => RX4
  | 5 => RX5
  | 6 => RX6
  | 7 => RX7
  | 8 => RX8
  | 9 => RX9
  | 10 => RX10
  | 11 => RJ0
  | 12 => RJ1
  | 13 => RJ3
  | 14 => RJ9
  | _ => RJ6
def TT (o : Nat) : u_T := match o with
  | 0 => TX0
  | 1 => TX1
  | 2 => TX2
  | 3 => TX3
  | 4 => TX4
  | 5 => TX5
  | 6 => TX6
  | 7 => TX7
  | 8 => TX8
  | 9 => TX9
  | _ => TX10
def tyT (o : Nat) : Nat → FieldType := match o with
  | 0 => tyX0
  | 1 => tyX1
  | 2 => tyX2
  | 3 => tyX3
  | 4 => tyX4
  | 5 => tyX5
  | 6 => tyX6
  | 7 => tyX7
  | 8 => tyX8
  | 9 => tyX9
  | _ => tyX10
def nN (o : Nat) : Nat := [1, 5, 7, 13, 14, 16, 4, 5, 8, 8, 82].getD o 0
def ftL : List (List Nat) := [[2], [2, 2, 2, 0, 4], [2, 2, 2, 2, 2, 2, 0], [2, 2, 2, 2, 2, 2, 0, 0, 0, 0, 0, 0, 4], [2, 2, 2, 2, 2, 2, 2, 0, 0, 0, 0, 0, 0, 0], [2, 2, 2, 2, 4, 0, 0, 0, 0, 0, 0, 0, 0, 0, 0, 0], [2, 2, 0, 0], [2, 2, 2, 2, 0], [2, 2, 2, 2, 2, 0, 0, 0], [2, 2, 2, 2, 2, 0, 0, 4], [2, 0, 2, 0, 4, 0, 0, 0, 0, 0, 0, 0, 0, 0, 2, 2, 2, 2, 2, 2, 2, 2, 0, 2, 2, 2, 2, 2, 2, 2, 2, 0, 2, 2, 2, 2, 2, 2, 0, 0, 0, 0, 0, 2, 2, 2, 0, 0, 4, 2, 2, 2, 0, 2, 2, 2, 2, 0, 0, 2, 2, 2, 2, 2, 2, 0, 0, 0, 0, 0, 0, 2, 0, 0, 0, 2, 2, 0, 4, 0, 0, 0]]
/-- what a field is: 0 int, 1 long, 2 a reference, 4 boolean -/
def ft (c k : Nat) : Nat := (ftL.getD c []).getD k 0
def ynL : List MethodName := [yX0_init, yX0_load, yX0_look, yX0_put, yX0_copy, yX0_alike, yX0_holds, yX0_writeDigits, yX1_init, yX1_begin, yX1_add, yX1_aimHere, yX1_count, yX1_act, yX1_first, yX1_second, yX1_known, yX2_init, yX2_clear, yX2_add, yX2_addParameter, yX2_setType, yX2_setEntry, yX2_setSlots, yX2_find, yX2_parameters, yX2_parameterType, yX2_type, yX2_entry, yX2_slots, yX2_known, yX3_init, yX3_clear, yX3_make, yX3_hold, yX3_drop, yX3_reading, yX3_touched, yX3_beginLook, yX3_see, yX3_endLook, yX3_size, yX3_made, yX3_most, yX3_taken, yX3_mistakes, yX3_pieces, yX3_longest, yX3_owner, yX3_known, yX3_chain, yX4_init, yX4_start, yX4_result, yX4_toldBytes, yX4_steps, yX4_act, yX4_base, yX4_pass, yX4_jumpIfZero, yX4_settle, yX4_call, yX4_giveBack, yX4_print, yX4_reckon, yX4_reckoned, yX4_compare, yX4_holds, yX4_orderOfTexts, yX4_byteAt, yX4_alike, yX4_join, yX4_byteOf, yX4_part, yX4_find, yX4_placeOf, yX4_digits, yX4_sign, yX4_makeOfOne, yX5_init, yX5_check, yX5_faultPlace, yX5_hasMain, yX5_clear, yX5_begin, yX5_function, yX5_nameOfFunction, yX5_parameters, yX5_parameter, yX5_type, yX5_block, yX5_statement, yX5_let, yX5_give, yX5_choose, yX5_repeat, yX5_giveBack, yX5_print, yX5_forget, yX5_rowOf, yX5_row, yX5_levelOf, yX5_settle, yX5_compare, yX5_reckon, yX5_front, yX5_part, yX5_bracketed, yX5_atom, yX5_number, yX5_quotes, yX5_local, yX5_group, yX5_ofOne, yX5_find, yX5_call, yX5_handOver, yX5_open, yX5_close, yX5_countSign, yX5_kind, yX5_here, yX5_next, yX5_expect, yX5_refuse, yX5_faultOfName, yX5_want, yX6_init, yX6_begin, yX6_full, yX6_add, yX6_find, yX6_type, yX6_count, yX6_most, yX6_cut, yX7_init, yX7_clear, yX7_top, yX7_block, yX7_start, yX7_count, yX7_push, yX7_pushCopy, yX7_pop, yX7_replace, yX7_replaceByInt, yX7_give, yX7_reserve, yX7_forget, yX7_lookThrough, yX7_known, yX8_init, yX8_split, yX8_last, yX8_kind, yX8_from, yX8_value, yX8_pack, yX8_takeWord, yX8_takeName, yX8_keywordOr, yX8_takeNumber, yX8_takeQuotes, yX8_takeSign, yX8_refuse, yX8_put, yX8_look, yX8_isSmallLetter, yX8_isDigit, yX8_nameDigit, yX9_init, yX9_feed, yX9_read, yX9_place, yX9_run, yX9_told, yX9_letter, yX9_whose, yX9_wrong, yX9_needRun, yX10_init, yX10_thrown, yX10_feed, yX10_isLetter, yX10_isFigure, yX10_byteAt, yX10_isWord, yX10_isKeyword, yX10_next, yX10_nextName, yX10_nextNumber, yX10_nextQuote, yX10_is, yX10_fails, yX10_take, yX10_node, yX10_sign, yX10_opens, yX10_shuts, yX10_between, yX10_e, yX10_front, yX10_part, yX10_atom, yX10_name, yX10_whole, yX10_block, yX10_statement, yX10_blocks, yX10_isType, yX10_type, yX10_function, yX10_parameter, yX10_parse, yX10_isSame, yX10_local, yX10_failsName, yX10_functionOf, yX10_enter, yX10_names, yX10_namesCall, yX10_namesBlock, yX10_namesFunction, yX10_allNames, yX10_isOf, yX10_typeOf, yX10_typesBlock, yX10_allTypes, yX10_read, yX10_place, yX10_stops, yX10_sweep, yX10_block_, yX10_push, yX10_pushInt, yX10_byteOf, yX10_isTrue, yX10_eval, yX10_numbers, yX10_isText, yX10_isTextLocal, yX10_compared, yX10_texts, yX10_joined, yX10_parted, yX10_sought, yX10_write, yX10_figures, yX10_step, yX10_call, yX10_enterFunction, yX10_go, yX10_goStatement, yX10_loop, yX10_print, yX10_run, yX10_told, yX10_free, yX10_letter, yX10_whose, yX10_wrong, yJ0_length_8abf5, yJ0_charAt_5068e, yJ0_indexOf_0f7a4, yJ0_indexOf_7cf53, yJ0_coder_7d493, yJ0_isLatin1_aae02, yJ0_checkIndex_df160, yJ1_charAt_3b067, yJ1_canEncode_9a6ad, yJ1_indexOf_4cfef, yJ1_indexOfChar_4cfef, yJ3_checkIndex_8e157, yJ9_abs_067f4, yJ9_max_7cf53, yJ9_min_7cf53, yJ9_min_f86c9, yJ6_compare_7cf53]
def yn (y : Nat) : MethodName := ynL.getD y yX0_init
def bcL : List ByteArray := [cX0_init, cX0_load, cX0_look, cX0_put, cX0_copy, cX0_alike, cX0_holds, cX0_writeDigits, cX1_init, cX1_begin, cX1_add, cX1_aimHere, cX1_count, cX1_act, cX1_first, cX1_second, cX1_known, cX2_init, cX2_clear, cX2_add, cX2_addParameter, cX2_setType, cX2_setEntry, cX2_setSlots, cX2_find, cX2_parameters, cX2_parameterType, cX2_type, cX2_entry, cX2_slots, cX2_known, cX3_init, cX3_clear, cX3_make, cX3_hold, cX3_drop, cX3_reading, cX3_touched, cX3_beginLook, cX3_see, cX3_endLook, cX3_size, cX3_made, cX3_most, cX3_taken, cX3_mistakes, cX3_pieces, cX3_longest, cX3_owner, cX3_known, cX3_chain, cX4_init, cX4_start, cX4_result, cX4_toldBytes, cX4_steps, cX4_act, cX4_base, cX4_pass, cX4_jumpIfZero, cX4_settle, cX4_call, cX4_giveBack, cX4_print, cX4_reckon, cX4_reckoned, cX4_compare, cX4_holds, cX4_orderOfTexts, cX4_byteAt, cX4_alike, cX4_join, cX4_byteOf, cX4_part, cX4_find, cX4_placeOf, cX4_digits, cX4_sign, cX4_makeOfOne, cX5_init, cX5_check, cX5_faultPlace, cX5_hasMain, cX5_clear, cX5_begin, cX5_function, cX5_nameOfFunction, cX5_parameters, cX5_parameter, cX5_type, cX5_block, cX5_statement, cX5_let, cX5_give, cX5_choose, cX5_repeat, cX5_giveBack, cX5_print, cX5_forget, cX5_rowOf, cX5_row, cX5_levelOf, cX5_settle, cX5_compare, cX5_reckon, cX5_front, cX5_part, cX5_bracketed, cX5_atom, cX5_number, cX5_quotes, cX5_local, cX5_group, cX5_ofOne, cX5_find, cX5_call, cX5_handOver, cX5_open, cX5_close, cX5_countSign, cX5_kind, cX5_here, cX5_next, cX5_expect, cX5_refuse, cX5_faultOfName, cX5_want, cX6_init, cX6_begin, cX6_full, cX6_add, cX6_find, cX6_type, cX6_count, cX6_most, cX6_cut, cX7_init, cX7_clear, cX7_top, cX7_block, cX7_start, cX7_count, cX7_push, cX7_pushCopy, cX7_pop, cX7_replace, cX7_replaceByInt, cX7_give, cX7_reserve, cX7_forget, cX7_lookThrough, cX7_known, cX8_init, cX8_split, cX8_last, cX8_kind, cX8_from, cX8_value, cX8_pack, cX8_takeWord, cX8_takeName, cX8_keywordOr, cX8_takeNumber, cX8_takeQuotes, cX8_takeSign, cX8_refuse, cX8_put, cX8_look, cX8_isSmallLetter, cX8_isDigit, cX8_nameDigit, cX9_init, cX9_feed, cX9_read, cX9_place, cX9_run, cX9_told, cX9_letter, cX9_whose, cX9_wrong, cX9_needRun, cX10_init, cX10_thrown, cX10_feed, cX10_isLetter, cX10_isFigure, cX10_byteAt, cX10_isWord, cX10_isKeyword, cX10_next, cX10_nextName, cX10_nextNumber, cX10_nextQuote, cX10_is, cX10_fails, cX10_take, cX10_node, cX10_sign, cX10_opens, cX10_shuts, cX10_between, cX10_e, cX10_front, cX10_part, cX10_atom, cX10_name, cX10_whole, cX10_block, cX10_statement, cX10_blocks, cX10_isType, cX10_type, cX10_function, cX10_parameter, cX10_parse, cX10_isSame, cX10_local, cX10_failsName, cX10_functionOf, cX10_enter, cX10_names, cX10_namesCall, cX10_namesBlock, cX10_namesFunction, cX10_allNames, cX10_isOf, cX10_typeOf, cX10_typesBlock, cX10_allTypes, cX10_read, cX10_place, cX10_stops, cX10_sweep, cX10_block_, cX10_push, cX10_pushInt, cX10_byteOf, cX10_isTrue, cX10_eval, cX10_numbers, cX10_isText, cX10_isTextLocal, cX10_compared, cX10_texts, cX10_joined, cX10_parted, cX10_sought, cX10_write, cX10_figures, cX10_step, cX10_call, cX10_enterFunction, cX10_go, cX10_goStatement, cX10_loop, cX10_print, cX10_run, cX10_told, cX10_free, cX10_letter, cX10_whose, cX10_wrong, cJ0_length_8abf5, cJ0_charAt_5068e, cJ0_indexOf_0f7a4, cJ0_indexOf_7cf53, cJ0_coder_7d493, cJ0_isLatin1_aae02, cJ0_checkIndex_df160, cJ1_charAt_3b067, cJ1_canEncode_9a6ad, cJ1_indexOf_4cfef, cJ1_indexOfChar_4cfef, cJ3_checkIndex_8e157, cJ9_abs_067f4, cJ9_max_7cf53, cJ9_min_7cf53, cJ9_min_f86c9, cJ6_compare_7cf53]
def bc (y : Nat) : ByteArray := bcL.getD y ByteArray.empty
def rtL : List (Option FieldType) := [none, none, some .int, none, none, some .int, some .boolean, some .int, none, none, some .int, none, some .int, some .int, some .int, some .int, some .boolean, none, none, none, none, none, none, none, some .int, some .int, some .int, some .int, some .int, some .int, some .boolean, none, none, some .int, none, none, none, some .boolean, none, none, none, some .int, some .int, some .int, some .int, some .int, some .int, some .int, some .int, some .boolean, none, none, some .int, some .int, some .int, some .int, none, some .int, none, none, none, none, none, none, none, some .int, none, some .boolean, some .int, some .int, some .int, none, none, none, none, some .int, none, none, none, none, some .int, some .int, some .boolean, none, none, none, none, none, none, some .int, none, none, none, none, none, none, none, none, none, none, some .int, some .int, none, none, none, some .int, some .int, some .int, some .int, some .int, some .int, some .int, some .int, some .int, some .int, some .int, some .int, none, none, none, some .int, some .int, none, none, none, none, none, none, none, some .boolean, none, some .int, some .int, some .int, some .int, none, none, none, some .int, some .int, some .int, some .int, none, none, none, none, none, none, none, none, none, some .boolean, none, none, some .int, some .int, some .int, some .long, some .long, none, none, some .int, none, none, none, none, none, some .int, some .boolean, some .boolean, some .int, none, some .int, some .int, some .int, some .int, some .int, some .int, some .int, some .int, none, none, some .int, some .int, some .boolean, some .boolean, some .int, some .boolean, some .boolean, none, none, none, none, some .boolean, some .boolean, some .boolean, some .int, some .boolean, some .boolean, some .boolean, some .int, some .int, some .int, some .int, some .int, some .int, some .int, some .int, some .int, some .int, some .boolean, some .int, some .boolean, some .boolean, none, some .boolean, some .int, some .boolean, some .int, none, some .boolean, some .boolean, some .boolean, some .boolean, none, some .boolean, some .int, some .boolean, none, some .int, some .int, some .boolean, none, some .int, none, some .boolean, some .int, some .boolean, some .boolean, some .boolean, some .boolean, some .boolean, some .int, some .boolean, some .boolean, some .boolean, some .boolean, none, some .boolean, some .boolean, some .boolean, some .boolean, some .boolean, some .boolean, some .boolean, some .boolean, some .int, some .int, some .int, some .int, some .int, some .int, some .int, some .char, some .int, some .int, some .byte, some .boolean, none, some .char, some .boolean, some .int, some .int, some .int, some .long, some .int, some .int, some .long, some .int]
def rt (y : Nat) : Option FieldType := rtL.getD y none
def mL (y : Nat) : Nat := (mi y).2.2.2.2
def isSt (y : Nat) : Bool := (mi y).2.2.2.1
def inL : List Nat := [0, 8, 17, 31, 51, 79, 127, 136, 152, 171, 181]
def isIn (y : Nat) : Bool := inL.contains y
def FT : List (Nat × Nat × Nat × Nat) := [(0, 11, 0, 0), (1, 11, 1, 0), (1, 15, 1, 1), (1, 19, 1, 2), (1, 22, 1, 3), (1, 26, 1, 4), (2, 11, 2, 0), (2, 15, 2, 1), (2, 19, 2, 2), (2, 22, 2, 3), (2, 25, 2, 4), (2, 28, 2, 5), (2, 31, 2, 6), (3, 9, 3, 0), (3, 15, 3, 1), (3, 18, 3, 2), (3, 21, 3, 3), (3, 24, 3, 4), (3, 27, 3, 5), (3, 30, 3, 6), (3, 34, 3, 7), (3, 37, 3, 8), (3, 40, 3, 9), (3, 43, 3, 10), (3, 46, 3, 11), (3, 49, 3, 12), (4, 9, 4, 0), (4, 15, 4, 1), (4, 19, 4, 2), (4, 23, 4, 3), (4, 32, 4, 4), (4, 36, 4, 5), (4, 40, 4, 6), (4, 43, 4, 7), (4, 47, 4, 8), (4, 50, 4, 9), (4, 53, 4, 10), (4, 56, 4, 11), (4, 59, 4, 12), (4, 62, 4, 13), (5, 9, 5, 0), (5, 15, 5, 1), (5, 19, 5, 2), (5, 26, 5, 3), (5, 30, 5, 4), (5, 34, 5, 5), (5, 38, 5, 6), (5, 41, 5, 7), (5, 44, 5, 8), (5, 47, 5, 9), (5, 50, 5, 10), (5, 53, 5, 11), (5, 56, 5, 12), (5, 59, 5, 13), (5, 62, 5, 14), (5, 65, 5, 15), (6, 11, 6, 0), (6, 15, 6, 1), (6, 19, 6, 2), (6, 23, 6, 3), (7, 9, 7, 0), (7, 15, 7, 1), (7, 19, 7, 2), (7, 22, 7, 3), (7, 25, 7, 4), (8, 11, 8, 0), (8, 15, 8, 1), (8, 18, 8, 2), (8, 22, 8, 3), (8, 25, 8, 4), (8, 29, 8, 5), (8, 33, 8, 6), (8, 36, 8, 7), (9, 15, 9, 0), (9, 22, 9, 1), (9, 29, 9, 2), (9, 41, 9, 3), (9, 50, 9, 4), (9, 54, 9, 5), (9, 58, 9, 6), (9, 61, 9, 7), (10, 9, 10, 0), (10, 13, 10, 2), (10, 16, 10, 6), (10, 20, 10, 14), (10, 24, 10, 15), (10, 27, 10, 16), (10, 30, 10, 17), (10, 33, 10, 18), (10, 36, 10, 19), (10, 39, 10, 20), (10, 42, 10, 21), (10, 45, 10, 23), (10, 48, 10, 24), (10, 51, 10, 25), (10, 54, 10, 26), (10, 57, 10, 27), (10, 60, 10, 28), (10, 63, 10, 29), (10, 66, 10, 30), (10, 69, 10, 32), (10, 72, 10, 33), (10, 75, 10, 34), (10, 78, 10, 35), (10, 81, 10, 36), (10, 84, 10, 37), (10, 87, 10, 43), (10, 90, 10, 44), (10, 93, 10, 45), (10, 96, 10, 49), (10, 99, 10, 50), (10, 102, 10, 51), (10, 105, 10, 53), (10, 108, 10, 54), (10, 111, 10, 55), (10, 114, 10, 56), (10, 117, 10, 59), (10, 120, 10, 60), (10, 123, 10, 61), (10, 126, 10, 62), (10, 130, 10, 63), (10, 133, 10, 64), (10, 136, 10, 71), (10, 139, 10, 75), (10, 142, 10, 76), (10, 145, 10, 7), (10, 148, 10, 1), (10, 151, 10, 3), (10, 170, 10, 8), (10, 177, 10, 10), (10, 180, 10, 9), (10, 183, 10, 11), (10, 227, 10, 12), (10, 230, 10, 5), (10, 243, 10, 31), (10, 246, 10, 39), (10, 249, 10, 38), (10, 333, 10, 41), (10, 336, 10, 40), (10, 356, 10, 22), (10, 380, 10, 13), (10, 396, 10, 42), (10, 428, 10, 46), (10, 438, 10, 47), (10, 443, 10, 4), (10, 447, 10, 48), (10, 459, 10, 66), (10, 462, 10, 74), (10, 465, 10, 52), (10, 468, 10, 57), (10, 471, 10, 73), (10, 477, 10, 65), (10, 480, 10, 69), (10, 486, 10, 70), (10, 545, 10, 68), (10, 554, 10, 77), (10, 564, 10, 58), (10, 570, 10, 78), (10, 576, 10, 79), (10, 579, 10, 80), (10, 582, 10, 81), (10, 593, 10, 72), (10, 596, 10, 67)]
def MT : List (Nat × Nat × Nat) := [(0, 21, 6), (0, 25, 274), (0, 33, 3), (1, 30, 16), (2, 35, 30), (3, 53, 276), (3, 59, 275), (3, 62, 49), (3, 66, 50), (4, 29, 136), (4, 65, 137), (4, 68, 32), (4, 75, 158), (4, 81, 24), (4, 87, 61), (4, 91, 56), (4, 94, 14), (4, 100, 15), (4, 103, 138), (4, 107, 13), (4, 109, 58), (4, 112, 150), (4, 115, 59), (4, 118, 60), (4, 122, 142), (4, 126, 57), (4, 129, 143), (4, 132, 147), (4, 135, 149), (4, 138, 144), (4, 141, 63), (4, 144, 140), (4, 147, 146), (4, 150, 64), (4, 153, 66), (4, 156, 71), (4, 159, 72), (4, 162, 73), (4, 165, 141), (4, 168, 74), (4, 170, 76), (4, 173, 77), (4, 176, 62), (4, 179, 25), (4, 182, 275), (4, 188, 29), (4, 191, 148), (4, 194, 28), (4, 197, 139), (4, 200, 145), (4, 204, 7), (4, 209, 36), (4, 212, 4), (4, 215, 65), (4, 219, 68), (4, 222, 278), (4, 226, 67), (4, 230, 276), (4, 233, 70), (4, 237, 69), (4, 240, 2), (4, 243, 5), (4, 245, 33), (4, 248, 75), (4, 251, 78), (4, 254, 3), (5, 25, 127), (5, 68, 83), (5, 71, 153), (5, 77, 154), (5, 80, 84), (5, 86, 120), (5, 89, 85), (5, 92, 123), (5, 95, 156), (5, 99, 82), (5, 105, 158), (5, 109, 24), (5, 113, 25), (5, 116, 27), (5, 119, 18), (5, 120, 9), (5, 123, 124), (5, 126, 128), (5, 128, 86), (5, 131, 87), (5, 133, 89), (5, 135, 21), (5, 139, 12), (5, 142, 22), (5, 145, 90), (5, 148, 10), (5, 152, 134), (5, 155, 23), (5, 158, 157), (5, 162, 19), (5, 165, 121), (5, 168, 125), (5, 171, 88), (5, 174, 122), (5, 177, 131), (5, 178, 20), (5, 181, 130), (5, 184, 133), (5, 185, 91), (5, 188, 135), (5, 191, 92), (5, 194, 93), (5, 197, 94), (5, 200, 95), (5, 203, 96), (5, 206, 97), (5, 209, 98), (5, 212, 129), (5, 215, 100), (5, 218, 132), (5, 219, 99), (5, 222, 11), (5, 225, 126), (5, 229, 105), (5, 232, 101), (5, 235, 119), (5, 238, 102), (5, 242, 103), (5, 245, 104), (5, 248, 106), (5, 251, 108), (5, 254, 107), (5, 257, 117), (5, 260, 118), (5, 263, 109), (5, 266, 110), (5, 269, 155), (5, 271, 115), (5, 274, 111), (5, 277, 112), (5, 280, 113), (5, 283, 114), (5, 285, 116), (5, 288, 26), (6, 26, 275), (6, 32, 276), (7, 29, 151), (7, 33, 34), (7, 39, 139), (7, 43, 140), (7, 46, 141), (7, 49, 142), (7, 53, 35), (7, 56, 144), (7, 59, 37), (7, 63, 38), (7, 66, 39), (7, 69, 40), (8, 41, 262), (8, 46, 263), (8, 52, 170), (8, 56, 276), (8, 62, 275), (8, 65, 159), (8, 68, 166), (8, 72, 167), (8, 75, 168), (8, 79, 160), (8, 82, 169), (8, 85, 162), (8, 88, 163), (8, 91, 164), (8, 95, 165), (8, 98, 161), (8, 108, 264), (9, 9, 17), (9, 12, 8), (9, 21, 0), (9, 28, 31), (9, 37, 152), (9, 38, 79), (9, 47, 51), (9, 74, 276), (9, 80, 1), (9, 84, 80), (9, 88, 81), (9, 101, 52), (9, 107, 53), (9, 110, 54), (9, 113, 55), (9, 116, 42), (9, 119, 43), (9, 122, 44), (9, 125, 46), (9, 128, 47), (9, 133, 2), (9, 137, 41), (9, 145, 48), (9, 148, 45), (10, 154, 262), (10, 160, 263), (10, 166, 187), (10, 173, 186), (10, 186, 184), (10, 190, 190), (10, 193, 185), (10, 196, 191), (10, 199, 192), (10, 204, 264), (10, 207, 188), (10, 217, 277), (10, 233, 193), (10, 237, 194), (10, 240, 189), (10, 252, 195), (10, 279, 202), (10, 282, 201), (10, 285, 200), (10, 288, 197), (10, 291, 196), (10, 297, 203), (10, 300, 204), (10, 305, 198), (10, 312, 199), (10, 315, 205), (10, 341, 208), (10, 361, 206), (10, 364, 209), (10, 370, 207), (10, 383, 213), (10, 386, 210), (10, 390, 211), (10, 393, 212), (10, 399, 215), (10, 403, 216), (10, 406, 217), (10, 409, 221), (10, 412, 220), (10, 415, 218), (10, 418, 222), (10, 421, 219), (10, 425, 223), (10, 432, 226), (10, 435, 225), (10, 440, 227), (10, 450, 214), (10, 453, 224), (10, 456, 228), (10, 474, 232), (10, 483, 275), (10, 489, 234), (10, 492, 235), (10, 495, 250), (10, 498, 238), (10, 501, 243), (10, 504, 239), (10, 507, 242), (10, 510, 237), (10, 514, 231), (10, 517, 241), (10, 520, 240), (10, 523, 278), (10, 526, 276), (10, 528, 236), (10, 531, 244), (10, 534, 245), (10, 537, 246), (10, 540, 248), (10, 543, 233), (10, 548, 274), (10, 557, 247), (10, 561, 251), (10, 567, 249), (10, 573, 252), (10, 585, 253), (10, 588, 254), (10, 591, 255), (10, 599, 258), (11, 335, 266), (11, 492, 267), (11, 495, 269), (11, 505, 262), (11, 633, 265), (11, 637, 271), (11, 1059, 273), (12, 9, 268), (12, 38, 276), (12, 88, 270), (12, 92, 275), (12, 95, 272)]
def OI : List (Nat × Nat) := [(0, 5), (1, 3), (2, 3), (3, 3), (4, 3), (5, 3), (6, 3), (7, 3), (8, 3), (9, 1), (10, 1)]
def AC : List (Nat × Nat) := [(0, 15)]
def KI : List (Nat × Nat × Int) := [(4, 90, 50000000)]
def KJ : List (Nat × Nat × Int) := [(0, 31, 10), (8, 50, 37), (8, 102, 2147483647), (8, 104, 10), (10, 211, 10), (10, 213, 48), (10, 215, 1099511627776), (10, 225, 2147483647), (10, 552, 9)]
def CK : List (Nat × Nat × Nat) := [(4, 27, 7), (5, 23, 6), (9, 7, 2), (9, 10, 1), (9, 19, 0), (9, 26, 3), (9, 33, 5), (9, 35, 8), (9, 45, 4)]
def SR : List (Nat × Nat) := [(8, 39), (8, 106), (5, 103), (4, 73), (10, 164), (10, 202), (10, 378), (10, 318), (10, 320), (10, 308), (10, 375), (10, 377), (10, 329), (10, 331), (10, 339), (10, 344), (10, 346), (10, 348), (10, 350), (10, 352), (10, 354), (10, 359), (10, 269), (10, 295), (10, 322), (10, 324), (10, 326), (10, 328), (10, 303), (10, 310), (10, 255), (10, 257), (10, 259), (10, 261), (10, 263), (10, 265), (10, 267), (10, 271), (10, 273), (10, 275), (10, 277), (10, 373), (10, 368), (10, 431)]
def ecF (q : Nat × Nat × Nat × Nat) : Nat := ((q.1 * 10000 + q.2.1) * 100 + q.2.2.1) * 100 + q.2.2.2
def ecM (q : Nat × Nat × Nat) : Nat := (q.1 * 10000 + q.2.1) * 1000 + q.2.2
def FTn : List Nat := [110000, 100110100, 100150101, 100190102, 100220103, 100260104, 200110200, 200150201, 200190202, 200220203, 200250204, 200280205, 200310206, 300090300, 300150301, 300180302, 300210303, 300240304, 300270305, 300300306, 300340307, 300370308, 300400309, 300430310, 300460311, 300490312, 400090400, 400150401, 400190402, 400230403, 400320404, 400360405, 400400406, 400430407, 400470408, 400500409, 400530410, 400560411, 400590412, 400620413, 500090500, 500150501, 500190502, 500260503, 500300504, 500340505, 500380506, 500410507, 500440508, 500470509, 500500510, 500530511, 500560512, 500590513, 500620514, 500650515, 600110600, 600150601, 600190602, 600230603, 700090700, 700150701, 700190702, 700220703, 700250704, 800110800, 800150801, 800180802, 800220803, 800250804, 800290805, 800330806, 800360807, 900150900, 900220901, 900290902, 900410903, 900500904, 900540905, 900580906, 900610907, 1000091000, 1000131002, 1000161006, 1000201014, 1000241015, 1000271016, 1000301017, 1000331018, 1000361019, 1000391020, 1000421021, 1000451023, 1000481024, 1000511025, 1000541026, 1000571027, 1000601028, 1000631029, 1000661030, 1000691032, 1000721033, 1000751034, 1000781035, 1000811036, 1000841037, 1000871043, 1000901044, 1000931045, 1000961049, 1000991050, 1001021051, 1001051053, 1001081054, 1001111055, 1001141056, 1001171059, 1001201060, 1001231061, 1001261062, 1001301063, 1001331064, 1001361071, 1001391075, 1001421076, 1001451007, 1001481001, 1001511003, 1001701008, 1001771010, 1001801009, 1001831011, 1002271012, 1002301005, 1002431031, 1002461039, 1002491038, 1003331041, 1003361040, 1003561022, 1003801013, 1003961042, 1004281046, 1004381047, 1004431004, 1004471048, 1004591066, 1004621074, 1004651052, 1004681057, 1004711073, 1004771065, 1004801069, 1004861070, 1005451068, 1005541077, 1005641058, 1005701078, 1005761079, 1005791080, 1005821081, 1005931072, 1005961067]
def MTn : List Nat := [21006, 25274, 33003, 10030016, 20035030, 30053276, 30059275, 30062049, 30066050, 40029136, 40065137, 40068032, 40075158, 40081024, 40087061, 40091056, 40094014, 40100015, 40103138, 40107013, 40109058, 40112150, 40115059, 40118060, 40122142, 40126057, 40129143, 40132147, 40135149, 40138144, 40141063, 40144140, 40147146, 40150064, 40153066, 40156071, 40159072, 40162073, 40165141, 40168074, 40170076, 40173077, 40176062, 40179025, 40182275, 40188029, 40191148, 40194028, 40197139, 40200145, 40204007, 40209036, 40212004, 40215065, 40219068, 40222278, 40226067, 40230276, 40233070, 40237069, 40240002, 40243005, 40245033, 40248075, 40251078, 40254003, 50025127, 50068083, 50071153, 50077154, 50080084, 50086120, 50089085, 50092123, 50095156, 50099082, 50105158, 50109024, 50113025, 50116027, 50119018, 50120009, 50123124, 50126128, 50128086, 50131087, 50133089, 50135021, 50139012, 50142022, 50145090, 50148010, 50152134, 50155023, 50158157, 50162019, 50165121, 50168125, 50171088, 50174122, 50177131, 50178020, 50181130, 50184133, 50185091, 50188135, 50191092, 50194093, 50197094, 50200095, 50203096, 50206097, 50209098, 50212129, 50215100, 50218132, 50219099, 50222011, 50225126, 50229105, 50232101, 50235119, 50238102, 50242103, 50245104, 50248106, 50251108, 50254107, 50257117, 50260118, 50263109, 50266110, 50269155, 50271115, 50274111, 50277112, 50280113, 50283114, 50285116, 50288026, 60026275, 60032276, 70029151, 70033034, 70039139, 70043140, 70046141, 70049142, 70053035, 70056144, 70059037, 70063038, 70066039, 70069040, 80041262, 80046263, 80052170, 80056276, 80062275, 80065159, 80068166, 80072167, 80075168, 80079160, 80082169, 80085162, 80088163, 80091164, 80095165, 80098161, 80108264, 90009017, 90012008, 90021000, 90028031, 90037152, 90038079, 90047051, 90074276, 90080001, 90084080, 90088081, 90101052, 90107053, 90110054, 90113055, 90116042, 90119043, 90122044, 90125046, 90128047, 90133002, 90137041, 90145048, 90148045, 100154262, 100160263, 100166187, 100173186, 100186184, 100190190, 100193185, 100196191, 100199192, 100204264, 100207188, 100217277, 100233193, 100237194, 100240189, 100252195, 100279202, 100282201, 100285200, 100288197, 100291196, 100297203, 100300204, 100305198, 100312199, 100315205, 100341208, 100361206, 100364209, 100370207, 100383213, 100386210, 100390211, 100393212, 100399215, 100403216, 100406217, 100409221, 100412220, 100415218, 100418222, 100421219, 100425223, 100432226, 100435225, 100440227, 100450214, 100453224, 100456228, 100474232, 100483275, 100489234, 100492235, 100495250, 100498238, 100501243, 100504239, 100507242, 100510237, 100514231, 100517241, 100520240, 100523278, 100526276, 100528236, 100531244, 100534245, 100537246, 100540248, 100543233, 100548274, 100557247, 100561251, 100567249, 100573252, 100585253, 100588254, 100591255, 100599258, 110335266, 110492267, 110495269, 110505262, 110633265, 110637271, 111059273, 120009268, 120038276, 120088270, 120092275, 120095272]
theorem FTn_eq : FTn = FT.map ecF := by decide +kernel
theorem MTn_eq : MTn = MT.map ecM := by decide +kernel
def hasN (l : List Nat) (n : Nat) : Bool := match l with
  | [] => false
  | a :: l => Nat.beq a n || hasN l n
def lenI (i : Instr) (r : List Int) : Nat := match i with
  | .bipush _ => 2
  | .iload _ => 2
  | .lload _ => 2
  | .aload _ => 2
  | .istore _ => 2
  | .lstore _ => 2
  | .ldc _ => 2
  | .newarray _ => 2
  | .sipush _ => 3
  | .iinc .. => 3
  | .goto _ => 3
  | .ifCond .. => 3
  | .if_icmp .. => 3
  | .ifnull _ => 3
  | .ifnonnull _ => 3
  | .ldc_w _ => 3
  | .ldc2_w _ => 3
  | .getstatic _ => 3
  | .getfield _ => 3
  | .putfield _ => 3
  | .new _ => 3
  | .invokespecial _ => 3
  | .invokestatic _ => 3
  | .invokevirtual _ => 3
  | .tableswitch .. => (r.getD 0 0).toNat
  | .lookupswitch .. => (r.getD 0 0).toNat
  | _ => 1
def flat2 (pc : Int) (ps : List (Int × Int)) : List Int := match ps with
  | [] => []
  | p :: ps => p.1 :: (pc + p.2) :: flat2 pc ps
def isFin (c k : Nat) : Int := if (TT c k).2.2.2 = true then 1 else 0
/-- an instruction's references are the tables' -/
def resB (o : Nat) (ini : Bool) (pc : Nat) (i : Instr) (r : List Int) : Bool := match i with
  | .getfield idx => match r with
    | [tg, 50, k] => (o == 11) && ((idx == 9 && tg == 2 && k == 0) || (idx == 15 && tg == 0 && k == 1))
    | [tg, ci, k] => decide (0 ≤ ci) && decide (0 ≤ k) && (decide (idx < 10000 ∧ ci.toNat < 100 ∧ k.toNat < 100) && hasN FTn (ecF (o, idx, ci.toNat, k.toNat))) && tg == (ft ci.toNat k.toNat : Int)
    | _ => false
  | .putfield idx => match r with
    | [tg, ci, k, fi] => decide (0 ≤ ci) && decide (0 ≤ k) && (decide (idx < 10000 ∧ ci.toNat < 100 ∧ k.toNat < 100) && hasN FTn (ecF (o, idx, ci.toNat, k.toNat))) && tg == (ft ci.toNat k.toNat : Int) && fi == isFin ci.toNat k.toNat && (fi == 0 || (ini && ci.toNat == o))
    | _ => false
  | .getstatic idx => match r with
    | [0, 1] => o == 11 && idx == 38
    | [2, v] => o == 11 && idx == 1053 && v == -2 - 2 * (nS : Int)
    | _ => r == [-9]
  | .invokevirtual idx => match r with
    | [.ofNat y] => (decide (idx < 10000 ∧ y < 1000) && hasN MTn (ecM (o, idx, y))) && !isSt y && !isIn y
    | _ => r == [-9]
  | .invokespecial idx => match r with
    | [-1] => OI.contains (o, idx)
    | [.ofNat y] => (decide (idx < 10000 ∧ y < 1000) && hasN MTn (ecM (o, idx, y))) && isIn y
    | _ => r == [-9]
  | .invokestatic idx => match r with
    | [-2] => AC.contains (o, idx)
    | [.ofNat y] => (decide (idx < 10000 ∧ y < 1000) && hasN MTn (ecM (o, idx, y))) && isSt y
    | _ => r == [-9]
  | .ldc idx => match r with
    | [0, v] => KI.contains (o, idx, v)
    | [2, j] => decide (0 ≤ j) && SR[j.toNat]? == some (o, idx)
    | _ => r == [-9]
  | .ldc_w idx => match r with
    | [2, j] => decide (0 ≤ j) && SR[j.toNat]? == some (o, idx)
    | _ => r == [-9]
  | .ldc2_w idx => match r with
    | [1, v] => KJ.contains (o, idx, v)
    | _ => false
  | .new idx => match r with
    | [.ofNat c] => CK.contains (o, idx, c)
    | _ => r == [-9]
  | .goto off => match r with
    | [t] => decide (0 ≤ t) && t == (pc : Int) + off
    | _ => false
  | .ifCond _ off => match r with
    | [t] => decide (0 ≤ t) && t == (pc : Int) + off
    | _ => false
  | .if_icmp _ off => match r with
    | [t] => decide (0 ≤ t) && t == (pc : Int) + off
    | _ => false
  | .ifnull off => match r with
    | [t] => decide (0 ≤ t) && t == (pc : Int) + off
    | _ => false
  | .ifnonnull off => match r with
    | [t] => decide (0 ≤ t) && t == (pc : Int) + off
    | _ => false
  | .tableswitch dflt lo hi offs => match r with
    | _ :: lo' :: d :: ts => lo' == lo && d == (pc : Int) + dflt && ts == offs.toList.map (fun q => (pc : Int) + q) && hi + 1 - lo == (ts.length : Int) && decide (0 ≤ d) && ts.all (fun t => decide (0 ≤ t))
    | _ => false
  | .lookupswitch dflt ps => match r with
    | _ :: d :: qs => d == (pc : Int) + dflt && qs == flat2 pc ps.toList && (ps.toList.zip (ps.toList.drop 1)).all (fun (a, next) => a.1 < next.1) && decide (0 ≤ d) && ps.toList.all (fun t => decide (0 ≤ (pc : Int) + t.2))
    | _ => false
  | _ => true
def okB (y : Nat) (e : En) : Bool := decide (decode (bc y) e.1 = .ok (e.2.1, lenI e.2.1 e.2.2)) && resB (mi y).1 (isIn y) e.1 e.2.1 e.2.2
