abbrev rm_B_lowest : Room := { frames := 0, cells := 0, slots := 0, locals := 0 }
abbrev ws_B_lowest : List Cond := .code yn_B_lowest cd_B_lowest 1 (some .long) :: wg_all
abbrev rm_B_withHighestInFront : Room := { frames := 0, cells := 0, slots := 0, locals := 0 }
abbrev ws_B_withHighestInFront : List Cond := .code yn_B_withHighestInFront cd_B_withHighestInFront 3 (some .long) :: wg_all
abbrev rm_B_below : Room := { frames := 0, cells := 0, slots := 0, locals := 0 }
abbrev ws_B_below : List Cond := .code yn_B_below cd_B_below 4 (some .boolean) :: wg_all
abbrev rm_B_quotient : Room := { frames := 1, cells := 0, slots := 0, locals := 23 }
abbrev ws_B_quotient : List Cond := .code yn_B_quotient cd_B_quotient 6 (some .long) :: wg_all
abbrev rm_B_digits : Room := { frames := 2, cells := 0, slots := 0, locals := 48 }
abbrev ws_B_digits : List Cond := .code yn_B_digits cd_B_digits 5 (some .int) :: wg_all
abbrev rm_N_clear : Room := { frames := 0, cells := 0, slots := 0, locals := 0 }
abbrev ws_N_clear : List Cond := .code yn_N_clear cd_N_clear 1 none :: wg_all
abbrev rm_N_write : Room := { frames := 0, cells := 0, slots := 0, locals := 0 }
abbrev ws_N_write : List Cond := .code yn_N_write cd_N_write 2 none :: wg_all
abbrev rm_N_writeSpaces : Room := { frames := 1, cells := 0, slots := 0, locals := 21 }
abbrev ws_N_writeSpaces : List Cond := .code yn_N_writeSpaces cd_N_writeSpaces 3 none :: wg_all
abbrev rm_N_writeDigits : Room := { frames := 2, cells := 0, slots := 0, locals := 48 }
abbrev ws_N_writeDigits : List Cond := .code yn_N_writeDigits cd_N_writeDigits 9 none :: wg_all
abbrev rm_J_bitCount : Room := { frames := 0, cells := 0, slots := 0, locals := 0 }
abbrev ws_J_bitCount : List Cond := .code yn_J_bitCount cd_J_bitCount 2 (some .int) :: wg_all
abbrev rm_X_demandRange_k : Room := { frames := 0, cells := 0, slots := 0, locals := 0 }
abbrev ws_X_demandRange : List Cond := .code yn_X_demandRange cd_X_demandRange 3 none :: wg_all
abbrev rm_X_demandRange_t : Room := { frames := 6, cells := 1, slots := 6, locals := 82 }
abbrev rm_X_demandValues_k : Room := { frames := 0, cells := 0, slots := 0, locals := 0 }
abbrev ws_X_demandValues : List Cond := .code yn_X_demandValues cd_X_demandValues 2 none :: wg_all
abbrev rm_X_demandValues_t : Room := { frames := 6, cells := 1, slots := 6, locals := 82 }
abbrev rm_X_demandPlace_k : Room := { frames := 0, cells := 0, slots := 0, locals := 0 }
abbrev ws_X_demandPlace : List Cond := .code yn_X_demandPlace cd_X_demandPlace 2 none :: wg_all
abbrev rm_X_demandPlace_t : Room := { frames := 6, cells := 1, slots := 6, locals := 82 }
abbrev rm_X_demandRoom_k : Room := { frames := 0, cells := 0, slots := 0, locals := 0 }
abbrev ws_X_demandRoom : List Cond := .code yn_X_demandRoom cd_X_demandRoom 1 none :: wg_all
abbrev rm_X_demandRoom_t : Room := { frames := 6, cells := 1, slots := 6, locals := 82 }
abbrev rm_X_bothTrue : Room := { frames := 0, cells := 0, slots := 0, locals := 0 }
abbrev ws_X_bothTrue : List Cond := .code yn_X_bothTrue cd_X_bothTrue 2 (some .int) :: wg_all
abbrev rm_X_opposite : Room := { frames := 0, cells := 0, slots := 0, locals := 0 }
abbrev ws_X_opposite : List Cond := .code yn_X_opposite cd_X_opposite 1 (some .int) :: wg_all
abbrev rm_X_unknownLetter : Room := { frames := 0, cells := 0, slots := 0, locals := 0 }
abbrev ws_X_unknownLetter : List Cond := .code yn_X_unknownLetter cd_X_unknownLetter 6 (some .char) :: wg_all
abbrev rm_X_groupLetter : Room := { frames := 1, cells := 0, slots := 0, locals := 25 }
abbrev ws_X_groupLetter : List Cond := .code yn_X_groupLetter cd_X_groupLetter 6 (some .char) :: wg_all
abbrev rm_X_setBits : Room := { frames := 1, cells := 0, slots := 0, locals := 20 }
abbrev ws_X_setBits : List Cond := .code yn_X_setBits cd_X_setBits 8 none :: wg_all
abbrev rm_X_setValue : Room := { frames := 2, cells := 0, slots := 0, locals := 47 }
abbrev ws_X_setValue : List Cond := .code yn_X_setValue cd_X_setValue 8 none :: wg_all
abbrev rm_X_setSure : Room := { frames := 2, cells := 0, slots := 0, locals := 47 }
abbrev ws_X_setSure : List Cond := .code yn_X_setSure cd_X_setSure 6 none :: wg_all
abbrev rm_X_setTruth : Room := { frames := 3, cells := 0, slots := 0, locals := 74 }
abbrev ws_X_setTruth : List Cond := .code yn_X_setTruth cd_X_setTruth 3 none :: wg_all
abbrev rm_X_fillWithX : Room := { frames := 2, cells := 0, slots := 0, locals := 47 }
abbrev ws_X_fillWithX : List Cond := .code yn_X_fillWithX cd_X_fillWithX 2 none :: wg_all
abbrev rm_X_copyValue : Room := { frames := 3, cells := 0, slots := 0, locals := 74 }
abbrev ws_X_copyValue : List Cond := .code yn_X_copyValue cd_X_copyValue 3 none :: wg_all
abbrev rm_X_setWidth : Room := { frames := 2, cells := 0, slots := 0, locals := 47 }
abbrev ws_X_setWidth : List Cond := .code yn_X_setWidth cd_X_setWidth 8 none :: wg_all
abbrev rm_X_bringTogether : Room := { frames := 3, cells := 0, slots := 0, locals := 74 }
abbrev ws_X_bringTogether : List Cond := .code yn_X_bringTogether cd_X_bringTogether 5 none :: wg_all
abbrev rm_X_sureOnes : Room := { frames := 0, cells := 0, slots := 0, locals := 0 }
abbrev ws_X_sureOnes : List Cond := .code yn_X_sureOnes cd_X_sureOnes 2 (some .long) :: wg_all
abbrev rm_X_sureZeros : Room := { frames := 1, cells := 0, slots := 0, locals := 20 }
abbrev ws_X_sureZeros : List Cond := .code yn_X_sureZeros cd_X_sureZeros 2 (some .long) :: wg_all
abbrev rm_X_number : Room := { frames := 1, cells := 0, slots := 0, locals := 22 }
abbrev ws_X_number : List Cond := .code yn_X_number cd_X_number 2 (some .long) :: wg_all
abbrev rm_X_reckon : Room := { frames := 3, cells := 0, slots := 0, locals := 68 }
abbrev ws_X_reckon : List Cond := .code yn_X_reckon cd_X_reckon 11 none :: wg_all
abbrev rm_X_combine : Room := { frames := 3, cells := 0, slots := 0, locals := 72 }
abbrev ws_X_combine : List Cond := .code yn_X_combine cd_X_combine 16 none :: wg_all
abbrev rm_X_equal : Room := { frames := 2, cells := 0, slots := 0, locals := 41 }
abbrev ws_X_equal : List Cond := .code yn_X_equal cd_X_equal 3 (some .int) :: wg_all
abbrev rm_X_identical : Room := { frames := 0, cells := 0, slots := 0, locals := 0 }
abbrev ws_X_identical : List Cond := .code yn_X_identical cd_X_identical 3 (some .int) :: wg_all
abbrev rm_X_less : Room := { frames := 2, cells := 0, slots := 0, locals := 43 }
abbrev ws_X_less : List Cond := .code yn_X_less cd_X_less 4 (some .int) :: wg_all
abbrev rm_X_allOnes : Room := { frames := 2, cells := 0, slots := 0, locals := 41 }
abbrev ws_X_allOnes : List Cond := .code yn_X_allOnes cd_X_allOnes 2 (some .int) :: wg_all
abbrev rm_X_anyOne : Room := { frames := 1, cells := 0, slots := 0, locals := 21 }
abbrev ws_X_anyOne : List Cond := .code yn_X_anyOne cd_X_anyOne 2 (some .int) :: wg_all
abbrev rm_X_oddOnes : Room := { frames := 1, cells := 0, slots := 0, locals := 21 }
abbrev ws_X_oddOnes : List Cond := .code yn_X_oddOnes cd_X_oddOnes 2 (some .int) :: wg_all
abbrev rm_X_compared : Room := { frames := 3, cells := 0, slots := 0, locals := 66 }
abbrev ws_X_compared : List Cond := .code yn_X_compared cd_X_compared 4 (some .int) :: wg_all
abbrev rm_X_reduced : Room := { frames := 3, cells := 0, slots := 0, locals := 62 }
abbrev ws_X_reduced : List Cond := .code yn_X_reduced cd_X_reduced 3 (some .int) :: wg_all
abbrev rm_X_negate : Room := { frames := 3, cells := 0, slots := 0, locals := 68 }
abbrev ws_X_negate : List Cond := .code yn_X_negate cd_X_negate 2 none :: wg_all
abbrev rm_X_moveLeft : Room := { frames := 2, cells := 0, slots := 0, locals := 47 }
abbrev ws_X_moveLeft : List Cond := .code yn_X_moveLeft cd_X_moveLeft 4 none :: wg_all
abbrev rm_X_moveRight : Room := { frames := 2, cells := 0, slots := 0, locals := 47 }
abbrev ws_X_moveRight : List Cond := .code yn_X_moveRight cd_X_moveRight 7 none :: wg_all
abbrev rm_X_writeGroups : Room := { frames := 2, cells := 0, slots := 0, locals := 50 }
abbrev ws_X_writeGroups : List Cond := .code yn_X_writeGroups cd_X_writeGroups 11 none :: wg_all
abbrev rm_X_writeNumber : Room := { frames := 3, cells := 0, slots := 0, locals := 76 }
abbrev ws_X_writeNumber : List Cond := .code yn_X_writeNumber cd_X_writeNumber 13 none :: wg_all
abbrev rm_X_push : Room := { frames := 7, cells := 1, slots := 6, locals := 104 }
abbrev ws_X_push : List Cond := .code yn_X_push cd_X_push 7 (some .int) :: wg_all
abbrev rm_X_two : Room := { frames := 7, cells := 1, slots := 6, locals := 107 }
abbrev ws_X_two : List Cond := .code yn_X_two cd_X_two 4 none :: wg_all
abbrev rm_X_shift : Room := { frames := 7, cells := 1, slots := 6, locals := 104 }
abbrev ws_X_shift : List Cond := .code yn_X_shift cd_X_shift 4 none :: wg_all
abbrev rm_X_one : Room := { frames := 7, cells := 1, slots := 6, locals := 104 }
abbrev ws_X_one : List Cond := .code yn_X_one cd_X_one 3 none :: wg_all
abbrev rm_X_choose : Room := { frames := 7, cells := 1, slots := 6, locals := 103 }
abbrev ws_X_choose : List Cond := .code yn_X_choose cd_X_choose 5 none :: wg_all
abbrev rm_X_join : Room := { frames := 7, cells := 1, slots := 6, locals := 104 }
abbrev ws_X_join : List Cond := .code yn_X_join cd_X_join 5 none :: wg_all
abbrev rm_X_copies : Room := { frames := 7, cells := 1, slots := 6, locals := 104 }
abbrev ws_X_copies : List Cond := .code yn_X_copies cd_X_copies 9 none :: wg_all
abbrev rm_X_part : Room := { frames := 7, cells := 1, slots := 6, locals := 104 }
abbrev ws_X_part : List Cond := .code yn_X_part cd_X_part 4 none :: wg_all
abbrev rm_X_bit : Room := { frames := 7, cells := 1, slots := 6, locals := 103 }
abbrev ws_X_bit : List Cond := .code yn_X_bit cd_X_bit 5 none :: wg_all
abbrev rm_X_as : Room := { frames := 7, cells := 1, slots := 6, locals := 104 }
abbrev ws_X_as : List Cond := .code yn_X_as cd_X_as 4 none :: wg_all
abbrev rm_X_again : Room := { frames := 7, cells := 1, slots := 6, locals := 104 }
abbrev ws_X_again : List Cond := .code yn_X_again cd_X_again 2 none :: wg_all
abbrev rm_X_text : Room := { frames := 7, cells := 1, slots := 6, locals := 108 }
abbrev ws_X_text : List Cond := .code yn_X_text cd_X_text 4 (some .int) :: wg_all
abbrev rm_X_letter : Room := { frames := 6, cells := 1, slots := 6, locals := 82 }
abbrev ws_X_letter : List Cond := .code yn_X_letter cd_X_letter 2 (some .int) :: wg_all
abbrev rm_X_told : Room := { frames := 7, cells := 1, slots := 6, locals := 104 }
abbrev ws_X_told : List Cond := .code yn_X_told cd_X_told 4 (some .long) :: wg_all
abbrev rm_X_count : Room := { frames := 0, cells := 0, slots := 0, locals := 0 }
abbrev ws_X_count : List Cond := .code yn_X_count cd_X_count 2 (some .int) :: wg_all
abbrev rm_M_dark : Room := { frames := 0, cells := 0, slots := 0, locals := 0 }
abbrev ws_M_dark : List Cond := .code yn_M_dark cd_M_dark 3 (some .boolean) :: wg_all
abbrev rm_M_fill : Room := { frames := 0, cells := 0, slots := 0, locals := 0 }
abbrev ws_M_fill : List Cond := .code yn_M_fill cd_M_fill 4 none :: wg_all
abbrev rm_M_truth : Room := { frames := 1, cells := 0, slots := 0, locals := 22 }
abbrev ws_M_truth : List Cond := .code yn_M_truth cd_M_truth 3 (some .int) :: wg_all
abbrev rm_M_negate : Room := { frames := 0, cells := 0, slots := 0, locals := 0 }
abbrev ws_M_negate : List Cond := .code yn_M_negate cd_M_negate 5 none :: wg_all
abbrev rm_M_isZero : Room := { frames := 0, cells := 0, slots := 0, locals := 0 }
abbrev ws_M_isZero : List Cond := .code yn_M_isZero cd_M_isZero 3 (some .boolean) :: wg_all
abbrev rm_M_add : Room := { frames := 0, cells := 0, slots := 0, locals := 0 }
abbrev ws_M_add : List Cond := .code yn_M_add cd_M_add 8 none :: wg_all
abbrev rm_M_opposite : Room := { frames := 0, cells := 0, slots := 0, locals := 0 }
abbrev ws_M_opposite : List Cond := .code yn_M_opposite cd_M_opposite 1 (some .int) :: wg_all
abbrev rm_M_logic : Room := { frames := 0, cells := 0, slots := 0, locals := 0 }
abbrev ws_M_logic : List Cond := .code yn_M_logic cd_M_logic 4 (some .int) :: wg_all
abbrev rm_M_decimal : Room := { frames := 0, cells := 0, slots := 0, locals := 0 }
abbrev ws_M_decimal : List Cond := .code yn_M_decimal cd_M_decimal 9 (some .int) :: wg_all
abbrev rm_M_thrown : Room := { frames := 0, cells := 0, slots := 0, locals := 0 }
abbrev ws_M_thrown : List Cond := .code yn_M_thrown cd_M_thrown 1 (some .int) :: wg_all
abbrev rm_M_refuse : Room := { frames := 0, cells := 0, slots := 0, locals := 0 }
abbrev ws_M_refuse : List Cond := .code yn_M_refuse cd_M_refuse 4 (some .boolean) :: wg_all
abbrev rm_M_wider : Room := { frames := 0, cells := 0, slots := 0, locals := 0 }
abbrev ws_M_wider : List Cond := .code yn_M_wider cd_M_wider 1 (some .int) :: wg_all
abbrev rm_M_give_a : Room := { frames := 0, cells := 0, slots := 0, locals := 0 }
abbrev ws_M_give : List Cond := .code yn_M_give cd_M_give 5 none :: wg_all
abbrev rm_M_give_c : Room := { frames := 0, cells := 0, slots := 0, locals := 0 }
abbrev rm_M_take_a : Room := { frames := 0, cells := 0, slots := 0, locals := 0 }
abbrev ws_M_take : List Cond := .code yn_M_take cd_M_take 6 none :: wg_all
abbrev rm_M_take_b : Room := { frames := 0, cells := 0, slots := 0, locals := 0 }
abbrev rm_M_take_c : Room := { frames := 0, cells := 0, slots := 0, locals := 0 }
abbrev rm_M_bring : Room := { frames := 1, cells := 0, slots := 0, locals := 25 }
abbrev ws_M_bring : List Cond := .code yn_M_bring cd_M_bring 3 none :: wg_all
abbrev rm_M_multiply : Room := { frames := 1, cells := 0, slots := 0, locals := 23 }
abbrev ws_M_multiply : List Cond := .code yn_M_multiply cd_M_multiply 6 none :: wg_all
abbrev rm_M_reaches : Room := { frames := 0, cells := 0, slots := 0, locals := 0 }
abbrev ws_M_reaches : List Cond := .code yn_M_reaches cd_M_reaches 3 (some .boolean) :: wg_all
abbrev rm_M_divide : Room := { frames := 1, cells := 0, slots := 0, locals := 23 }
abbrev ws_M_divide : List Cond := .code yn_M_divide cd_M_divide 6 none :: wg_all
abbrev rm_M_quotient : Room := { frames := 2, cells := 0, slots := 0, locals := 48 }
abbrev ws_M_quotient : List Cond := .code yn_M_quotient cd_M_quotient 7 none :: wg_all
abbrev rm_M_reckon : Room := { frames := 3, cells := 0, slots := 0, locals := 74 }
abbrev ws_M_reckon : List Cond := .code yn_M_reckon cd_M_reckon 5 none :: wg_all
abbrev rm_M_equal : Room := { frames := 1, cells := 0, slots := 0, locals := 22 }
abbrev ws_M_equal : List Cond := .code yn_M_equal cd_M_equal 3 (some .int) :: wg_all
abbrev rm_M_same : Room := { frames := 0, cells := 0, slots := 0, locals := 0 }
abbrev ws_M_same : List Cond := .code yn_M_same cd_M_same 3 (some .boolean) :: wg_all
abbrev rm_M_order : Room := { frames := 0, cells := 0, slots := 0, locals := 0 }
abbrev ws_M_order : List Cond := .code yn_M_order cd_M_order 4 (some .int) :: wg_all
abbrev rm_M_asked : Room := { frames := 2, cells := 0, slots := 0, locals := 44 }
abbrev ws_M_asked : List Cond := .code yn_M_asked cd_M_asked 5 (some .int) :: wg_all
abbrev rm_M_amount : Room := { frames := 0, cells := 0, slots := 0, locals := 0 }
abbrev ws_M_amount : List Cond := .code yn_M_amount cd_M_amount 5 (some .int) :: wg_all
abbrev rm_M_put : Room := { frames := 0, cells := 0, slots := 0, locals := 0 }
abbrev ws_M_put : List Cond := .code yn_M_put cd_M_put 2 none :: wg_all
abbrev rm_M_sort : Room := { frames := 0, cells := 0, slots := 0, locals := 0 }
abbrev ws_M_sort : List Cond := .code yn_M_sort cd_M_sort 6 (some .int) :: wg_all
abbrev rm_M_groups : Room := { frames := 1, cells := 0, slots := 0, locals := 25 }
abbrev ws_M_groups : List Cond := .code yn_M_groups cd_M_groups 10 none :: wg_all
abbrev rm_M_number : Room := { frames := 1, cells := 0, slots := 0, locals := 28 }
abbrev ws_M_number : List Cond := .code yn_M_number cd_M_number 9 none :: wg_all
abbrev rm_M_push : Room := { frames := 1, cells := 0, slots := 0, locals := 24 }
abbrev ws_M_push : List Cond := .code yn_M_push cd_M_push 8 (some .int) :: wg_all
abbrev rm_M_two : Room := { frames := 4, cells := 0, slots := 0, locals := 98 }
abbrev ws_M_two : List Cond := .code yn_M_two cd_M_two 6 none :: wg_all
abbrev rm_M_shift : Room := { frames := 1, cells := 0, slots := 0, locals := 25 }
abbrev ws_M_shift : List Cond := .code yn_M_shift cd_M_shift 8 none :: wg_all
abbrev rm_M_one : Room := { frames := 2, cells := 0, slots := 0, locals := 44 }
abbrev ws_M_one : List Cond := .code yn_M_one cd_M_one 7 none :: wg_all
abbrev rm_M_choose : Room := { frames := 2, cells := 0, slots := 0, locals := 47 }
abbrev ws_M_choose : List Cond := .code yn_M_choose cd_M_choose 6 none :: wg_all
abbrev rm_M_join : Room := { frames := 1, cells := 0, slots := 0, locals := 24 }
abbrev ws_M_join : List Cond := .code yn_M_join cd_M_join 5 none :: wg_all
abbrev rm_M_copies : Room := { frames := 1, cells := 0, slots := 0, locals := 24 }
abbrev ws_M_copies : List Cond := .code yn_M_copies cd_M_copies 5 none :: wg_all
abbrev rm_M_part : Room := { frames := 1, cells := 0, slots := 0, locals := 24 }
abbrev ws_M_part : List Cond := .code yn_M_part cd_M_part 5 none :: wg_all
abbrev rm_M_bit : Room := { frames := 1, cells := 0, slots := 0, locals := 25 }
abbrev ws_M_bit : List Cond := .code yn_M_bit cd_M_bit 5 none :: wg_all
abbrev rm_M_as : Room := { frames := 1, cells := 0, slots := 0, locals := 25 }
abbrev ws_M_as : List Cond := .code yn_M_as cd_M_as 3 none :: wg_all
abbrev rm_M_again : Room := { frames := 1, cells := 0, slots := 0, locals := 25 }
abbrev ws_M_again : List Cond := .code yn_M_again cd_M_again 3 none :: wg_all
abbrev rm_M_text : Room := { frames := 2, cells := 0, slots := 0, locals := 56 }
abbrev ws_M_text : List Cond := .code yn_M_text cd_M_text 5 (some .int) :: wg_all
abbrev rm_M_letter : Room := { frames := 0, cells := 0, slots := 0, locals := 0 }
abbrev ws_M_letter : List Cond := .code yn_M_letter cd_M_letter 2 (some .int) :: wg_all
abbrev rm_M_told : Room := { frames := 2, cells := 0, slots := 0, locals := 44 }
abbrev ws_M_told : List Cond := .code yn_M_told cd_M_told 7 (some .long) :: wg_all
abbrev rm_M_count : Room := { frames := 0, cells := 0, slots := 0, locals := 0 }
abbrev ws_M_count : List Cond := .code yn_M_count cd_M_count 2 (some .int) :: wg_all
