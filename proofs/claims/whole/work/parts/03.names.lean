/-! names: classes, fields, codes, methods; the words of the tables that are good, in one list; places of single words in it -/
def tb_N : u_T := fun k => match k with
  | 0 => ("FourWords$Line", "letters", "[B", true)
  | _ => ("FourWords$Line", "length", "I", false)
def ft_N : Nat → FieldType := fun k => match k with
  | 0 => .array .byte
  | _ => .int
theorem fn_N : ∀ a, a < 2 → ∀ b, b < 2 → a ≠ b → (tb_N a).2.1 ≠ (tb_N b).2.1 := by decide +kernel
theorem fk_N : ∀ k, k < 2 → parseFieldDescriptor (tb_N k).2.2.1 = some (ft_N k) := by decide +kernel
def tb_X : u_T := fun k => match k with
  | 0 => ("FourWords", "onesRow", "[J", true)
  | 1 => ("FourWords", "unknownRow", "[J", true)
  | 2 => ("FourWords", "widthRow", "[I", true)
  | 3 => ("FourWords", "signedRow", "[Z", true)
  | 4 => ("FourWords", "line", "LFourWords$Line;", true)
  | _ => ("FourWords", "size", "I", false)
def ft_X : Nat → FieldType := fun k => match k with
  | 0 => .array .long
  | 1 => .array .long
  | 2 => .array .int
  | 3 => .array .boolean
  | 4 => .object "FourWords$Line"
  | _ => .int
theorem fn_X : ∀ a, a < 6 → ∀ b, b < 6 → a ≠ b → (tb_X a).2.1 ≠ (tb_X b).2.1 := by decide +kernel
theorem fk_X : ∀ k, k < 6 → parseFieldDescriptor (tb_X k).2.2.1 = some (ft_X k) := by decide +kernel
def tb_M : u_T := fun k => match k with
  | 0 => ("FourWordsModel", "bit", "[B", true)
  | 1 => ("FourWordsModel", "width", "[I", true)
  | 2 => ("FourWordsModel", "signed", "[Z", true)
  | 3 => ("FourWordsModel", "a", "[B", true)
  | 4 => ("FourWordsModel", "b", "[B", true)
  | 5 => ("FourWordsModel", "c", "[B", true)
  | 6 => ("FourWordsModel", "rest", "[B", true)
  | 7 => ("FourWordsModel", "text", "[B", true)
  | 8 => ("FourWordsModel", "many", "I", false)
  | 9 => ("FourWordsModel", "size", "I", false)
  | 10 => ("FourWordsModel", "thrown", "I", false)
  | _ => ("FourWordsModel", "digits", "[B", true)
def ft_M : Nat → FieldType := fun k => match k with
  | 0 => .array .byte
  | 1 => .array .int
  | 2 => .array .boolean
  | 3 => .array .byte
  | 4 => .array .byte
  | 5 => .array .byte
  | 6 => .array .byte
  | 7 => .array .byte
  | 8 => .int
  | 9 => .int
  | 10 => .int
  | _ => .array .byte
theorem fn_M : ∀ a, a < 12 → ∀ b, b < 12 → a ≠ b → (tb_M a).2.1 ≠ (tb_M b).2.1 := by decide +kernel
theorem fk_M : ∀ k, k < 12 → parseFieldDescriptor (tb_M k).2.2.1 = some (ft_M k) := by decide +kernel
abbrev cd_B_lowest : ByteArray := prog_2_method_2_code
abbrev yn_B_lowest : MethodName := ⟨"FourWords$Bits", "lowest", "(I)J"⟩
abbrev cd_B_withHighestInFront : ByteArray := prog_2_method_3_code
abbrev yn_B_withHighestInFront : MethodName := ⟨"FourWords$Bits", "withHighestInFront", "(JI)J"⟩
abbrev cd_B_below : ByteArray := prog_2_method_4_code
abbrev yn_B_below : MethodName := ⟨"FourWords$Bits", "below", "(JJ)Z"⟩
abbrev cd_B_quotient : ByteArray := prog_2_method_5_code
abbrev yn_B_quotient : MethodName := ⟨"FourWords$Bits", "quotient", "(JJ)J"⟩
abbrev cd_B_digits : ByteArray := prog_2_method_6_code
abbrev yn_B_digits : MethodName := ⟨"FourWords$Bits", "digits", "(J)I"⟩
abbrev cd_N_clear : ByteArray := prog_3_method_2_code
abbrev yn_N_clear : MethodName := ⟨"FourWords$Line", "clear", "()V"⟩
abbrev cd_N_write : ByteArray := prog_3_method_3_code
abbrev yn_N_write : MethodName := ⟨"FourWords$Line", "write", "(C)V"⟩
abbrev cd_N_writeSpaces : ByteArray := prog_3_method_4_code
abbrev yn_N_writeSpaces : MethodName := ⟨"FourWords$Line", "writeSpaces", "(I)V"⟩
abbrev cd_N_writeDigits : ByteArray := prog_3_method_5_code
abbrev yn_N_writeDigits : MethodName := ⟨"FourWords$Line", "writeDigits", "(JI)V"⟩
abbrev cd_J_bitCount : ByteArray := prog_10_method_50_code
abbrev yn_J_bitCount : MethodName := ⟨"java/lang/Long", "bitCount", "(J)I"⟩
abbrev cd_X_demandRange : ByteArray := prog_1_method_17_code
abbrev yn_X_demandRange : MethodName := ⟨"FourWords", "demandRange", "(III)V"⟩
abbrev cd_X_demandValues : ByteArray := prog_1_method_18_code
abbrev yn_X_demandValues : MethodName := ⟨"FourWords", "demandValues", "(I)V"⟩
abbrev cd_X_demandPlace : ByteArray := prog_1_method_19_code
abbrev yn_X_demandPlace : MethodName := ⟨"FourWords", "demandPlace", "(I)V"⟩
abbrev cd_X_demandRoom : ByteArray := prog_1_method_20_code
abbrev yn_X_demandRoom : MethodName := ⟨"FourWords", "demandRoom", "()V"⟩
abbrev cd_X_bothTrue : ByteArray := prog_1_method_38_code
abbrev yn_X_bothTrue : MethodName := ⟨"FourWords", "bothTrue", "(II)I"⟩
abbrev cd_X_opposite : ByteArray := prog_1_method_39_code
abbrev yn_X_opposite : MethodName := ⟨"FourWords", "opposite", "(I)I"⟩
abbrev cd_X_unknownLetter : ByteArray := prog_1_method_49_code
abbrev yn_X_unknownLetter : MethodName := ⟨"FourWords", "unknownLetter", "(JJJ)C"⟩
abbrev cd_X_groupLetter : ByteArray := prog_1_method_48_code
abbrev yn_X_groupLetter : MethodName := ⟨"FourWords", "groupLetter", "(JJJ)C"⟩
abbrev cd_X_setBits : ByteArray := prog_1_method_22_code
abbrev yn_X_setBits : MethodName := ⟨"FourWords", "setBits", "(IJJ)V"⟩
abbrev cd_X_setValue : ByteArray := prog_1_method_21_code
abbrev yn_X_setValue : MethodName := ⟨"FourWords", "setValue", "(IJJIZ)V"⟩
abbrev cd_X_setSure : ByteArray := prog_1_method_23_code
abbrev yn_X_setSure : MethodName := ⟨"FourWords", "setSure", "(IJJ)V"⟩
abbrev cd_X_setTruth : ByteArray := prog_1_method_24_code
abbrev yn_X_setTruth : MethodName := ⟨"FourWords", "setTruth", "(II)V"⟩
abbrev cd_X_fillWithX : ByteArray := prog_1_method_25_code
abbrev yn_X_fillWithX : MethodName := ⟨"FourWords", "fillWithX", "(I)V"⟩
abbrev cd_X_copyValue : ByteArray := prog_1_method_26_code
abbrev yn_X_copyValue : MethodName := ⟨"FourWords", "copyValue", "(II)V"⟩
abbrev cd_X_setWidth : ByteArray := prog_1_method_27_code
abbrev yn_X_setWidth : MethodName := ⟨"FourWords", "setWidth", "(IIZ)V"⟩
abbrev cd_X_bringTogether : ByteArray := prog_1_method_28_code
abbrev yn_X_bringTogether : MethodName := ⟨"FourWords", "bringTogether", "(II)V"⟩
abbrev cd_X_sureOnes : ByteArray := prog_1_method_29_code
abbrev yn_X_sureOnes : MethodName := ⟨"FourWords", "sureOnes", "(I)J"⟩
abbrev cd_X_sureZeros : ByteArray := prog_1_method_30_code
abbrev yn_X_sureZeros : MethodName := ⟨"FourWords", "sureZeros", "(I)J"⟩
abbrev cd_X_number : ByteArray := prog_1_method_31_code
abbrev yn_X_number : MethodName := ⟨"FourWords", "number", "(I)J"⟩
abbrev cd_X_reckon : ByteArray := prog_1_method_32_code
abbrev yn_X_reckon : MethodName := ⟨"FourWords", "reckon", "(III)V"⟩
abbrev cd_X_combine : ByteArray := prog_1_method_33_code
abbrev yn_X_combine : MethodName := ⟨"FourWords", "combine", "(III)V"⟩
abbrev cd_X_equal : ByteArray := prog_1_method_35_code
abbrev yn_X_equal : MethodName := ⟨"FourWords", "equal", "(II)I"⟩
abbrev cd_X_identical : ByteArray := prog_1_method_36_code
abbrev yn_X_identical : MethodName := ⟨"FourWords", "identical", "(II)I"⟩
abbrev cd_X_less : ByteArray := prog_1_method_37_code
abbrev yn_X_less : MethodName := ⟨"FourWords", "less", "(II)I"⟩
abbrev cd_X_allOnes : ByteArray := prog_1_method_41_code
abbrev yn_X_allOnes : MethodName := ⟨"FourWords", "allOnes", "(I)I"⟩
abbrev cd_X_anyOne : ByteArray := prog_1_method_42_code
abbrev yn_X_anyOne : MethodName := ⟨"FourWords", "anyOne", "(I)I"⟩
abbrev cd_X_oddOnes : ByteArray := prog_1_method_43_code
abbrev yn_X_oddOnes : MethodName := ⟨"FourWords", "oddOnes", "(I)I"⟩
abbrev cd_X_compared : ByteArray := prog_1_method_34_code
abbrev yn_X_compared : MethodName := ⟨"FourWords", "compared", "(III)I"⟩
abbrev cd_X_reduced : ByteArray := prog_1_method_40_code
abbrev yn_X_reduced : MethodName := ⟨"FourWords", "reduced", "(II)I"⟩
abbrev cd_X_negate : ByteArray := prog_1_method_44_code
abbrev yn_X_negate : MethodName := ⟨"FourWords", "negate", "(I)V"⟩
abbrev cd_X_moveLeft : ByteArray := prog_1_method_45_code
abbrev yn_X_moveLeft : MethodName := ⟨"FourWords", "moveLeft", "(IJ)V"⟩
abbrev cd_X_moveRight : ByteArray := prog_1_method_46_code
abbrev yn_X_moveRight : MethodName := ⟨"FourWords", "moveRight", "(IJZ)V"⟩
abbrev cd_X_writeGroups : ByteArray := prog_1_method_47_code
abbrev yn_X_writeGroups : MethodName := ⟨"FourWords", "writeGroups", "(IIZ)V"⟩
abbrev cd_X_writeNumber : ByteArray := prog_1_method_50_code
abbrev yn_X_writeNumber : MethodName := ⟨"FourWords", "writeNumber", "(IZ)V"⟩
abbrev cd_X_push : ByteArray := prog_1_method_2_code
abbrev yn_X_push : MethodName := ⟨"FourWords", "push", "(JJIZ)I"⟩
abbrev cd_X_two : ByteArray := prog_1_method_3_code
abbrev yn_X_two : MethodName := ⟨"FourWords", "two", "(I)V"⟩
abbrev cd_X_shift : ByteArray := prog_1_method_4_code
abbrev yn_X_shift : MethodName := ⟨"FourWords", "shift", "(I)V"⟩
abbrev cd_X_one : ByteArray := prog_1_method_5_code
abbrev yn_X_one : MethodName := ⟨"FourWords", "one", "(I)V"⟩
abbrev cd_X_choose : ByteArray := prog_1_method_6_code
abbrev yn_X_choose : MethodName := ⟨"FourWords", "choose", "()V"⟩
abbrev cd_X_join : ByteArray := prog_1_method_7_code
abbrev yn_X_join : MethodName := ⟨"FourWords", "join", "()V"⟩
abbrev cd_X_copies : ByteArray := prog_1_method_8_code
abbrev yn_X_copies : MethodName := ⟨"FourWords", "copies", "(I)V"⟩
abbrev cd_X_part : ByteArray := prog_1_method_9_code
abbrev yn_X_part : MethodName := ⟨"FourWords", "part", "(II)V"⟩
abbrev cd_X_bit : ByteArray := prog_1_method_10_code
abbrev yn_X_bit : MethodName := ⟨"FourWords", "bit", "()V"⟩
abbrev cd_X_as : ByteArray := prog_1_method_11_code
abbrev yn_X_as : MethodName := ⟨"FourWords", "as", "(IZ)V"⟩
abbrev cd_X_again : ByteArray := prog_1_method_12_code
abbrev yn_X_again : MethodName := ⟨"FourWords", "again", "(I)V"⟩
abbrev cd_X_text : ByteArray := prog_1_method_13_code
abbrev yn_X_text : MethodName := ⟨"FourWords", "text", "(IZ)I"⟩
abbrev cd_X_letter : ByteArray := prog_1_method_14_code
abbrev yn_X_letter : MethodName := ⟨"FourWords", "letter", "(I)I"⟩
abbrev cd_X_told : ByteArray := prog_1_method_15_code
abbrev yn_X_told : MethodName := ⟨"FourWords", "told", "(II)J"⟩
abbrev cd_X_count : ByteArray := prog_1_method_16_code
abbrev yn_X_count : MethodName := ⟨"FourWords", "count", "(I)I"⟩
abbrev cd_M_dark : ByteArray := prog_5_method_6_code
abbrev yn_M_dark : MethodName := ⟨"FourWordsModel", "dark", "([BI)Z"⟩
abbrev cd_M_fill : ByteArray := prog_5_method_7_code
abbrev yn_M_fill : MethodName := ⟨"FourWordsModel", "fill", "([BII)V"⟩
abbrev cd_M_truth : ByteArray := prog_5_method_8_code
abbrev yn_M_truth : MethodName := ⟨"FourWordsModel", "truth", "([BI)I"⟩
abbrev cd_M_negate : ByteArray := prog_5_method_14_code
abbrev yn_M_negate : MethodName := ⟨"FourWordsModel", "negate", "([BI)V"⟩
abbrev cd_M_isZero : ByteArray := prog_5_method_16_code
abbrev yn_M_isZero : MethodName := ⟨"FourWordsModel", "isZero", "([BI)Z"⟩
abbrev cd_M_add : ByteArray := prog_5_method_13_code
abbrev yn_M_add : MethodName := ⟨"FourWordsModel", "add", "([B[B[BII)V"⟩
abbrev cd_M_opposite : ByteArray := prog_5_method_9_code
abbrev yn_M_opposite : MethodName := ⟨"FourWordsModel", "opposite", "(I)I"⟩
abbrev cd_M_logic : ByteArray := prog_5_method_21_code
abbrev yn_M_logic : MethodName := ⟨"FourWordsModel", "logic", "(III)I"⟩
abbrev cd_M_decimal : ByteArray := prog_5_method_40_code
abbrev yn_M_decimal : MethodName := ⟨"FourWordsModel", "decimal", "([BI[B)I"⟩
abbrev cd_M_thrown : ByteArray := prog_5_method_2_code
abbrev yn_M_thrown : MethodName := ⟨"FourWordsModel", "thrown", "()I"⟩
abbrev cd_M_refuse : ByteArray := prog_5_method_3_code
abbrev yn_M_refuse : MethodName := ⟨"FourWordsModel", "refuse", "(ZII)Z"⟩
abbrev cd_M_wider : ByteArray := prog_5_method_11_code
abbrev yn_M_wider : MethodName := ⟨"FourWordsModel", "wider", "()I"⟩
abbrev cd_M_give : ByteArray := prog_5_method_4_code
abbrev yn_M_give : MethodName := ⟨"FourWordsModel", "give", "([BIZ)V"⟩
abbrev cd_M_take : ByteArray := prog_5_method_5_code
abbrev yn_M_take : MethodName := ⟨"FourWordsModel", "take", "(I[BIZ)V"⟩
abbrev cd_M_bring : ByteArray := prog_5_method_10_code
abbrev yn_M_bring : MethodName := ⟨"FourWordsModel", "bring", "(ZI)V"⟩
abbrev cd_M_multiply : ByteArray := prog_5_method_15_code
abbrev yn_M_multiply : MethodName := ⟨"FourWordsModel", "multiply", "(I)V"⟩
abbrev cd_M_reaches : ByteArray := prog_5_method_17_code
abbrev yn_M_reaches : MethodName := ⟨"FourWordsModel", "reaches", "(I)Z"⟩
abbrev cd_M_divide : ByteArray := prog_5_method_18_code
abbrev yn_M_divide : MethodName := ⟨"FourWordsModel", "divide", "(I)V"⟩
abbrev cd_M_quotient : ByteArray := prog_5_method_19_code
abbrev yn_M_quotient : MethodName := ⟨"FourWordsModel", "quotient", "(IZI)V"⟩
abbrev cd_M_reckon : ByteArray := prog_5_method_20_code
abbrev yn_M_reckon : MethodName := ⟨"FourWordsModel", "reckon", "(IZI)V"⟩
abbrev cd_M_equal : ByteArray := prog_5_method_22_code
abbrev yn_M_equal : MethodName := ⟨"FourWordsModel", "equal", "(I)I"⟩
abbrev cd_M_same : ByteArray := prog_5_method_23_code
abbrev yn_M_same : MethodName := ⟨"FourWordsModel", "same", "(I)Z"⟩
abbrev cd_M_order : ByteArray := prog_5_method_24_code
abbrev yn_M_order : MethodName := ⟨"FourWordsModel", "order", "(ZI)I"⟩
abbrev cd_M_asked : ByteArray := prog_5_method_25_code
abbrev yn_M_asked : MethodName := ⟨"FourWordsModel", "asked", "(IZI)I"⟩
abbrev cd_M_amount : ByteArray := prog_5_method_27_code
abbrev yn_M_amount : MethodName := ⟨"FourWordsModel", "amount", "(II)I"⟩
abbrev cd_M_put : ByteArray := prog_5_method_37_code
abbrev yn_M_put : MethodName := ⟨"FourWordsModel", "put", "(I)V"⟩
abbrev cd_M_sort : ByteArray := prog_5_method_38_code
abbrev yn_M_sort : MethodName := ⟨"FourWordsModel", "sort", "(II)I"⟩
abbrev cd_M_groups : ByteArray := prog_5_method_39_code
abbrev yn_M_groups : MethodName := ⟨"FourWordsModel", "groups", "(IIZ)V"⟩
abbrev cd_M_number : ByteArray := prog_5_method_41_code
abbrev yn_M_number : MethodName := ⟨"FourWordsModel", "number", "(IZZ)V"⟩
abbrev cd_M_push : ByteArray := prog_5_method_12_code
abbrev yn_M_push : MethodName := ⟨"FourWordsModel", "push", "(JJIZ)I"⟩
abbrev cd_M_two : ByteArray := prog_5_method_26_code
abbrev yn_M_two : MethodName := ⟨"FourWordsModel", "two", "(I)V"⟩
abbrev cd_M_shift : ByteArray := prog_5_method_28_code
abbrev yn_M_shift : MethodName := ⟨"FourWordsModel", "shift", "(I)V"⟩
abbrev cd_M_one : ByteArray := prog_5_method_29_code
abbrev yn_M_one : MethodName := ⟨"FourWordsModel", "one", "(I)V"⟩
abbrev cd_M_choose : ByteArray := prog_5_method_30_code
abbrev yn_M_choose : MethodName := ⟨"FourWordsModel", "choose", "()V"⟩
abbrev cd_M_join : ByteArray := prog_5_method_31_code
abbrev yn_M_join : MethodName := ⟨"FourWordsModel", "join", "()V"⟩
abbrev cd_M_copies : ByteArray := prog_5_method_32_code
abbrev yn_M_copies : MethodName := ⟨"FourWordsModel", "copies", "(I)V"⟩
abbrev cd_M_part : ByteArray := prog_5_method_33_code
abbrev yn_M_part : MethodName := ⟨"FourWordsModel", "part", "(II)V"⟩
abbrev cd_M_bit : ByteArray := prog_5_method_34_code
abbrev yn_M_bit : MethodName := ⟨"FourWordsModel", "bit", "()V"⟩
abbrev cd_M_as : ByteArray := prog_5_method_35_code
abbrev yn_M_as : MethodName := ⟨"FourWordsModel", "as", "(IZ)V"⟩
abbrev cd_M_again : ByteArray := prog_5_method_36_code
abbrev yn_M_again : MethodName := ⟨"FourWordsModel", "again", "(I)V"⟩
abbrev cd_M_text : ByteArray := prog_5_method_42_code
abbrev yn_M_text : MethodName := ⟨"FourWordsModel", "text", "(IZ)I"⟩
abbrev cd_M_letter : ByteArray := prog_5_method_43_code
abbrev yn_M_letter : MethodName := ⟨"FourWordsModel", "letter", "(I)I"⟩
abbrev cd_M_told : ByteArray := prog_5_method_44_code
abbrev yn_M_told : MethodName := ⟨"FourWordsModel", "told", "(II)J"⟩
abbrev cd_M_count : ByteArray := prog_5_method_45_code
abbrev yn_M_count : MethodName := ⟨"FourWordsModel", "count", "(I)I"⟩
abbrev cd_X_init : ByteArray := prog_1_method_1_code
abbrev yn_X_init : MethodName := ⟨"FourWords", "<init>", "()V"⟩
abbrev cd_M_init : ByteArray := prog_5_method_1_code
abbrev yn_M_init : MethodName := ⟨"FourWordsModel", "<init>", "()V"⟩
abbrev cd_N_init : ByteArray := prog_3_method_1_code
abbrev yn_N_init : MethodName := ⟨"FourWords$Line", "<init>", "()V"⟩
abbrev cd_L_push : ByteArray := method_3_code
abbrev yn_L_push : MethodName := ⟨"FourWordsLaw", "push", "(LFourWords;JJIZ[J)I"⟩
abbrev cd_L_two : ByteArray := method_4_code
abbrev yn_L_two : MethodName := ⟨"FourWordsLaw", "two", "(LFourWords;I)I"⟩
abbrev cd_L_shift : ByteArray := method_5_code
abbrev yn_L_shift : MethodName := ⟨"FourWordsLaw", "shift", "(LFourWords;I)I"⟩
abbrev cd_L_one : ByteArray := method_6_code
abbrev yn_L_one : MethodName := ⟨"FourWordsLaw", "one", "(LFourWords;I)I"⟩
abbrev cd_L_choose : ByteArray := method_7_code
abbrev yn_L_choose : MethodName := ⟨"FourWordsLaw", "choose", "(LFourWords;)I"⟩
abbrev cd_L_join : ByteArray := method_8_code
abbrev yn_L_join : MethodName := ⟨"FourWordsLaw", "join", "(LFourWords;)I"⟩
abbrev cd_L_copies : ByteArray := method_9_code
abbrev yn_L_copies : MethodName := ⟨"FourWordsLaw", "copies", "(LFourWords;I)I"⟩
abbrev cd_L_part : ByteArray := method_10_code
abbrev yn_L_part : MethodName := ⟨"FourWordsLaw", "part", "(LFourWords;II)I"⟩
abbrev cd_L_bit : ByteArray := method_11_code
abbrev yn_L_bit : MethodName := ⟨"FourWordsLaw", "bit", "(LFourWords;)I"⟩
abbrev cd_L_as : ByteArray := method_12_code
abbrev yn_L_as : MethodName := ⟨"FourWordsLaw", "as", "(LFourWords;IZ)I"⟩
abbrev cd_L_again : ByteArray := method_13_code
abbrev yn_L_again : MethodName := ⟨"FourWordsLaw", "again", "(LFourWords;I)I"⟩
abbrev cd_L_text : ByteArray := method_14_code
abbrev yn_L_text : MethodName := ⟨"FourWordsLaw", "text", "(LFourWords;IZ[J)I"⟩
abbrev cd_L_letter : ByteArray := method_15_code
abbrev yn_L_letter : MethodName := ⟨"FourWordsLaw", "letter", "(LFourWords;I[J)I"⟩
abbrev cd_L_told : ByteArray := method_16_code
abbrev yn_L_told : MethodName := ⟨"FourWordsLaw", "told", "(LFourWords;II[J)I"⟩
def wg_all : List Cond := lw_tbl.filter goodWord
theorem wg_t {i : Nat} {w : Cond} (h : tables_1[i]? = some w) (hg : goodWord w = true) : w ∈ wg_all := List.mem_filter.mpr ⟨List.mem_append_right _ (List.mem_of_getElem? h), hg⟩
theorem wg_s {i : Nat} {w : Cond} (h : (k2_sels lw_privs)[i]? = some w) (hg : goodWord w = true) : w ∈ wg_all := List.mem_filter.mpr ⟨List.mem_append_left _ (List.mem_of_getElem? h), hg⟩
theorem gw_in {c d : Cond} (hd : d ∈ wg_all) : GoodIn (c :: wg_all) (d :: wg_all) := by
  intro w hw
  rcases List.mem_cons.mp hw with h | h
  · rw [h]; exact ⟨List.mem_cons_of_mem _ hd, good_of_word (List.mem_filter.mp hd).2⟩
  · exact ⟨List.mem_cons_of_mem _ h, good_of_word (List.mem_filter.mp h).2⟩
theorem mw_s1 : Cond.selects "FourWords" ⟨"FourWords", "demandRoom", "()V"⟩ ⟨"FourWords", "demandRoom", "()V"⟩ ∈ wg_all := wg_s (i := 1) (by decide +kernel) (by decide +kernel)
theorem mw_s2 : Cond.selects "FourWords" ⟨"FourWords", "setValue", "(IJJIZ)V"⟩ ⟨"FourWords", "setValue", "(IJJIZ)V"⟩ ∈ wg_all := wg_s (i := 2) (by decide +kernel) (by decide +kernel)
theorem mw_s3 : Cond.selects "FourWords" ⟨"FourWords", "setBits", "(IJJ)V"⟩ ⟨"FourWords", "setBits", "(IJJ)V"⟩ ∈ wg_all := wg_s (i := 3) (by decide +kernel) (by decide +kernel)
theorem mw_s4 : Cond.selects "FourWords" ⟨"FourWords", "demandValues", "(I)V"⟩ ⟨"FourWords", "demandValues", "(I)V"⟩ ∈ wg_all := wg_s (i := 4) (by decide +kernel) (by decide +kernel)
theorem mw_s5 : Cond.selects "FourWords" ⟨"FourWords", "bringTogether", "(II)V"⟩ ⟨"FourWords", "bringTogether", "(II)V"⟩ ∈ wg_all := wg_s (i := 5) (by decide +kernel) (by decide +kernel)
theorem mw_s6 : Cond.selects "FourWords" ⟨"FourWords", "setWidth", "(IIZ)V"⟩ ⟨"FourWords", "setWidth", "(IIZ)V"⟩ ∈ wg_all := wg_s (i := 6) (by decide +kernel) (by decide +kernel)
theorem mw_s7 : Cond.selects "FourWords" ⟨"FourWords", "reckon", "(III)V"⟩ ⟨"FourWords", "reckon", "(III)V"⟩ ∈ wg_all := wg_s (i := 7) (by decide +kernel) (by decide +kernel)
theorem mw_s8 : Cond.selects "FourWords" ⟨"FourWords", "number", "(I)J"⟩ ⟨"FourWords", "number", "(I)J"⟩ ∈ wg_all := wg_s (i := 8) (by decide +kernel) (by decide +kernel)
theorem mw_s9 : Cond.selects "FourWords" ⟨"FourWords", "fillWithX", "(I)V"⟩ ⟨"FourWords", "fillWithX", "(I)V"⟩ ∈ wg_all := wg_s (i := 9) (by decide +kernel) (by decide +kernel)
theorem mw_s10 : Cond.selects "FourWords" ⟨"FourWords", "combine", "(III)V"⟩ ⟨"FourWords", "combine", "(III)V"⟩ ∈ wg_all := wg_s (i := 10) (by decide +kernel) (by decide +kernel)
theorem mw_s11 : Cond.selects "FourWords" ⟨"FourWords", "sureOnes", "(I)J"⟩ ⟨"FourWords", "sureOnes", "(I)J"⟩ ∈ wg_all := wg_s (i := 11) (by decide +kernel) (by decide +kernel)
theorem mw_s12 : Cond.selects "FourWords" ⟨"FourWords", "sureZeros", "(I)J"⟩ ⟨"FourWords", "sureZeros", "(I)J"⟩ ∈ wg_all := wg_s (i := 12) (by decide +kernel) (by decide +kernel)
theorem mw_s13 : Cond.selects "FourWords" ⟨"FourWords", "setSure", "(IJJ)V"⟩ ⟨"FourWords", "setSure", "(IJJ)V"⟩ ∈ wg_all := wg_s (i := 13) (by decide +kernel) (by decide +kernel)
theorem mw_s14 : Cond.selects "FourWords" ⟨"FourWords", "compared", "(III)I"⟩ ⟨"FourWords", "compared", "(III)I"⟩ ∈ wg_all := wg_s (i := 14) (by decide +kernel) (by decide +kernel)
theorem mw_s15 : Cond.selects "FourWords" ⟨"FourWords", "equal", "(II)I"⟩ ⟨"FourWords", "equal", "(II)I"⟩ ∈ wg_all := wg_s (i := 15) (by decide +kernel) (by decide +kernel)
theorem mw_s16 : Cond.selects "FourWords" ⟨"FourWords", "identical", "(II)I"⟩ ⟨"FourWords", "identical", "(II)I"⟩ ∈ wg_all := wg_s (i := 16) (by decide +kernel) (by decide +kernel)
theorem mw_s17 : Cond.selects "FourWords" ⟨"FourWords", "less", "(II)I"⟩ ⟨"FourWords", "less", "(II)I"⟩ ∈ wg_all := wg_s (i := 17) (by decide +kernel) (by decide +kernel)
theorem mw_s18 : Cond.selects "FourWords" ⟨"FourWords", "anyOne", "(I)I"⟩ ⟨"FourWords", "anyOne", "(I)I"⟩ ∈ wg_all := wg_s (i := 18) (by decide +kernel) (by decide +kernel)
theorem mw_s19 : Cond.selects "FourWords" ⟨"FourWords", "setTruth", "(II)V"⟩ ⟨"FourWords", "setTruth", "(II)V"⟩ ∈ wg_all := wg_s (i := 19) (by decide +kernel) (by decide +kernel)
theorem mw_s20 : Cond.selects "FourWords" ⟨"FourWords", "moveRight", "(IJZ)V"⟩ ⟨"FourWords", "moveRight", "(IJZ)V"⟩ ∈ wg_all := wg_s (i := 20) (by decide +kernel) (by decide +kernel)
theorem mw_s21 : Cond.selects "FourWords" ⟨"FourWords", "moveLeft", "(IJ)V"⟩ ⟨"FourWords", "moveLeft", "(IJ)V"⟩ ∈ wg_all := wg_s (i := 21) (by decide +kernel) (by decide +kernel)
theorem mw_s22 : Cond.selects "FourWords" ⟨"FourWords", "negate", "(I)V"⟩ ⟨"FourWords", "negate", "(I)V"⟩ ∈ wg_all := wg_s (i := 22) (by decide +kernel) (by decide +kernel)
theorem mw_s23 : Cond.selects "FourWords" ⟨"FourWords", "reduced", "(II)I"⟩ ⟨"FourWords", "reduced", "(II)I"⟩ ∈ wg_all := wg_s (i := 23) (by decide +kernel) (by decide +kernel)
theorem mw_s24 : Cond.selects "FourWords" ⟨"FourWords", "allOnes", "(I)I"⟩ ⟨"FourWords", "allOnes", "(I)I"⟩ ∈ wg_all := wg_s (i := 24) (by decide +kernel) (by decide +kernel)
theorem mw_s25 : Cond.selects "FourWords" ⟨"FourWords", "oddOnes", "(I)I"⟩ ⟨"FourWords", "oddOnes", "(I)I"⟩ ∈ wg_all := wg_s (i := 25) (by decide +kernel) (by decide +kernel)
theorem mw_s26 : Cond.selects "FourWords" ⟨"FourWords", "copyValue", "(II)V"⟩ ⟨"FourWords", "copyValue", "(II)V"⟩ ∈ wg_all := wg_s (i := 26) (by decide +kernel) (by decide +kernel)
theorem mw_s27 : Cond.selects "FourWords" ⟨"FourWords", "demandPlace", "(I)V"⟩ ⟨"FourWords", "demandPlace", "(I)V"⟩ ∈ wg_all := wg_s (i := 27) (by decide +kernel) (by decide +kernel)
theorem mw_s28 : Cond.selects "FourWords$Line" ⟨"FourWords$Line", "clear", "()V"⟩ ⟨"FourWords$Line", "clear", "()V"⟩ ∈ wg_all := wg_s (i := 28) (by decide +kernel) (by decide +kernel)
theorem mw_s29 : Cond.selects "FourWords" ⟨"FourWords", "writeNumber", "(IZ)V"⟩ ⟨"FourWords", "writeNumber", "(IZ)V"⟩ ∈ wg_all := wg_s (i := 29) (by decide +kernel) (by decide +kernel)
theorem mw_s30 : Cond.selects "FourWords$Line" ⟨"FourWords$Line", "writeSpaces", "(I)V"⟩ ⟨"FourWords$Line", "writeSpaces", "(I)V"⟩ ∈ wg_all := wg_s (i := 30) (by decide +kernel) (by decide +kernel)
theorem mw_s31 : Cond.selects "FourWords$Line" ⟨"FourWords$Line", "write", "(C)V"⟩ ⟨"FourWords$Line", "write", "(C)V"⟩ ∈ wg_all := wg_s (i := 31) (by decide +kernel) (by decide +kernel)
theorem mw_s32 : Cond.selects "FourWords$Line" ⟨"FourWords$Line", "writeDigits", "(JI)V"⟩ ⟨"FourWords$Line", "writeDigits", "(JI)V"⟩ ∈ wg_all := wg_s (i := 32) (by decide +kernel) (by decide +kernel)
theorem mw_s33 : Cond.selects "FourWords" ⟨"FourWords", "writeGroups", "(IIZ)V"⟩ ⟨"FourWords", "writeGroups", "(IIZ)V"⟩ ∈ wg_all := wg_s (i := 33) (by decide +kernel) (by decide +kernel)
theorem mw_s34 : Cond.selects "FourWordsModel" ⟨"FourWordsModel", "refuse", "(ZII)Z"⟩ ⟨"FourWordsModel", "refuse", "(ZII)Z"⟩ ∈ wg_all := wg_s (i := 34) (by decide +kernel) (by decide +kernel)
theorem mw_s35 : Cond.selects "FourWordsModel" ⟨"FourWordsModel", "give", "([BIZ)V"⟩ ⟨"FourWordsModel", "give", "([BIZ)V"⟩ ∈ wg_all := wg_s (i := 35) (by decide +kernel) (by decide +kernel)
theorem mw_s36 : Cond.selects "FourWordsModel" ⟨"FourWordsModel", "wider", "()I"⟩ ⟨"FourWordsModel", "wider", "()I"⟩ ∈ wg_all := wg_s (i := 36) (by decide +kernel) (by decide +kernel)
theorem mw_s37 : Cond.selects "FourWordsModel" ⟨"FourWordsModel", "take", "(I[BIZ)V"⟩ ⟨"FourWordsModel", "take", "(I[BIZ)V"⟩ ∈ wg_all := wg_s (i := 37) (by decide +kernel) (by decide +kernel)
theorem mw_s38 : Cond.selects "FourWordsModel" ⟨"FourWordsModel", "reckon", "(IZI)V"⟩ ⟨"FourWordsModel", "reckon", "(IZI)V"⟩ ∈ wg_all := wg_s (i := 38) (by decide +kernel) (by decide +kernel)
theorem mw_s39 : Cond.selects "FourWordsModel" ⟨"FourWordsModel", "multiply", "(I)V"⟩ ⟨"FourWordsModel", "multiply", "(I)V"⟩ ∈ wg_all := wg_s (i := 39) (by decide +kernel) (by decide +kernel)
theorem mw_s40 : Cond.selects "FourWordsModel" ⟨"FourWordsModel", "quotient", "(IZI)V"⟩ ⟨"FourWordsModel", "quotient", "(IZI)V"⟩ ∈ wg_all := wg_s (i := 40) (by decide +kernel) (by decide +kernel)
theorem mw_s41 : Cond.selects "FourWordsModel" ⟨"FourWordsModel", "divide", "(I)V"⟩ ⟨"FourWordsModel", "divide", "(I)V"⟩ ∈ wg_all := wg_s (i := 41) (by decide +kernel) (by decide +kernel)
theorem mw_s42 : Cond.selects "FourWordsModel" ⟨"FourWordsModel", "reaches", "(I)Z"⟩ ⟨"FourWordsModel", "reaches", "(I)Z"⟩ ∈ wg_all := wg_s (i := 42) (by decide +kernel) (by decide +kernel)
theorem mw_s43 : Cond.selects "FourWordsModel" ⟨"FourWordsModel", "asked", "(IZI)I"⟩ ⟨"FourWordsModel", "asked", "(IZI)I"⟩ ∈ wg_all := wg_s (i := 43) (by decide +kernel) (by decide +kernel)
theorem mw_s44 : Cond.selects "FourWordsModel" ⟨"FourWordsModel", "equal", "(I)I"⟩ ⟨"FourWordsModel", "equal", "(I)I"⟩ ∈ wg_all := wg_s (i := 44) (by decide +kernel) (by decide +kernel)
theorem mw_s45 : Cond.selects "FourWordsModel" ⟨"FourWordsModel", "same", "(I)Z"⟩ ⟨"FourWordsModel", "same", "(I)Z"⟩ ∈ wg_all := wg_s (i := 45) (by decide +kernel) (by decide +kernel)
theorem mw_s46 : Cond.selects "FourWordsModel" ⟨"FourWordsModel", "order", "(ZI)I"⟩ ⟨"FourWordsModel", "order", "(ZI)I"⟩ ∈ wg_all := wg_s (i := 46) (by decide +kernel) (by decide +kernel)
theorem mw_s47 : Cond.selects "FourWordsModel" ⟨"FourWordsModel", "amount", "(II)I"⟩ ⟨"FourWordsModel", "amount", "(II)I"⟩ ∈ wg_all := wg_s (i := 47) (by decide +kernel) (by decide +kernel)
theorem mw_s48 : Cond.selects "FourWordsModel" ⟨"FourWordsModel", "bring", "(ZI)V"⟩ ⟨"FourWordsModel", "bring", "(ZI)V"⟩ ∈ wg_all := wg_s (i := 48) (by decide +kernel) (by decide +kernel)
theorem mw_s49 : Cond.selects "FourWordsModel" ⟨"FourWordsModel", "number", "(IZZ)V"⟩ ⟨"FourWordsModel", "number", "(IZZ)V"⟩ ∈ wg_all := wg_s (i := 49) (by decide +kernel) (by decide +kernel)
theorem mw_s50 : Cond.selects "FourWordsModel" ⟨"FourWordsModel", "decimal", "([BI[B)I"⟩ ⟨"FourWordsModel", "decimal", "([BI[B)I"⟩ ∈ wg_all := wg_s (i := 50) (by decide +kernel) (by decide +kernel)
theorem mw_s51 : Cond.selects "FourWordsModel" ⟨"FourWordsModel", "sort", "(II)I"⟩ ⟨"FourWordsModel", "sort", "(II)I"⟩ ∈ wg_all := wg_s (i := 51) (by decide +kernel) (by decide +kernel)
theorem mw_s52 : Cond.selects "FourWordsModel" ⟨"FourWordsModel", "put", "(I)V"⟩ ⟨"FourWordsModel", "put", "(I)V"⟩ ∈ wg_all := wg_s (i := 52) (by decide +kernel) (by decide +kernel)
theorem mw_s53 : Cond.selects "FourWordsModel" ⟨"FourWordsModel", "groups", "(IIZ)V"⟩ ⟨"FourWordsModel", "groups", "(IIZ)V"⟩ ∈ wg_all := wg_s (i := 53) (by decide +kernel) (by decide +kernel)
theorem mw_t0 : (Jvm.Cond.initialized "FourWordsLaw") ∈ wg_all := wg_t (i := 0) (by decide +kernel) (by decide +kernel)
theorem mw_t1 : (Jvm.Cond.initialized "FourWords") ∈ wg_all := wg_t (i := 1) (by decide +kernel) (by decide +kernel)
theorem mw_t2 : (Jvm.Cond.initialized "FourWords$Line") ∈ wg_all := wg_t (i := 2) (by decide +kernel) (by decide +kernel)
theorem mw_t3 : (Jvm.Cond.initialized "FourWordsModel") ∈ wg_all := wg_t (i := 3) (by decide +kernel) (by decide +kernel)
theorem mw_t4 : (Jvm.Cond.initialized "java/lang/Throwable") ∈ wg_all := wg_t (i := 4) (by decide +kernel) (by decide +kernel)
theorem mw_t5 : (Jvm.Cond.initialized "java/lang/Exception") ∈ wg_all := wg_t (i := 5) (by decide +kernel) (by decide +kernel)
theorem mw_t6 : (Jvm.Cond.initialized "java/lang/RuntimeException") ∈ wg_all := wg_t (i := 6) (by decide +kernel) (by decide +kernel)
theorem mw_t7 : (Jvm.Cond.initialized "java/lang/IllegalArgumentException") ∈ wg_all := wg_t (i := 7) (by decide +kernel) (by decide +kernel)
theorem mw_t8 : (Jvm.Cond.initialized "java/lang/IllegalStateException") ∈ wg_all := wg_t (i := 8) (by decide +kernel) (by decide +kernel)
theorem mw_t9 : (Jvm.Cond.initialized "FourWords$Bits") ∈ wg_all := wg_t (i := 9) (by decide +kernel) (by decide +kernel)
theorem mw_t10 : (Jvm.Cond.initialized "java/lang/Math") ∈ wg_all := wg_t (i := 10) (by decide +kernel) (by decide +kernel)
theorem mw_t11 : (Jvm.Cond.initialized "java/lang/Long") ∈ wg_all := wg_t (i := 11) (by decide +kernel) (by decide +kernel)
theorem mw_t12 : (Jvm.Cond.initialized "java/lang/IndexOutOfBoundsException") ∈ wg_all := wg_t (i := 12) (by decide +kernel) (by decide +kernel)
theorem mw_t13 : (Jvm.Cond.classLink "FourWordsLaw" (8 : Nat) "FourWords") ∈ wg_all := wg_t (i := 13) (by decide +kernel) (by decide +kernel)
theorem mw_t14 : (Jvm.Cond.instantiable "FourWords" (6 : Nat)) ∈ wg_all := wg_t (i := 14) (by decide +kernel) (by decide +kernel)
theorem mw_t15 : (Jvm.Cond.methodLink "FourWordsLaw" (64 : Nat) ({ cls := "FourWords", name := "<init>", desc := "()V" } : Jvm.MethodName)) ∈ wg_all := wg_t (i := 15) (by decide +kernel) (by decide +kernel)
theorem mw_t16 : (Jvm.Cond.instanceMethod ({ cls := "FourWords", name := "<init>", desc := "()V" } : Jvm.MethodName)) ∈ wg_all := wg_t (i := 16) (by decide +kernel) (by decide +kernel)
theorem mw_t17 : (Jvm.Cond.code ({ cls := "FourWords", name := "<init>", desc := "()V" } : Jvm.MethodName) prog_1_method_1_code (1 : Nat) (Option.none : Option Jvm.ClassFile.FieldType)) ∈ wg_all := wg_t (i := 17) (by decide +kernel) (by decide +kernel)
theorem mw_t18 : (Jvm.Cond.methodLink "FourWords" (1 : Nat) ({ cls := "java/lang/Object", name := "<init>", desc := "()V" } : Jvm.MethodName)) ∈ wg_all := wg_t (i := 18) (by decide +kernel) (by decide +kernel)
theorem mw_t19 : (Jvm.Cond.instanceMethod ({ cls := "java/lang/Object", name := "<init>", desc := "()V" } : Jvm.MethodName)) ∈ wg_all := wg_t (i := 19) (by decide +kernel) (by decide +kernel)
theorem mw_t20 : (Jvm.Cond.code ({ cls := "java/lang/Object", name := "<init>", desc := "()V" } : Jvm.MethodName) object_method_1_code (1 : Nat) (Option.none : Option Jvm.ClassFile.FieldType)) ∈ wg_all := wg_t (i := 20) (by decide +kernel) (by decide +kernel)
theorem mw_t21 : (Jvm.Cond.classLink "FourWords" (24 : Nat) "FourWords$Line") ∈ wg_all := wg_t (i := 21) (by decide +kernel) (by decide +kernel)
theorem mw_t22 : (Jvm.Cond.instantiable "FourWords$Line" (2 : Nat)) ∈ wg_all := wg_t (i := 22) (by decide +kernel) (by decide +kernel)
theorem mw_t24 : (Jvm.Cond.instanceMethod ({ cls := "FourWords$Line", name := "<init>", desc := "()V" } : Jvm.MethodName)) ∈ wg_all := wg_t (i := 24) (by decide +kernel) (by decide +kernel)
theorem mw_t25 : (Jvm.Cond.code ({ cls := "FourWords$Line", name := "<init>", desc := "()V" } : Jvm.MethodName) prog_3_method_1_code (1 : Nat) (Option.none : Option Jvm.ClassFile.FieldType)) ∈ wg_all := wg_t (i := 25) (by decide +kernel) (by decide +kernel)
theorem mw_t26 : (Jvm.Cond.methodLink "FourWords$Line" (3 : Nat) ({ cls := "java/lang/Object", name := "<init>", desc := "()V" } : Jvm.MethodName)) ∈ wg_all := wg_t (i := 26) (by decide +kernel) (by decide +kernel)
theorem mw_t27 : (Jvm.Cond.fieldLink "FourWords$Line" (9 : Nat) "FourWords$Line" "letters" "[B") ∈ wg_all := wg_t (i := 27) (by decide +kernel) (by decide +kernel)
theorem mw_t29 : (Jvm.Cond.fieldLink "FourWords$Line" (15 : Nat) "FourWords$Line" "length" "I") ∈ wg_all := wg_t (i := 29) (by decide +kernel) (by decide +kernel)
theorem mw_t31 : (Jvm.Cond.laysFinal "FourWords$Line" "FourWords$Line" "letters" "[B") ∈ wg_all := wg_t (i := 31) (by decide +kernel) (by decide +kernel)
theorem mw_t33 : (Jvm.Cond.lays "FourWords$Line" "FourWords$Line" "length" "I") ∈ wg_all := wg_t (i := 33) (by decide +kernel) (by decide +kernel)
theorem mw_t36 : (Jvm.Cond.arrayClass Jvm.ClassFile.FieldType.long) ∈ wg_all := wg_t (i := 36) (by decide +kernel) (by decide +kernel)
theorem mw_t37 : (Jvm.Cond.arrayClass Jvm.ClassFile.FieldType.int) ∈ wg_all := wg_t (i := 37) (by decide +kernel) (by decide +kernel)
theorem mw_t38 : (Jvm.Cond.arrayClass Jvm.ClassFile.FieldType.boolean) ∈ wg_all := wg_t (i := 38) (by decide +kernel) (by decide +kernel)
theorem mw_t39 : (Jvm.Cond.arrayClass Jvm.ClassFile.FieldType.byte) ∈ wg_all := wg_t (i := 39) (by decide +kernel) (by decide +kernel)
theorem mw_t40 : (Jvm.Cond.fieldLink "FourWords" (9 : Nat) "FourWords" "onesRow" "[J") ∈ wg_all := wg_t (i := 40) (by decide +kernel) (by decide +kernel)
theorem mw_t41 : (Jvm.Cond.fieldLink "FourWords" (13 : Nat) "FourWords" "unknownRow" "[J") ∈ wg_all := wg_t (i := 41) (by decide +kernel) (by decide +kernel)
theorem mw_t42 : (Jvm.Cond.fieldLink "FourWords" (16 : Nat) "FourWords" "widthRow" "[I") ∈ wg_all := wg_t (i := 42) (by decide +kernel) (by decide +kernel)
theorem mw_t43 : (Jvm.Cond.fieldLink "FourWords" (20 : Nat) "FourWords" "signedRow" "[Z") ∈ wg_all := wg_t (i := 43) (by decide +kernel) (by decide +kernel)
theorem mw_t44 : (Jvm.Cond.fieldLink "FourWords" (27 : Nat) "FourWords" "line" "LFourWords$Line;") ∈ wg_all := wg_t (i := 44) (by decide +kernel) (by decide +kernel)
theorem mw_t45 : (Jvm.Cond.fieldLink "FourWords" (31 : Nat) "FourWords" "size" "I") ∈ wg_all := wg_t (i := 45) (by decide +kernel) (by decide +kernel)
theorem mw_t46 : (Jvm.Cond.laysFinal "FourWords" "FourWords" "onesRow" "[J") ∈ wg_all := wg_t (i := 46) (by decide +kernel) (by decide +kernel)
theorem mw_t48 : (Jvm.Cond.laysFinal "FourWords" "FourWords" "unknownRow" "[J") ∈ wg_all := wg_t (i := 48) (by decide +kernel) (by decide +kernel)
theorem mw_t50 : (Jvm.Cond.laysFinal "FourWords" "FourWords" "widthRow" "[I") ∈ wg_all := wg_t (i := 50) (by decide +kernel) (by decide +kernel)
theorem mw_t52 : (Jvm.Cond.laysFinal "FourWords" "FourWords" "signedRow" "[Z") ∈ wg_all := wg_t (i := 52) (by decide +kernel) (by decide +kernel)
theorem mw_t54 : (Jvm.Cond.laysFinal "FourWords" "FourWords" "line" "LFourWords$Line;") ∈ wg_all := wg_t (i := 54) (by decide +kernel) (by decide +kernel)
theorem mw_t56 : (Jvm.Cond.lays "FourWords" "FourWords" "size" "I") ∈ wg_all := wg_t (i := 56) (by decide +kernel) (by decide +kernel)
theorem mw_t59 : (Jvm.Cond.methodLink "FourWordsLaw" (126 : Nat) ({ cls := "FourWords", name := "count", desc := "(I)I" } : Jvm.MethodName)) ∈ wg_all := wg_t (i := 59) (by decide +kernel) (by decide +kernel)
theorem mw_t60 : (Jvm.Cond.instanceMethod ({ cls := "FourWords", name := "count", desc := "(I)I" } : Jvm.MethodName)) ∈ wg_all := wg_t (i := 60) (by decide +kernel) (by decide +kernel)
theorem mw_t61 : (Jvm.Cond.selects "FourWords" ({ cls := "FourWords", name := "count", desc := "(I)I" } : Jvm.MethodName) ({ cls := "FourWords", name := "count", desc := "(I)I" } : Jvm.MethodName)) ∈ wg_all := wg_t (i := 61) (by decide +kernel) (by decide +kernel)
theorem mw_t62 : (Jvm.Cond.code ({ cls := "FourWords", name := "count", desc := "(I)I" } : Jvm.MethodName) prog_1_method_16_code (2 : Nat) (Option.some Jvm.ClassFile.FieldType.int)) ∈ wg_all := wg_t (i := 62) (by decide +kernel) (by decide +kernel)
theorem mw_t63 : (Jvm.Cond.methodLink "FourWordsLaw" (70 : Nat) ({ cls := "FourWordsLaw", name := "push", desc := "(LFourWords;JJIZ[J)I" } : Jvm.MethodName)) ∈ wg_all := wg_t (i := 63) (by decide +kernel) (by decide +kernel)
theorem mw_t64 : (Jvm.Cond.static ({ cls := "FourWordsLaw", name := "push", desc := "(LFourWords;JJIZ[J)I" } : Jvm.MethodName)) ∈ wg_all := wg_t (i := 64) (by decide +kernel) (by decide +kernel)
theorem mw_t65 : (Jvm.Cond.codeWith ({ cls := "FourWordsLaw", name := "push", desc := "(LFourWords;JJIZ[J)I" } : Jvm.MethodName) method_3_code (9 : Nat) (Option.some Jvm.ClassFile.FieldType.int) [((0 : Nat), (15 : Nat), (18 : Nat), (13 : Nat)), ((0 : Nat), (15 : Nat), (22 : Nat), (15 : Nat))]) ∈ wg_all := wg_t (i := 65) (by decide +kernel) (by decide +kernel)
theorem mw_t66 : (Jvm.Cond.classLink "FourWordsLaw" (13 : Nat) "java/lang/IllegalArgumentException") ∈ wg_all := wg_t (i := 66) (by decide +kernel) (by decide +kernel)
theorem mw_t67 : (Jvm.Cond.classLink "FourWordsLaw" (15 : Nat) "java/lang/IllegalStateException") ∈ wg_all := wg_t (i := 67) (by decide +kernel) (by decide +kernel)
theorem mw_t68 : (Jvm.Cond.methodLink "FourWordsLaw" (7 : Nat) ({ cls := "FourWords", name := "push", desc := "(JJIZ)I" } : Jvm.MethodName)) ∈ wg_all := wg_t (i := 68) (by decide +kernel) (by decide +kernel)
theorem mw_t69 : (Jvm.Cond.instanceMethod ({ cls := "FourWords", name := "push", desc := "(JJIZ)I" } : Jvm.MethodName)) ∈ wg_all := wg_t (i := 69) (by decide +kernel) (by decide +kernel)
theorem mw_t70 : (Jvm.Cond.selects "FourWords" ({ cls := "FourWords", name := "push", desc := "(JJIZ)I" } : Jvm.MethodName) ({ cls := "FourWords", name := "push", desc := "(JJIZ)I" } : Jvm.MethodName)) ∈ wg_all := wg_t (i := 70) (by decide +kernel) (by decide +kernel)
theorem mw_t71 : (Jvm.Cond.code ({ cls := "FourWords", name := "push", desc := "(JJIZ)I" } : Jvm.MethodName) prog_1_method_2_code (7 : Nat) (Option.some Jvm.ClassFile.FieldType.int)) ∈ wg_all := wg_t (i := 71) (by decide +kernel) (by decide +kernel)
theorem mw_t72 : (Jvm.Cond.methodLink "FourWords" (35 : Nat) ({ cls := "FourWords", name := "demandRange", desc := "(III)V" } : Jvm.MethodName)) ∈ wg_all := wg_t (i := 72) (by decide +kernel) (by decide +kernel)
theorem mw_t73 : (Jvm.Cond.static ({ cls := "FourWords", name := "demandRange", desc := "(III)V" } : Jvm.MethodName)) ∈ wg_all := wg_t (i := 73) (by decide +kernel) (by decide +kernel)
theorem mw_t74 : (Jvm.Cond.code ({ cls := "FourWords", name := "demandRange", desc := "(III)V" } : Jvm.MethodName) prog_1_method_17_code (3 : Nat) (Option.none : Option Jvm.ClassFile.FieldType)) ∈ wg_all := wg_t (i := 74) (by decide +kernel) (by decide +kernel)
theorem mw_t75 : (Jvm.Cond.classLink "FourWords" (140 : Nat) "java/lang/IllegalArgumentException") ∈ wg_all := wg_t (i := 75) (by decide +kernel) (by decide +kernel)
theorem mw_t76 : (Jvm.Cond.instantiable "java/lang/IllegalArgumentException" (6 : Nat)) ∈ wg_all := wg_t (i := 76) (by decide +kernel) (by decide +kernel)
theorem mw_t84 : (Jvm.Cond.selects "java/lang/IllegalArgumentException" ({ cls := "java/lang/Throwable", name := "fillInStackTrace", desc := "(I)Ljava/lang/Throwable;" } : Jvm.MethodName) ({ cls := "java/lang/Throwable", name := "fillInStackTrace", desc := "(I)Ljava/lang/Throwable;" } : Jvm.MethodName)) ∈ wg_all := wg_t (i := 84) (by decide +kernel) (by decide +kernel)
theorem mw_t85 : (Jvm.Cond.selects "java/lang/IllegalArgumentException" ({ cls := "java/lang/Throwable", name := "fillInStackTrace", desc := "()Ljava/lang/Throwable;" } : Jvm.MethodName) ({ cls := "java/lang/Throwable", name := "fillInStackTrace", desc := "()Ljava/lang/Throwable;" } : Jvm.MethodName)) ∈ wg_all := wg_t (i := 85) (by decide +kernel) (by decide +kernel)
theorem mw_t98 : (Jvm.Cond.instanceMethod ({ cls := "java/lang/Throwable", name := "<init>", desc := "()V" } : Jvm.MethodName)) ∈ wg_all := wg_t (i := 98) (by decide +kernel) (by decide +kernel)
theorem mw_t99 : (Jvm.Cond.code ({ cls := "java/lang/Throwable", name := "<init>", desc := "()V" } : Jvm.MethodName) prog_14_method_1_code (1 : Nat) (Option.none : Option Jvm.ClassFile.FieldType)) ∈ wg_all := wg_t (i := 99) (by decide +kernel) (by decide +kernel)
theorem mw_t100 : (Jvm.Cond.methodLink "java/lang/Throwable" (1 : Nat) ({ cls := "java/lang/Object", name := "<init>", desc := "()V" } : Jvm.MethodName)) ∈ wg_all := wg_t (i := 100) (by decide +kernel) (by decide +kernel)
theorem mw_t101 : (Jvm.Cond.fieldLink "java/lang/Throwable" (13 : Nat) "java/lang/Throwable" "UNASSIGNED_STACK" "[Ljava/lang/StackTraceElement;") ∈ wg_all := wg_t (i := 101) (by decide +kernel) (by decide +kernel)
theorem mw_t103 : (Jvm.Cond.fieldLink "java/lang/Throwable" (20 : Nat) "java/lang/Throwable" "SUPPRESSED_SENTINEL" "Ljava/util/List;") ∈ wg_all := wg_t (i := 103) (by decide +kernel) (by decide +kernel)
theorem mw_t105 : (Jvm.Cond.methodLink "java/lang/Throwable" (27 : Nat) ({ cls := "java/lang/Throwable", name := "fillInStackTrace", desc := "()Ljava/lang/Throwable;" } : Jvm.MethodName)) ∈ wg_all := wg_t (i := 105) (by decide +kernel) (by decide +kernel)
theorem mw_t106 : (Jvm.Cond.instanceMethod ({ cls := "java/lang/Throwable", name := "fillInStackTrace", desc := "()Ljava/lang/Throwable;" } : Jvm.MethodName)) ∈ wg_all := wg_t (i := 106) (by decide +kernel) (by decide +kernel)
theorem mw_t108 : (Jvm.Cond.selects "java/lang/IllegalStateException" ({ cls := "java/lang/Throwable", name := "fillInStackTrace", desc := "()Ljava/lang/Throwable;" } : Jvm.MethodName) ({ cls := "java/lang/Throwable", name := "fillInStackTrace", desc := "()Ljava/lang/Throwable;" } : Jvm.MethodName)) ∈ wg_all := wg_t (i := 108) (by decide +kernel) (by decide +kernel)
theorem mw_t109 : (Jvm.Cond.selects "java/lang/IndexOutOfBoundsException" ({ cls := "java/lang/Throwable", name := "fillInStackTrace", desc := "()Ljava/lang/Throwable;" } : Jvm.MethodName) ({ cls := "java/lang/Throwable", name := "fillInStackTrace", desc := "()Ljava/lang/Throwable;" } : Jvm.MethodName)) ∈ wg_all := wg_t (i := 109) (by decide +kernel) (by decide +kernel)
theorem mw_t110 : (Jvm.Cond.codeSync ({ cls := "java/lang/Throwable", name := "fillInStackTrace", desc := "()Ljava/lang/Throwable;" } : Jvm.MethodName) prog_14_method_18_code (1 : Nat) (Option.some (Jvm.ClassFile.FieldType.object "java/lang/Throwable"))) ∈ wg_all := wg_t (i := 110) (by decide +kernel) (by decide +kernel)
theorem mw_t111 : (Jvm.Cond.methodLink "java/lang/Throwable" (202 : Nat) ({ cls := "java/lang/Throwable", name := "fillInStackTrace", desc := "(I)Ljava/lang/Throwable;" } : Jvm.MethodName)) ∈ wg_all := wg_t (i := 111) (by decide +kernel) (by decide +kernel)
theorem mw_t113 : (Jvm.Cond.instanceMethod ({ cls := "java/lang/Throwable", name := "fillInStackTrace", desc := "(I)Ljava/lang/Throwable;" } : Jvm.MethodName)) ∈ wg_all := wg_t (i := 113) (by decide +kernel) (by decide +kernel)
theorem mw_t114 : (Jvm.Cond.instantiable "java/lang/Throwable" (6 : Nat)) ∈ wg_all := wg_t (i := 114) (by decide +kernel) (by decide +kernel)
theorem mw_t117 : (Jvm.Cond.methodLink "FourWords" (144 : Nat) ({ cls := "java/lang/IllegalArgumentException", name := "<init>", desc := "(Ljava/lang/String;)V" } : Jvm.MethodName)) ∈ wg_all := wg_t (i := 117) (by decide +kernel) (by decide +kernel)
theorem mw_t118 : (Jvm.Cond.instanceMethod ({ cls := "java/lang/IllegalArgumentException", name := "<init>", desc := "(Ljava/lang/String;)V" } : Jvm.MethodName)) ∈ wg_all := wg_t (i := 118) (by decide +kernel) (by decide +kernel)
theorem mw_t119 : (Jvm.Cond.code ({ cls := "java/lang/IllegalArgumentException", name := "<init>", desc := "(Ljava/lang/String;)V" } : Jvm.MethodName) prog_7_method_2_code (2 : Nat) (Option.none : Option Jvm.ClassFile.FieldType)) ∈ wg_all := wg_t (i := 119) (by decide +kernel) (by decide +kernel)
theorem mw_t120 : (Jvm.Cond.methodLink "java/lang/IllegalArgumentException" (7 : Nat) ({ cls := "java/lang/RuntimeException", name := "<init>", desc := "(Ljava/lang/String;)V" } : Jvm.MethodName)) ∈ wg_all := wg_t (i := 120) (by decide +kernel) (by decide +kernel)
theorem mw_t121 : (Jvm.Cond.instanceMethod ({ cls := "java/lang/RuntimeException", name := "<init>", desc := "(Ljava/lang/String;)V" } : Jvm.MethodName)) ∈ wg_all := wg_t (i := 121) (by decide +kernel) (by decide +kernel)
theorem mw_t122 : (Jvm.Cond.code ({ cls := "java/lang/RuntimeException", name := "<init>", desc := "(Ljava/lang/String;)V" } : Jvm.MethodName) prog_12_method_2_code (2 : Nat) (Option.none : Option Jvm.ClassFile.FieldType)) ∈ wg_all := wg_t (i := 122) (by decide +kernel) (by decide +kernel)
theorem mw_t123 : (Jvm.Cond.methodLink "java/lang/RuntimeException" (7 : Nat) ({ cls := "java/lang/Exception", name := "<init>", desc := "(Ljava/lang/String;)V" } : Jvm.MethodName)) ∈ wg_all := wg_t (i := 123) (by decide +kernel) (by decide +kernel)
theorem mw_t124 : (Jvm.Cond.instanceMethod ({ cls := "java/lang/Exception", name := "<init>", desc := "(Ljava/lang/String;)V" } : Jvm.MethodName)) ∈ wg_all := wg_t (i := 124) (by decide +kernel) (by decide +kernel)
theorem mw_t125 : (Jvm.Cond.code ({ cls := "java/lang/Exception", name := "<init>", desc := "(Ljava/lang/String;)V" } : Jvm.MethodName) prog_6_method_2_code (2 : Nat) (Option.none : Option Jvm.ClassFile.FieldType)) ∈ wg_all := wg_t (i := 125) (by decide +kernel) (by decide +kernel)
theorem mw_t126 : (Jvm.Cond.methodLink "java/lang/Exception" (7 : Nat) ({ cls := "java/lang/Throwable", name := "<init>", desc := "(Ljava/lang/String;)V" } : Jvm.MethodName)) ∈ wg_all := wg_t (i := 126) (by decide +kernel) (by decide +kernel)
theorem mw_t127 : (Jvm.Cond.instanceMethod ({ cls := "java/lang/Throwable", name := "<init>", desc := "(Ljava/lang/String;)V" } : Jvm.MethodName)) ∈ wg_all := wg_t (i := 127) (by decide +kernel) (by decide +kernel)
theorem mw_t128 : (Jvm.Cond.code ({ cls := "java/lang/Throwable", name := "<init>", desc := "(Ljava/lang/String;)V" } : Jvm.MethodName) prog_14_method_2_code (2 : Nat) (Option.none : Option Jvm.ClassFile.FieldType)) ∈ wg_all := wg_t (i := 128) (by decide +kernel) (by decide +kernel)
theorem mw_t129 : (Jvm.Cond.fieldLink "java/lang/Throwable" (198 : Nat) "java/lang/Throwable" "backtrace" "Ljava/lang/Object;") ∈ wg_all := wg_t (i := 129) (by decide +kernel) (by decide +kernel)
theorem mw_t130 : (Jvm.Cond.fieldLink "java/lang/Throwable" (31 : Nat) "java/lang/Throwable" "detailMessage" "Ljava/lang/String;") ∈ wg_all := wg_t (i := 130) (by decide +kernel) (by decide +kernel)
theorem mw_t131 : (Jvm.Cond.fieldLink "java/lang/Throwable" (7 : Nat) "java/lang/Throwable" "cause" "Ljava/lang/Throwable;") ∈ wg_all := wg_t (i := 131) (by decide +kernel) (by decide +kernel)
theorem mw_t132 : (Jvm.Cond.fieldLink "java/lang/Throwable" (17 : Nat) "java/lang/Throwable" "stackTrace" "[Ljava/lang/StackTraceElement;") ∈ wg_all := wg_t (i := 132) (by decide +kernel) (by decide +kernel)
theorem mw_t133 : (Jvm.Cond.fieldLink "java/lang/Throwable" (24 : Nat) "java/lang/Throwable" "suppressedExceptions" "Ljava/util/List;") ∈ wg_all := wg_t (i := 133) (by decide +kernel) (by decide +kernel)
theorem mw_t142 : (Jvm.Cond.methodLink "FourWords" (39 : Nat) ({ cls := "FourWords", name := "demandRoom", desc := "()V" } : Jvm.MethodName)) ∈ wg_all := wg_t (i := 142) (by decide +kernel) (by decide +kernel)
theorem mw_t144 : (Jvm.Cond.instanceMethod ({ cls := "FourWords", name := "demandRoom", desc := "()V" } : Jvm.MethodName)) ∈ wg_all := wg_t (i := 144) (by decide +kernel) (by decide +kernel)
theorem mw_t145 : (Jvm.Cond.code ({ cls := "FourWords", name := "demandRoom", desc := "()V" } : Jvm.MethodName) prog_1_method_20_code (1 : Nat) (Option.none : Option Jvm.ClassFile.FieldType)) ∈ wg_all := wg_t (i := 145) (by decide +kernel) (by decide +kernel)
theorem mw_t146 : (Jvm.Cond.classLink "FourWords" (145 : Nat) "java/lang/IllegalStateException") ∈ wg_all := wg_t (i := 146) (by decide +kernel) (by decide +kernel)
theorem mw_t147 : (Jvm.Cond.instantiable "java/lang/IllegalStateException" (6 : Nat)) ∈ wg_all := wg_t (i := 147) (by decide +kernel) (by decide +kernel)
theorem mw_t149 : (Jvm.Cond.selects "java/lang/IllegalStateException" ({ cls := "java/lang/Throwable", name := "fillInStackTrace", desc := "(I)Ljava/lang/Throwable;" } : Jvm.MethodName) ({ cls := "java/lang/Throwable", name := "fillInStackTrace", desc := "(I)Ljava/lang/Throwable;" } : Jvm.MethodName)) ∈ wg_all := wg_t (i := 149) (by decide +kernel) (by decide +kernel)
theorem mw_t156 : (Jvm.Cond.methodLink "FourWords" (149 : Nat) ({ cls := "java/lang/IllegalStateException", name := "<init>", desc := "(Ljava/lang/String;)V" } : Jvm.MethodName)) ∈ wg_all := wg_t (i := 156) (by decide +kernel) (by decide +kernel)
theorem mw_t157 : (Jvm.Cond.instanceMethod ({ cls := "java/lang/IllegalStateException", name := "<init>", desc := "(Ljava/lang/String;)V" } : Jvm.MethodName)) ∈ wg_all := wg_t (i := 157) (by decide +kernel) (by decide +kernel)
theorem mw_t158 : (Jvm.Cond.code ({ cls := "java/lang/IllegalStateException", name := "<init>", desc := "(Ljava/lang/String;)V" } : Jvm.MethodName) prog_8_method_2_code (2 : Nat) (Option.none : Option Jvm.ClassFile.FieldType)) ∈ wg_all := wg_t (i := 158) (by decide +kernel) (by decide +kernel)
theorem mw_t159 : (Jvm.Cond.methodLink "java/lang/IllegalStateException" (7 : Nat) ({ cls := "java/lang/RuntimeException", name := "<init>", desc := "(Ljava/lang/String;)V" } : Jvm.MethodName)) ∈ wg_all := wg_t (i := 159) (by decide +kernel) (by decide +kernel)
theorem mw_t162 : (Jvm.Cond.methodLink "FourWords" (42 : Nat) ({ cls := "FourWords", name := "setValue", desc := "(IJJIZ)V" } : Jvm.MethodName)) ∈ wg_all := wg_t (i := 162) (by decide +kernel) (by decide +kernel)
theorem mw_t164 : (Jvm.Cond.instanceMethod ({ cls := "FourWords", name := "setValue", desc := "(IJJIZ)V" } : Jvm.MethodName)) ∈ wg_all := wg_t (i := 164) (by decide +kernel) (by decide +kernel)
theorem mw_t165 : (Jvm.Cond.code ({ cls := "FourWords", name := "setValue", desc := "(IJJIZ)V" } : Jvm.MethodName) prog_1_method_21_code (8 : Nat) (Option.none : Option Jvm.ClassFile.FieldType)) ∈ wg_all := wg_t (i := 165) (by decide +kernel) (by decide +kernel)
theorem mw_t166 : (Jvm.Cond.methodLink "FourWords" (154 : Nat) ({ cls := "FourWords", name := "setBits", desc := "(IJJ)V" } : Jvm.MethodName)) ∈ wg_all := wg_t (i := 166) (by decide +kernel) (by decide +kernel)
theorem mw_t168 : (Jvm.Cond.instanceMethod ({ cls := "FourWords", name := "setBits", desc := "(IJJ)V" } : Jvm.MethodName)) ∈ wg_all := wg_t (i := 168) (by decide +kernel) (by decide +kernel)
theorem mw_t169 : (Jvm.Cond.code ({ cls := "FourWords", name := "setBits", desc := "(IJJ)V" } : Jvm.MethodName) prog_1_method_22_code (8 : Nat) (Option.none : Option Jvm.ClassFile.FieldType)) ∈ wg_all := wg_t (i := 169) (by decide +kernel) (by decide +kernel)
theorem mw_t171 : (Jvm.Cond.static ({ cls := "FourWords$Bits", name := "lowest", desc := "(I)J" } : Jvm.MethodName)) ∈ wg_all := wg_t (i := 171) (by decide +kernel) (by decide +kernel)
theorem mw_t172 : (Jvm.Cond.code ({ cls := "FourWords$Bits", name := "lowest", desc := "(I)J" } : Jvm.MethodName) prog_2_method_2_code (1 : Nat) (Option.some Jvm.ClassFile.FieldType.long)) ∈ wg_all := wg_t (i := 172) (by decide +kernel) (by decide +kernel)
theorem mw_t173 : (Jvm.Cond.constantLong "FourWords$Bits" (7 : Nat) (-1 : Int64)) ∈ wg_all := wg_t (i := 173) (by decide +kernel) (by decide +kernel)
theorem mw_t174 : (Jvm.Cond.methodLink "FourWordsLaw" (80 : Nat) ({ cls := "FourWordsLaw", name := "two", desc := "(LFourWords;I)I" } : Jvm.MethodName)) ∈ wg_all := wg_t (i := 174) (by decide +kernel) (by decide +kernel)
theorem mw_t175 : (Jvm.Cond.static ({ cls := "FourWordsLaw", name := "two", desc := "(LFourWords;I)I" } : Jvm.MethodName)) ∈ wg_all := wg_t (i := 175) (by decide +kernel) (by decide +kernel)
theorem mw_t176 : (Jvm.Cond.codeWith ({ cls := "FourWordsLaw", name := "two", desc := "(LFourWords;I)I" } : Jvm.MethodName) method_4_code (3 : Nat) (Option.some Jvm.ClassFile.FieldType.int) [((0 : Nat), (5 : Nat), (8 : Nat), (13 : Nat)), ((0 : Nat), (5 : Nat), (11 : Nat), (15 : Nat))]) ∈ wg_all := wg_t (i := 176) (by decide +kernel) (by decide +kernel)
theorem mw_t177 : (Jvm.Cond.methodLink "FourWordsLaw" (17 : Nat) ({ cls := "FourWords", name := "two", desc := "(I)V" } : Jvm.MethodName)) ∈ wg_all := wg_t (i := 177) (by decide +kernel) (by decide +kernel)
theorem mw_t178 : (Jvm.Cond.instanceMethod ({ cls := "FourWords", name := "two", desc := "(I)V" } : Jvm.MethodName)) ∈ wg_all := wg_t (i := 178) (by decide +kernel) (by decide +kernel)
theorem mw_t179 : (Jvm.Cond.selects "FourWords" ({ cls := "FourWords", name := "two", desc := "(I)V" } : Jvm.MethodName) ({ cls := "FourWords", name := "two", desc := "(I)V" } : Jvm.MethodName)) ∈ wg_all := wg_t (i := 179) (by decide +kernel) (by decide +kernel)
theorem mw_t180 : (Jvm.Cond.code ({ cls := "FourWords", name := "two", desc := "(I)V" } : Jvm.MethodName) prog_1_method_3_code (4 : Nat) (Option.none : Option Jvm.ClassFile.FieldType)) ∈ wg_all := wg_t (i := 180) (by decide +kernel) (by decide +kernel)
theorem mw_t181 : (Jvm.Cond.methodLink "FourWords" (46 : Nat) ({ cls := "FourWords", name := "demandValues", desc := "(I)V" } : Jvm.MethodName)) ∈ wg_all := wg_t (i := 181) (by decide +kernel) (by decide +kernel)
theorem mw_t183 : (Jvm.Cond.instanceMethod ({ cls := "FourWords", name := "demandValues", desc := "(I)V" } : Jvm.MethodName)) ∈ wg_all := wg_t (i := 183) (by decide +kernel) (by decide +kernel)
theorem mw_t184 : (Jvm.Cond.code ({ cls := "FourWords", name := "demandValues", desc := "(I)V" } : Jvm.MethodName) prog_1_method_18_code (2 : Nat) (Option.none : Option Jvm.ClassFile.FieldType)) ∈ wg_all := wg_t (i := 184) (by decide +kernel) (by decide +kernel)
theorem mw_t186 : (Jvm.Cond.methodLink "FourWords" (50 : Nat) ({ cls := "FourWords", name := "bringTogether", desc := "(II)V" } : Jvm.MethodName)) ∈ wg_all := wg_t (i := 186) (by decide +kernel) (by decide +kernel)
theorem mw_t188 : (Jvm.Cond.instanceMethod ({ cls := "FourWords", name := "bringTogether", desc := "(II)V" } : Jvm.MethodName)) ∈ wg_all := wg_t (i := 188) (by decide +kernel) (by decide +kernel)
theorem mw_t189 : (Jvm.Cond.code ({ cls := "FourWords", name := "bringTogether", desc := "(II)V" } : Jvm.MethodName) prog_1_method_28_code (5 : Nat) (Option.none : Option Jvm.ClassFile.FieldType)) ∈ wg_all := wg_t (i := 189) (by decide +kernel) (by decide +kernel)
theorem mw_t190 : (Jvm.Cond.methodLink "FourWords" (168 : Nat) ({ cls := "java/lang/Math", name := "max", desc := "(II)I" } : Jvm.MethodName)) ∈ wg_all := wg_t (i := 190) (by decide +kernel) (by decide +kernel)
theorem mw_t191 : (Jvm.Cond.static ({ cls := "java/lang/Math", name := "max", desc := "(II)I" } : Jvm.MethodName)) ∈ wg_all := wg_t (i := 191) (by decide +kernel) (by decide +kernel)
theorem mw_t192 : (Jvm.Cond.code ({ cls := "java/lang/Math", name := "max", desc := "(II)I" } : Jvm.MethodName) prog_11_method_65_code (2 : Nat) (Option.some Jvm.ClassFile.FieldType.int)) ∈ wg_all := wg_t (i := 192) (by decide +kernel) (by decide +kernel)
theorem mw_t193 : (Jvm.Cond.methodLink "FourWords" (109 : Nat) ({ cls := "FourWords", name := "setWidth", desc := "(IIZ)V" } : Jvm.MethodName)) ∈ wg_all := wg_t (i := 193) (by decide +kernel) (by decide +kernel)
theorem mw_t195 : (Jvm.Cond.instanceMethod ({ cls := "FourWords", name := "setWidth", desc := "(IIZ)V" } : Jvm.MethodName)) ∈ wg_all := wg_t (i := 195) (by decide +kernel) (by decide +kernel)
theorem mw_t196 : (Jvm.Cond.code ({ cls := "FourWords", name := "setWidth", desc := "(IIZ)V" } : Jvm.MethodName) prog_1_method_27_code (8 : Nat) (Option.none : Option Jvm.ClassFile.FieldType)) ∈ wg_all := wg_t (i := 196) (by decide +kernel) (by decide +kernel)
theorem mw_t198 : (Jvm.Cond.static ({ cls := "FourWords$Bits", name := "withHighestInFront", desc := "(JI)J" } : Jvm.MethodName)) ∈ wg_all := wg_t (i := 198) (by decide +kernel) (by decide +kernel)
theorem mw_t199 : (Jvm.Cond.code ({ cls := "FourWords$Bits", name := "withHighestInFront", desc := "(JI)J" } : Jvm.MethodName) prog_2_method_3_code (3 : Nat) (Option.some Jvm.ClassFile.FieldType.long)) ∈ wg_all := wg_t (i := 199) (by decide +kernel) (by decide +kernel)
theorem mw_t200 : (Jvm.Cond.methodLink "FourWords" (54 : Nat) ({ cls := "FourWords", name := "reckon", desc := "(III)V" } : Jvm.MethodName)) ∈ wg_all := wg_t (i := 200) (by decide +kernel) (by decide +kernel)
theorem mw_t202 : (Jvm.Cond.instanceMethod ({ cls := "FourWords", name := "reckon", desc := "(III)V" } : Jvm.MethodName)) ∈ wg_all := wg_t (i := 202) (by decide +kernel) (by decide +kernel)
theorem mw_t203 : (Jvm.Cond.code ({ cls := "FourWords", name := "reckon", desc := "(III)V" } : Jvm.MethodName) prog_1_method_32_code (11 : Nat) (Option.none : Option Jvm.ClassFile.FieldType)) ∈ wg_all := wg_t (i := 203) (by decide +kernel) (by decide +kernel)
theorem mw_t204 : (Jvm.Cond.methodLink "FourWords" (106 : Nat) ({ cls := "FourWords", name := "number", desc := "(I)J" } : Jvm.MethodName)) ∈ wg_all := wg_t (i := 204) (by decide +kernel) (by decide +kernel)
theorem mw_t206 : (Jvm.Cond.instanceMethod ({ cls := "FourWords", name := "number", desc := "(I)J" } : Jvm.MethodName)) ∈ wg_all := wg_t (i := 206) (by decide +kernel) (by decide +kernel)
theorem mw_t207 : (Jvm.Cond.code ({ cls := "FourWords", name := "number", desc := "(I)J" } : Jvm.MethodName) prog_1_method_31_code (2 : Nat) (Option.some Jvm.ClassFile.FieldType.long)) ∈ wg_all := wg_t (i := 207) (by decide +kernel) (by decide +kernel)
theorem mw_t208 : (Jvm.Cond.methodLink "FourWords" (67 : Nat) ({ cls := "FourWords", name := "fillWithX", desc := "(I)V" } : Jvm.MethodName)) ∈ wg_all := wg_t (i := 208) (by decide +kernel) (by decide +kernel)
theorem mw_t210 : (Jvm.Cond.instanceMethod ({ cls := "FourWords", name := "fillWithX", desc := "(I)V" } : Jvm.MethodName)) ∈ wg_all := wg_t (i := 210) (by decide +kernel) (by decide +kernel)
theorem mw_t211 : (Jvm.Cond.code ({ cls := "FourWords", name := "fillWithX", desc := "(I)V" } : Jvm.MethodName) prog_1_method_25_code (2 : Nat) (Option.none : Option Jvm.ClassFile.FieldType)) ∈ wg_all := wg_t (i := 211) (by decide +kernel) (by decide +kernel)
theorem mw_t212 : (Jvm.Cond.constantLong "FourWords" (162 : Nat) (-1 : Int64)) ∈ wg_all := wg_t (i := 212) (by decide +kernel) (by decide +kernel)
theorem mw_t214 : (Jvm.Cond.static ({ cls := "FourWords$Bits", name := "quotient", desc := "(JJ)J" } : Jvm.MethodName)) ∈ wg_all := wg_t (i := 214) (by decide +kernel) (by decide +kernel)
theorem mw_t215 : (Jvm.Cond.code ({ cls := "FourWords$Bits", name := "quotient", desc := "(JJ)J" } : Jvm.MethodName) prog_2_method_5_code (6 : Nat) (Option.some Jvm.ClassFile.FieldType.long)) ∈ wg_all := wg_t (i := 215) (by decide +kernel) (by decide +kernel)
theorem mw_t216 : (Jvm.Cond.methodLink "FourWords$Bits" (13 : Nat) ({ cls := "FourWords$Bits", name := "below", desc := "(JJ)Z" } : Jvm.MethodName)) ∈ wg_all := wg_t (i := 216) (by decide +kernel) (by decide +kernel)
theorem mw_t217 : (Jvm.Cond.static ({ cls := "FourWords$Bits", name := "below", desc := "(JJ)Z" } : Jvm.MethodName)) ∈ wg_all := wg_t (i := 217) (by decide +kernel) (by decide +kernel)
theorem mw_t218 : (Jvm.Cond.code ({ cls := "FourWords$Bits", name := "below", desc := "(JJ)Z" } : Jvm.MethodName) prog_2_method_4_code (4 : Nat) (Option.some Jvm.ClassFile.FieldType.boolean)) ∈ wg_all := wg_t (i := 218) (by decide +kernel) (by decide +kernel)
theorem mw_t219 : (Jvm.Cond.constantLong "FourWords$Bits" (11 : Nat) (-9223372036854775808 : Int64)) ∈ wg_all := wg_t (i := 219) (by decide +kernel) (by decide +kernel)
theorem mw_t220 : (Jvm.Cond.methodLink "FourWords" (57 : Nat) ({ cls := "FourWords", name := "combine", desc := "(III)V" } : Jvm.MethodName)) ∈ wg_all := wg_t (i := 220) (by decide +kernel) (by decide +kernel)
theorem mw_t222 : (Jvm.Cond.instanceMethod ({ cls := "FourWords", name := "combine", desc := "(III)V" } : Jvm.MethodName)) ∈ wg_all := wg_t (i := 222) (by decide +kernel) (by decide +kernel)
theorem mw_t223 : (Jvm.Cond.code ({ cls := "FourWords", name := "combine", desc := "(III)V" } : Jvm.MethodName) prog_1_method_33_code (16 : Nat) (Option.none : Option Jvm.ClassFile.FieldType)) ∈ wg_all := wg_t (i := 223) (by decide +kernel) (by decide +kernel)
theorem mw_t224 : (Jvm.Cond.methodLink "FourWords" (85 : Nat) ({ cls := "FourWords", name := "sureOnes", desc := "(I)J" } : Jvm.MethodName)) ∈ wg_all := wg_t (i := 224) (by decide +kernel) (by decide +kernel)
theorem mw_t226 : (Jvm.Cond.instanceMethod ({ cls := "FourWords", name := "sureOnes", desc := "(I)J" } : Jvm.MethodName)) ∈ wg_all := wg_t (i := 226) (by decide +kernel) (by decide +kernel)
theorem mw_t227 : (Jvm.Cond.code ({ cls := "FourWords", name := "sureOnes", desc := "(I)J" } : Jvm.MethodName) prog_1_method_29_code (2 : Nat) (Option.some Jvm.ClassFile.FieldType.long)) ∈ wg_all := wg_t (i := 227) (by decide +kernel) (by decide +kernel)
theorem mw_t228 : (Jvm.Cond.methodLink "FourWords" (81 : Nat) ({ cls := "FourWords", name := "sureZeros", desc := "(I)J" } : Jvm.MethodName)) ∈ wg_all := wg_t (i := 228) (by decide +kernel) (by decide +kernel)
theorem mw_t230 : (Jvm.Cond.instanceMethod ({ cls := "FourWords", name := "sureZeros", desc := "(I)J" } : Jvm.MethodName)) ∈ wg_all := wg_t (i := 230) (by decide +kernel) (by decide +kernel)
theorem mw_t231 : (Jvm.Cond.code ({ cls := "FourWords", name := "sureZeros", desc := "(I)J" } : Jvm.MethodName) prog_1_method_30_code (2 : Nat) (Option.some Jvm.ClassFile.FieldType.long)) ∈ wg_all := wg_t (i := 231) (by decide +kernel) (by decide +kernel)
theorem mw_t232 : (Jvm.Cond.methodLink "FourWords" (88 : Nat) ({ cls := "FourWords", name := "setSure", desc := "(IJJ)V" } : Jvm.MethodName)) ∈ wg_all := wg_t (i := 232) (by decide +kernel) (by decide +kernel)
theorem mw_t234 : (Jvm.Cond.instanceMethod ({ cls := "FourWords", name := "setSure", desc := "(IJJ)V" } : Jvm.MethodName)) ∈ wg_all := wg_t (i := 234) (by decide +kernel) (by decide +kernel)
theorem mw_t235 : (Jvm.Cond.code ({ cls := "FourWords", name := "setSure", desc := "(IJJ)V" } : Jvm.MethodName) prog_1_method_23_code (6 : Nat) (Option.none : Option Jvm.ClassFile.FieldType)) ∈ wg_all := wg_t (i := 235) (by decide +kernel) (by decide +kernel)
theorem mw_t236 : (Jvm.Cond.methodLink "FourWords" (60 : Nat) ({ cls := "FourWords", name := "compared", desc := "(III)I" } : Jvm.MethodName)) ∈ wg_all := wg_t (i := 236) (by decide +kernel) (by decide +kernel)
theorem mw_t238 : (Jvm.Cond.instanceMethod ({ cls := "FourWords", name := "compared", desc := "(III)I" } : Jvm.MethodName)) ∈ wg_all := wg_t (i := 238) (by decide +kernel) (by decide +kernel)
theorem mw_t239 : (Jvm.Cond.code ({ cls := "FourWords", name := "compared", desc := "(III)I" } : Jvm.MethodName) prog_1_method_34_code (4 : Nat) (Option.some Jvm.ClassFile.FieldType.int)) ∈ wg_all := wg_t (i := 239) (by decide +kernel) (by decide +kernel)
theorem mw_t240 : (Jvm.Cond.methodLink "FourWords" (177 : Nat) ({ cls := "FourWords", name := "equal", desc := "(II)I" } : Jvm.MethodName)) ∈ wg_all := wg_t (i := 240) (by decide +kernel) (by decide +kernel)
theorem mw_t242 : (Jvm.Cond.instanceMethod ({ cls := "FourWords", name := "equal", desc := "(II)I" } : Jvm.MethodName)) ∈ wg_all := wg_t (i := 242) (by decide +kernel) (by decide +kernel)
theorem mw_t243 : (Jvm.Cond.code ({ cls := "FourWords", name := "equal", desc := "(II)I" } : Jvm.MethodName) prog_1_method_35_code (3 : Nat) (Option.some Jvm.ClassFile.FieldType.int)) ∈ wg_all := wg_t (i := 243) (by decide +kernel) (by decide +kernel)
theorem mw_t244 : (Jvm.Cond.methodLink "FourWords" (180 : Nat) ({ cls := "FourWords", name := "opposite", desc := "(I)I" } : Jvm.MethodName)) ∈ wg_all := wg_t (i := 244) (by decide +kernel) (by decide +kernel)
theorem mw_t245 : (Jvm.Cond.static ({ cls := "FourWords", name := "opposite", desc := "(I)I" } : Jvm.MethodName)) ∈ wg_all := wg_t (i := 245) (by decide +kernel) (by decide +kernel)
theorem mw_t246 : (Jvm.Cond.code ({ cls := "FourWords", name := "opposite", desc := "(I)I" } : Jvm.MethodName) prog_1_method_39_code (1 : Nat) (Option.some Jvm.ClassFile.FieldType.int)) ∈ wg_all := wg_t (i := 246) (by decide +kernel) (by decide +kernel)
theorem mw_t247 : (Jvm.Cond.methodLink "FourWords" (183 : Nat) ({ cls := "FourWords", name := "identical", desc := "(II)I" } : Jvm.MethodName)) ∈ wg_all := wg_t (i := 247) (by decide +kernel) (by decide +kernel)
theorem mw_t249 : (Jvm.Cond.instanceMethod ({ cls := "FourWords", name := "identical", desc := "(II)I" } : Jvm.MethodName)) ∈ wg_all := wg_t (i := 249) (by decide +kernel) (by decide +kernel)
theorem mw_t250 : (Jvm.Cond.code ({ cls := "FourWords", name := "identical", desc := "(II)I" } : Jvm.MethodName) prog_1_method_36_code (3 : Nat) (Option.some Jvm.ClassFile.FieldType.int)) ∈ wg_all := wg_t (i := 250) (by decide +kernel) (by decide +kernel)
theorem mw_t251 : (Jvm.Cond.methodLink "FourWords" (186 : Nat) ({ cls := "FourWords", name := "less", desc := "(II)I" } : Jvm.MethodName)) ∈ wg_all := wg_t (i := 251) (by decide +kernel) (by decide +kernel)
theorem mw_t253 : (Jvm.Cond.instanceMethod ({ cls := "FourWords", name := "less", desc := "(II)I" } : Jvm.MethodName)) ∈ wg_all := wg_t (i := 253) (by decide +kernel) (by decide +kernel)
theorem mw_t254 : (Jvm.Cond.code ({ cls := "FourWords", name := "less", desc := "(II)I" } : Jvm.MethodName) prog_1_method_37_code (4 : Nat) (Option.some Jvm.ClassFile.FieldType.int)) ∈ wg_all := wg_t (i := 254) (by decide +kernel) (by decide +kernel)
theorem mw_t256 : (Jvm.Cond.methodLink "FourWords" (96 : Nat) ({ cls := "FourWords", name := "anyOne", desc := "(I)I" } : Jvm.MethodName)) ∈ wg_all := wg_t (i := 256) (by decide +kernel) (by decide +kernel)
theorem mw_t258 : (Jvm.Cond.instanceMethod ({ cls := "FourWords", name := "anyOne", desc := "(I)I" } : Jvm.MethodName)) ∈ wg_all := wg_t (i := 258) (by decide +kernel) (by decide +kernel)
theorem mw_t259 : (Jvm.Cond.code ({ cls := "FourWords", name := "anyOne", desc := "(I)I" } : Jvm.MethodName) prog_1_method_42_code (2 : Nat) (Option.some Jvm.ClassFile.FieldType.int)) ∈ wg_all := wg_t (i := 259) (by decide +kernel) (by decide +kernel)
theorem mw_t260 : (Jvm.Cond.methodLink "FourWords" (189 : Nat) ({ cls := "FourWords", name := "bothTrue", desc := "(II)I" } : Jvm.MethodName)) ∈ wg_all := wg_t (i := 260) (by decide +kernel) (by decide +kernel)
theorem mw_t261 : (Jvm.Cond.static ({ cls := "FourWords", name := "bothTrue", desc := "(II)I" } : Jvm.MethodName)) ∈ wg_all := wg_t (i := 261) (by decide +kernel) (by decide +kernel)
theorem mw_t262 : (Jvm.Cond.code ({ cls := "FourWords", name := "bothTrue", desc := "(II)I" } : Jvm.MethodName) prog_1_method_38_code (2 : Nat) (Option.some Jvm.ClassFile.FieldType.int)) ∈ wg_all := wg_t (i := 262) (by decide +kernel) (by decide +kernel)
theorem mw_t263 : (Jvm.Cond.methodLink "FourWords" (64 : Nat) ({ cls := "FourWords", name := "setTruth", desc := "(II)V" } : Jvm.MethodName)) ∈ wg_all := wg_t (i := 263) (by decide +kernel) (by decide +kernel)
theorem mw_t265 : (Jvm.Cond.instanceMethod ({ cls := "FourWords", name := "setTruth", desc := "(II)V" } : Jvm.MethodName)) ∈ wg_all := wg_t (i := 265) (by decide +kernel) (by decide +kernel)
theorem mw_t266 : (Jvm.Cond.code ({ cls := "FourWords", name := "setTruth", desc := "(II)V" } : Jvm.MethodName) prog_1_method_24_code (3 : Nat) (Option.none : Option Jvm.ClassFile.FieldType)) ∈ wg_all := wg_t (i := 266) (by decide +kernel) (by decide +kernel)
theorem mw_t267 : (Jvm.Cond.methodLink "FourWordsLaw" (84 : Nat) ({ cls := "FourWordsLaw", name := "shift", desc := "(LFourWords;I)I" } : Jvm.MethodName)) ∈ wg_all := wg_t (i := 267) (by decide +kernel) (by decide +kernel)
theorem mw_t268 : (Jvm.Cond.static ({ cls := "FourWordsLaw", name := "shift", desc := "(LFourWords;I)I" } : Jvm.MethodName)) ∈ wg_all := wg_t (i := 268) (by decide +kernel) (by decide +kernel)
theorem mw_t269 : (Jvm.Cond.codeWith ({ cls := "FourWordsLaw", name := "shift", desc := "(LFourWords;I)I" } : Jvm.MethodName) method_5_code (3 : Nat) (Option.some Jvm.ClassFile.FieldType.int) [((0 : Nat), (5 : Nat), (8 : Nat), (13 : Nat)), ((0 : Nat), (5 : Nat), (11 : Nat), (15 : Nat))]) ∈ wg_all := wg_t (i := 269) (by decide +kernel) (by decide +kernel)
theorem mw_t270 : (Jvm.Cond.methodLink "FourWordsLaw" (21 : Nat) ({ cls := "FourWords", name := "shift", desc := "(I)V" } : Jvm.MethodName)) ∈ wg_all := wg_t (i := 270) (by decide +kernel) (by decide +kernel)
theorem mw_t271 : (Jvm.Cond.instanceMethod ({ cls := "FourWords", name := "shift", desc := "(I)V" } : Jvm.MethodName)) ∈ wg_all := wg_t (i := 271) (by decide +kernel) (by decide +kernel)
theorem mw_t272 : (Jvm.Cond.selects "FourWords" ({ cls := "FourWords", name := "shift", desc := "(I)V" } : Jvm.MethodName) ({ cls := "FourWords", name := "shift", desc := "(I)V" } : Jvm.MethodName)) ∈ wg_all := wg_t (i := 272) (by decide +kernel) (by decide +kernel)
theorem mw_t273 : (Jvm.Cond.code ({ cls := "FourWords", name := "shift", desc := "(I)V" } : Jvm.MethodName) prog_1_method_4_code (4 : Nat) (Option.none : Option Jvm.ClassFile.FieldType)) ∈ wg_all := wg_t (i := 273) (by decide +kernel) (by decide +kernel)
theorem mw_t274 : (Jvm.Cond.methodLink "FourWords" (70 : Nat) ({ cls := "FourWords", name := "moveRight", desc := "(IJZ)V" } : Jvm.MethodName)) ∈ wg_all := wg_t (i := 274) (by decide +kernel) (by decide +kernel)
theorem mw_t276 : (Jvm.Cond.instanceMethod ({ cls := "FourWords", name := "moveRight", desc := "(IJZ)V" } : Jvm.MethodName)) ∈ wg_all := wg_t (i := 276) (by decide +kernel) (by decide +kernel)
theorem mw_t277 : (Jvm.Cond.code ({ cls := "FourWords", name := "moveRight", desc := "(IJZ)V" } : Jvm.MethodName) prog_1_method_46_code (7 : Nat) (Option.none : Option Jvm.ClassFile.FieldType)) ∈ wg_all := wg_t (i := 277) (by decide +kernel) (by decide +kernel)
theorem mw_t278 : (Jvm.Cond.constantLong "FourWords" (208 : Nat) (64 : Int64)) ∈ wg_all := wg_t (i := 278) (by decide +kernel) (by decide +kernel)
theorem mw_t279 : (Jvm.Cond.methodLink "FourWords" (74 : Nat) ({ cls := "FourWords", name := "moveLeft", desc := "(IJ)V" } : Jvm.MethodName)) ∈ wg_all := wg_t (i := 279) (by decide +kernel) (by decide +kernel)
theorem mw_t281 : (Jvm.Cond.instanceMethod ({ cls := "FourWords", name := "moveLeft", desc := "(IJ)V" } : Jvm.MethodName)) ∈ wg_all := wg_t (i := 281) (by decide +kernel) (by decide +kernel)
theorem mw_t282 : (Jvm.Cond.code ({ cls := "FourWords", name := "moveLeft", desc := "(IJ)V" } : Jvm.MethodName) prog_1_method_45_code (4 : Nat) (Option.none : Option Jvm.ClassFile.FieldType)) ∈ wg_all := wg_t (i := 282) (by decide +kernel) (by decide +kernel)
theorem mw_t283 : (Jvm.Cond.methodLink "FourWordsLaw" (87 : Nat) ({ cls := "FourWordsLaw", name := "one", desc := "(LFourWords;I)I" } : Jvm.MethodName)) ∈ wg_all := wg_t (i := 283) (by decide +kernel) (by decide +kernel)
theorem mw_t284 : (Jvm.Cond.static ({ cls := "FourWordsLaw", name := "one", desc := "(LFourWords;I)I" } : Jvm.MethodName)) ∈ wg_all := wg_t (i := 284) (by decide +kernel) (by decide +kernel)
theorem mw_t285 : (Jvm.Cond.codeWith ({ cls := "FourWordsLaw", name := "one", desc := "(LFourWords;I)I" } : Jvm.MethodName) method_6_code (3 : Nat) (Option.some Jvm.ClassFile.FieldType.int) [((0 : Nat), (5 : Nat), (8 : Nat), (13 : Nat)), ((0 : Nat), (5 : Nat), (11 : Nat), (15 : Nat))]) ∈ wg_all := wg_t (i := 285) (by decide +kernel) (by decide +kernel)
theorem mw_t286 : (Jvm.Cond.methodLink "FourWordsLaw" (24 : Nat) ({ cls := "FourWords", name := "one", desc := "(I)V" } : Jvm.MethodName)) ∈ wg_all := wg_t (i := 286) (by decide +kernel) (by decide +kernel)
theorem mw_t287 : (Jvm.Cond.instanceMethod ({ cls := "FourWords", name := "one", desc := "(I)V" } : Jvm.MethodName)) ∈ wg_all := wg_t (i := 287) (by decide +kernel) (by decide +kernel)
theorem mw_t288 : (Jvm.Cond.selects "FourWords" ({ cls := "FourWords", name := "one", desc := "(I)V" } : Jvm.MethodName) ({ cls := "FourWords", name := "one", desc := "(I)V" } : Jvm.MethodName)) ∈ wg_all := wg_t (i := 288) (by decide +kernel) (by decide +kernel)
theorem mw_t289 : (Jvm.Cond.code ({ cls := "FourWords", name := "one", desc := "(I)V" } : Jvm.MethodName) prog_1_method_5_code (3 : Nat) (Option.none : Option Jvm.ClassFile.FieldType)) ∈ wg_all := wg_t (i := 289) (by decide +kernel) (by decide +kernel)
theorem mw_t290 : (Jvm.Cond.methodLink "FourWords" (78 : Nat) ({ cls := "FourWords", name := "negate", desc := "(I)V" } : Jvm.MethodName)) ∈ wg_all := wg_t (i := 290) (by decide +kernel) (by decide +kernel)
theorem mw_t292 : (Jvm.Cond.instanceMethod ({ cls := "FourWords", name := "negate", desc := "(I)V" } : Jvm.MethodName)) ∈ wg_all := wg_t (i := 292) (by decide +kernel) (by decide +kernel)
theorem mw_t293 : (Jvm.Cond.code ({ cls := "FourWords", name := "negate", desc := "(I)V" } : Jvm.MethodName) prog_1_method_44_code (2 : Nat) (Option.none : Option Jvm.ClassFile.FieldType)) ∈ wg_all := wg_t (i := 293) (by decide +kernel) (by decide +kernel)
theorem mw_t294 : (Jvm.Cond.methodLink "FourWords" (92 : Nat) ({ cls := "FourWords", name := "reduced", desc := "(II)I" } : Jvm.MethodName)) ∈ wg_all := wg_t (i := 294) (by decide +kernel) (by decide +kernel)
theorem mw_t296 : (Jvm.Cond.instanceMethod ({ cls := "FourWords", name := "reduced", desc := "(II)I" } : Jvm.MethodName)) ∈ wg_all := wg_t (i := 296) (by decide +kernel) (by decide +kernel)
theorem mw_t297 : (Jvm.Cond.code ({ cls := "FourWords", name := "reduced", desc := "(II)I" } : Jvm.MethodName) prog_1_method_40_code (3 : Nat) (Option.some Jvm.ClassFile.FieldType.int)) ∈ wg_all := wg_t (i := 297) (by decide +kernel) (by decide +kernel)
theorem mw_t298 : (Jvm.Cond.methodLink "FourWords" (196 : Nat) ({ cls := "FourWords", name := "allOnes", desc := "(I)I" } : Jvm.MethodName)) ∈ wg_all := wg_t (i := 298) (by decide +kernel) (by decide +kernel)
theorem mw_t300 : (Jvm.Cond.instanceMethod ({ cls := "FourWords", name := "allOnes", desc := "(I)I" } : Jvm.MethodName)) ∈ wg_all := wg_t (i := 300) (by decide +kernel) (by decide +kernel)
theorem mw_t301 : (Jvm.Cond.code ({ cls := "FourWords", name := "allOnes", desc := "(I)I" } : Jvm.MethodName) prog_1_method_41_code (2 : Nat) (Option.some Jvm.ClassFile.FieldType.int)) ∈ wg_all := wg_t (i := 301) (by decide +kernel) (by decide +kernel)
theorem mw_t302 : (Jvm.Cond.methodLink "FourWords" (199 : Nat) ({ cls := "FourWords", name := "oddOnes", desc := "(I)I" } : Jvm.MethodName)) ∈ wg_all := wg_t (i := 302) (by decide +kernel) (by decide +kernel)
theorem mw_t304 : (Jvm.Cond.instanceMethod ({ cls := "FourWords", name := "oddOnes", desc := "(I)I" } : Jvm.MethodName)) ∈ wg_all := wg_t (i := 304) (by decide +kernel) (by decide +kernel)
theorem mw_t305 : (Jvm.Cond.code ({ cls := "FourWords", name := "oddOnes", desc := "(I)I" } : Jvm.MethodName) prog_1_method_43_code (2 : Nat) (Option.some Jvm.ClassFile.FieldType.int)) ∈ wg_all := wg_t (i := 305) (by decide +kernel) (by decide +kernel)
theorem mw_t306 : (Jvm.Cond.methodLink "FourWords" (202 : Nat) ({ cls := "java/lang/Long", name := "bitCount", desc := "(J)I" } : Jvm.MethodName)) ∈ wg_all := wg_t (i := 306) (by decide +kernel) (by decide +kernel)
theorem mw_t307 : (Jvm.Cond.static ({ cls := "java/lang/Long", name := "bitCount", desc := "(J)I" } : Jvm.MethodName)) ∈ wg_all := wg_t (i := 307) (by decide +kernel) (by decide +kernel)
theorem mw_t308 : (Jvm.Cond.code ({ cls := "java/lang/Long", name := "bitCount", desc := "(J)I" } : Jvm.MethodName) prog_10_method_50_code (2 : Nat) (Option.some Jvm.ClassFile.FieldType.int)) ∈ wg_all := wg_t (i := 308) (by decide +kernel) (by decide +kernel)
theorem mw_t309 : (Jvm.Cond.constantLong "java/lang/Long" (314 : Nat) (6148914691236517205 : Int64)) ∈ wg_all := wg_t (i := 309) (by decide +kernel) (by decide +kernel)
theorem mw_t310 : (Jvm.Cond.constantLong "java/lang/Long" (316 : Nat) (3689348814741910323 : Int64)) ∈ wg_all := wg_t (i := 310) (by decide +kernel) (by decide +kernel)
theorem mw_t311 : (Jvm.Cond.constantLong "java/lang/Long" (318 : Nat) (1085102592571150095 : Int64)) ∈ wg_all := wg_t (i := 311) (by decide +kernel) (by decide +kernel)
theorem mw_t312 : (Jvm.Cond.methodLink "FourWordsLaw" (90 : Nat) ({ cls := "FourWordsLaw", name := "choose", desc := "(LFourWords;)I" } : Jvm.MethodName)) ∈ wg_all := wg_t (i := 312) (by decide +kernel) (by decide +kernel)
theorem mw_t313 : (Jvm.Cond.static ({ cls := "FourWordsLaw", name := "choose", desc := "(LFourWords;)I" } : Jvm.MethodName)) ∈ wg_all := wg_t (i := 313) (by decide +kernel) (by decide +kernel)
theorem mw_t314 : (Jvm.Cond.codeWith ({ cls := "FourWordsLaw", name := "choose", desc := "(LFourWords;)I" } : Jvm.MethodName) method_7_code (2 : Nat) (Option.some Jvm.ClassFile.FieldType.int) [((0 : Nat), (4 : Nat), (7 : Nat), (15 : Nat))]) ∈ wg_all := wg_t (i := 314) (by decide +kernel) (by decide +kernel)
theorem mw_t315 : (Jvm.Cond.methodLink "FourWordsLaw" (27 : Nat) ({ cls := "FourWords", name := "choose", desc := "()V" } : Jvm.MethodName)) ∈ wg_all := wg_t (i := 315) (by decide +kernel) (by decide +kernel)
theorem mw_t316 : (Jvm.Cond.instanceMethod ({ cls := "FourWords", name := "choose", desc := "()V" } : Jvm.MethodName)) ∈ wg_all := wg_t (i := 316) (by decide +kernel) (by decide +kernel)
theorem mw_t317 : (Jvm.Cond.selects "FourWords" ({ cls := "FourWords", name := "choose", desc := "()V" } : Jvm.MethodName) ({ cls := "FourWords", name := "choose", desc := "()V" } : Jvm.MethodName)) ∈ wg_all := wg_t (i := 317) (by decide +kernel) (by decide +kernel)
theorem mw_t318 : (Jvm.Cond.code ({ cls := "FourWords", name := "choose", desc := "()V" } : Jvm.MethodName) prog_1_method_6_code (5 : Nat) (Option.none : Option Jvm.ClassFile.FieldType)) ∈ wg_all := wg_t (i := 318) (by decide +kernel) (by decide +kernel)
theorem mw_t319 : (Jvm.Cond.methodLink "FourWords" (100 : Nat) ({ cls := "FourWords", name := "copyValue", desc := "(II)V" } : Jvm.MethodName)) ∈ wg_all := wg_t (i := 319) (by decide +kernel) (by decide +kernel)
theorem mw_t321 : (Jvm.Cond.instanceMethod ({ cls := "FourWords", name := "copyValue", desc := "(II)V" } : Jvm.MethodName)) ∈ wg_all := wg_t (i := 321) (by decide +kernel) (by decide +kernel)
theorem mw_t322 : (Jvm.Cond.code ({ cls := "FourWords", name := "copyValue", desc := "(II)V" } : Jvm.MethodName) prog_1_method_26_code (3 : Nat) (Option.none : Option Jvm.ClassFile.FieldType)) ∈ wg_all := wg_t (i := 322) (by decide +kernel) (by decide +kernel)
theorem mw_t323 : (Jvm.Cond.methodLink "FourWordsLaw" (94 : Nat) ({ cls := "FourWordsLaw", name := "join", desc := "(LFourWords;)I" } : Jvm.MethodName)) ∈ wg_all := wg_t (i := 323) (by decide +kernel) (by decide +kernel)
theorem mw_t324 : (Jvm.Cond.static ({ cls := "FourWordsLaw", name := "join", desc := "(LFourWords;)I" } : Jvm.MethodName)) ∈ wg_all := wg_t (i := 324) (by decide +kernel) (by decide +kernel)
theorem mw_t325 : (Jvm.Cond.codeWith ({ cls := "FourWordsLaw", name := "join", desc := "(LFourWords;)I" } : Jvm.MethodName) method_8_code (2 : Nat) (Option.some Jvm.ClassFile.FieldType.int) [((0 : Nat), (4 : Nat), (7 : Nat), (13 : Nat)), ((0 : Nat), (4 : Nat), (10 : Nat), (15 : Nat))]) ∈ wg_all := wg_t (i := 325) (by decide +kernel) (by decide +kernel)
theorem mw_t326 : (Jvm.Cond.methodLink "FourWordsLaw" (30 : Nat) ({ cls := "FourWords", name := "join", desc := "()V" } : Jvm.MethodName)) ∈ wg_all := wg_t (i := 326) (by decide +kernel) (by decide +kernel)
theorem mw_t327 : (Jvm.Cond.instanceMethod ({ cls := "FourWords", name := "join", desc := "()V" } : Jvm.MethodName)) ∈ wg_all := wg_t (i := 327) (by decide +kernel) (by decide +kernel)
theorem mw_t328 : (Jvm.Cond.selects "FourWords" ({ cls := "FourWords", name := "join", desc := "()V" } : Jvm.MethodName) ({ cls := "FourWords", name := "join", desc := "()V" } : Jvm.MethodName)) ∈ wg_all := wg_t (i := 328) (by decide +kernel) (by decide +kernel)
theorem mw_t329 : (Jvm.Cond.code ({ cls := "FourWords", name := "join", desc := "()V" } : Jvm.MethodName) prog_1_method_7_code (5 : Nat) (Option.none : Option Jvm.ClassFile.FieldType)) ∈ wg_all := wg_t (i := 329) (by decide +kernel) (by decide +kernel)
theorem mw_t330 : (Jvm.Cond.methodLink "FourWordsLaw" (97 : Nat) ({ cls := "FourWordsLaw", name := "copies", desc := "(LFourWords;I)I" } : Jvm.MethodName)) ∈ wg_all := wg_t (i := 330) (by decide +kernel) (by decide +kernel)
theorem mw_t331 : (Jvm.Cond.static ({ cls := "FourWordsLaw", name := "copies", desc := "(LFourWords;I)I" } : Jvm.MethodName)) ∈ wg_all := wg_t (i := 331) (by decide +kernel) (by decide +kernel)
theorem mw_t332 : (Jvm.Cond.codeWith ({ cls := "FourWordsLaw", name := "copies", desc := "(LFourWords;I)I" } : Jvm.MethodName) method_9_code (3 : Nat) (Option.some Jvm.ClassFile.FieldType.int) [((0 : Nat), (5 : Nat), (8 : Nat), (13 : Nat)), ((0 : Nat), (5 : Nat), (11 : Nat), (15 : Nat))]) ∈ wg_all := wg_t (i := 332) (by decide +kernel) (by decide +kernel)
theorem mw_t333 : (Jvm.Cond.methodLink "FourWordsLaw" (33 : Nat) ({ cls := "FourWords", name := "copies", desc := "(I)V" } : Jvm.MethodName)) ∈ wg_all := wg_t (i := 333) (by decide +kernel) (by decide +kernel)
theorem mw_t334 : (Jvm.Cond.instanceMethod ({ cls := "FourWords", name := "copies", desc := "(I)V" } : Jvm.MethodName)) ∈ wg_all := wg_t (i := 334) (by decide +kernel) (by decide +kernel)
theorem mw_t335 : (Jvm.Cond.selects "FourWords" ({ cls := "FourWords", name := "copies", desc := "(I)V" } : Jvm.MethodName) ({ cls := "FourWords", name := "copies", desc := "(I)V" } : Jvm.MethodName)) ∈ wg_all := wg_t (i := 335) (by decide +kernel) (by decide +kernel)
theorem mw_t336 : (Jvm.Cond.code ({ cls := "FourWords", name := "copies", desc := "(I)V" } : Jvm.MethodName) prog_1_method_8_code (9 : Nat) (Option.none : Option Jvm.ClassFile.FieldType)) ∈ wg_all := wg_t (i := 336) (by decide +kernel) (by decide +kernel)
theorem mw_t337 : (Jvm.Cond.constant "FourWords" (105 : Nat) (2147483647 : Int32)) ∈ wg_all := wg_t (i := 337) (by decide +kernel) (by decide +kernel)
theorem mw_t338 : (Jvm.Cond.methodLink "FourWordsLaw" (100 : Nat) ({ cls := "FourWordsLaw", name := "part", desc := "(LFourWords;II)I" } : Jvm.MethodName)) ∈ wg_all := wg_t (i := 338) (by decide +kernel) (by decide +kernel)
theorem mw_t339 : (Jvm.Cond.static ({ cls := "FourWordsLaw", name := "part", desc := "(LFourWords;II)I" } : Jvm.MethodName)) ∈ wg_all := wg_t (i := 339) (by decide +kernel) (by decide +kernel)
theorem mw_t340 : (Jvm.Cond.codeWith ({ cls := "FourWordsLaw", name := "part", desc := "(LFourWords;II)I" } : Jvm.MethodName) method_10_code (4 : Nat) (Option.some Jvm.ClassFile.FieldType.int) [((0 : Nat), (6 : Nat), (9 : Nat), (13 : Nat)), ((0 : Nat), (6 : Nat), (12 : Nat), (15 : Nat))]) ∈ wg_all := wg_t (i := 340) (by decide +kernel) (by decide +kernel)
theorem mw_t341 : (Jvm.Cond.methodLink "FourWordsLaw" (36 : Nat) ({ cls := "FourWords", name := "part", desc := "(II)V" } : Jvm.MethodName)) ∈ wg_all := wg_t (i := 341) (by decide +kernel) (by decide +kernel)
theorem mw_t342 : (Jvm.Cond.instanceMethod ({ cls := "FourWords", name := "part", desc := "(II)V" } : Jvm.MethodName)) ∈ wg_all := wg_t (i := 342) (by decide +kernel) (by decide +kernel)
theorem mw_t343 : (Jvm.Cond.selects "FourWords" ({ cls := "FourWords", name := "part", desc := "(II)V" } : Jvm.MethodName) ({ cls := "FourWords", name := "part", desc := "(II)V" } : Jvm.MethodName)) ∈ wg_all := wg_t (i := 343) (by decide +kernel) (by decide +kernel)
theorem mw_t344 : (Jvm.Cond.code ({ cls := "FourWords", name := "part", desc := "(II)V" } : Jvm.MethodName) prog_1_method_9_code (4 : Nat) (Option.none : Option Jvm.ClassFile.FieldType)) ∈ wg_all := wg_t (i := 344) (by decide +kernel) (by decide +kernel)
theorem mw_t345 : (Jvm.Cond.methodLink "FourWordsLaw" (104 : Nat) ({ cls := "FourWordsLaw", name := "bit", desc := "(LFourWords;)I" } : Jvm.MethodName)) ∈ wg_all := wg_t (i := 345) (by decide +kernel) (by decide +kernel)
theorem mw_t346 : (Jvm.Cond.static ({ cls := "FourWordsLaw", name := "bit", desc := "(LFourWords;)I" } : Jvm.MethodName)) ∈ wg_all := wg_t (i := 346) (by decide +kernel) (by decide +kernel)
theorem mw_t347 : (Jvm.Cond.codeWith ({ cls := "FourWordsLaw", name := "bit", desc := "(LFourWords;)I" } : Jvm.MethodName) method_11_code (2 : Nat) (Option.some Jvm.ClassFile.FieldType.int) [((0 : Nat), (4 : Nat), (7 : Nat), (15 : Nat))]) ∈ wg_all := wg_t (i := 347) (by decide +kernel) (by decide +kernel)
theorem mw_t348 : (Jvm.Cond.methodLink "FourWordsLaw" (40 : Nat) ({ cls := "FourWords", name := "bit", desc := "()V" } : Jvm.MethodName)) ∈ wg_all := wg_t (i := 348) (by decide +kernel) (by decide +kernel)
theorem mw_t349 : (Jvm.Cond.instanceMethod ({ cls := "FourWords", name := "bit", desc := "()V" } : Jvm.MethodName)) ∈ wg_all := wg_t (i := 349) (by decide +kernel) (by decide +kernel)
theorem mw_t350 : (Jvm.Cond.selects "FourWords" ({ cls := "FourWords", name := "bit", desc := "()V" } : Jvm.MethodName) ({ cls := "FourWords", name := "bit", desc := "()V" } : Jvm.MethodName)) ∈ wg_all := wg_t (i := 350) (by decide +kernel) (by decide +kernel)
theorem mw_t351 : (Jvm.Cond.code ({ cls := "FourWords", name := "bit", desc := "()V" } : Jvm.MethodName) prog_1_method_10_code (5 : Nat) (Option.none : Option Jvm.ClassFile.FieldType)) ∈ wg_all := wg_t (i := 351) (by decide +kernel) (by decide +kernel)
theorem mw_t352 : (Jvm.Cond.methodLink "FourWordsLaw" (107 : Nat) ({ cls := "FourWordsLaw", name := "as", desc := "(LFourWords;IZ)I" } : Jvm.MethodName)) ∈ wg_all := wg_t (i := 352) (by decide +kernel) (by decide +kernel)
theorem mw_t353 : (Jvm.Cond.static ({ cls := "FourWordsLaw", name := "as", desc := "(LFourWords;IZ)I" } : Jvm.MethodName)) ∈ wg_all := wg_t (i := 353) (by decide +kernel) (by decide +kernel)
theorem mw_t354 : (Jvm.Cond.codeWith ({ cls := "FourWordsLaw", name := "as", desc := "(LFourWords;IZ)I" } : Jvm.MethodName) method_12_code (4 : Nat) (Option.some Jvm.ClassFile.FieldType.int) [((0 : Nat), (6 : Nat), (9 : Nat), (13 : Nat)), ((0 : Nat), (6 : Nat), (12 : Nat), (15 : Nat))]) ∈ wg_all := wg_t (i := 354) (by decide +kernel) (by decide +kernel)
theorem mw_t355 : (Jvm.Cond.methodLink "FourWordsLaw" (43 : Nat) ({ cls := "FourWords", name := "as", desc := "(IZ)V" } : Jvm.MethodName)) ∈ wg_all := wg_t (i := 355) (by decide +kernel) (by decide +kernel)
theorem mw_t356 : (Jvm.Cond.instanceMethod ({ cls := "FourWords", name := "as", desc := "(IZ)V" } : Jvm.MethodName)) ∈ wg_all := wg_t (i := 356) (by decide +kernel) (by decide +kernel)
theorem mw_t357 : (Jvm.Cond.selects "FourWords" ({ cls := "FourWords", name := "as", desc := "(IZ)V" } : Jvm.MethodName) ({ cls := "FourWords", name := "as", desc := "(IZ)V" } : Jvm.MethodName)) ∈ wg_all := wg_t (i := 357) (by decide +kernel) (by decide +kernel)
theorem mw_t358 : (Jvm.Cond.code ({ cls := "FourWords", name := "as", desc := "(IZ)V" } : Jvm.MethodName) prog_1_method_11_code (4 : Nat) (Option.none : Option Jvm.ClassFile.FieldType)) ∈ wg_all := wg_t (i := 358) (by decide +kernel) (by decide +kernel)
theorem mw_t359 : (Jvm.Cond.methodLink "FourWordsLaw" (111 : Nat) ({ cls := "FourWordsLaw", name := "again", desc := "(LFourWords;I)I" } : Jvm.MethodName)) ∈ wg_all := wg_t (i := 359) (by decide +kernel) (by decide +kernel)
theorem mw_t360 : (Jvm.Cond.static ({ cls := "FourWordsLaw", name := "again", desc := "(LFourWords;I)I" } : Jvm.MethodName)) ∈ wg_all := wg_t (i := 360) (by decide +kernel) (by decide +kernel)
theorem mw_t361 : (Jvm.Cond.codeWith ({ cls := "FourWordsLaw", name := "again", desc := "(LFourWords;I)I" } : Jvm.MethodName) method_13_code (3 : Nat) (Option.some Jvm.ClassFile.FieldType.int) [((0 : Nat), (5 : Nat), (8 : Nat), (13 : Nat)), ((0 : Nat), (5 : Nat), (11 : Nat), (15 : Nat))]) ∈ wg_all := wg_t (i := 361) (by decide +kernel) (by decide +kernel)
theorem mw_t362 : (Jvm.Cond.methodLink "FourWordsLaw" (47 : Nat) ({ cls := "FourWords", name := "again", desc := "(I)V" } : Jvm.MethodName)) ∈ wg_all := wg_t (i := 362) (by decide +kernel) (by decide +kernel)
theorem mw_t363 : (Jvm.Cond.instanceMethod ({ cls := "FourWords", name := "again", desc := "(I)V" } : Jvm.MethodName)) ∈ wg_all := wg_t (i := 363) (by decide +kernel) (by decide +kernel)
theorem mw_t364 : (Jvm.Cond.selects "FourWords" ({ cls := "FourWords", name := "again", desc := "(I)V" } : Jvm.MethodName) ({ cls := "FourWords", name := "again", desc := "(I)V" } : Jvm.MethodName)) ∈ wg_all := wg_t (i := 364) (by decide +kernel) (by decide +kernel)
theorem mw_t365 : (Jvm.Cond.code ({ cls := "FourWords", name := "again", desc := "(I)V" } : Jvm.MethodName) prog_1_method_12_code (2 : Nat) (Option.none : Option Jvm.ClassFile.FieldType)) ∈ wg_all := wg_t (i := 365) (by decide +kernel) (by decide +kernel)
theorem mw_t366 : (Jvm.Cond.methodLink "FourWords" (113 : Nat) ({ cls := "FourWords", name := "demandPlace", desc := "(I)V" } : Jvm.MethodName)) ∈ wg_all := wg_t (i := 366) (by decide +kernel) (by decide +kernel)
theorem mw_t368 : (Jvm.Cond.instanceMethod ({ cls := "FourWords", name := "demandPlace", desc := "(I)V" } : Jvm.MethodName)) ∈ wg_all := wg_t (i := 368) (by decide +kernel) (by decide +kernel)
theorem mw_t369 : (Jvm.Cond.code ({ cls := "FourWords", name := "demandPlace", desc := "(I)V" } : Jvm.MethodName) prog_1_method_19_code (2 : Nat) (Option.none : Option Jvm.ClassFile.FieldType)) ∈ wg_all := wg_t (i := 369) (by decide +kernel) (by decide +kernel)
theorem mw_t371 : (Jvm.Cond.methodLink "FourWordsLaw" (114 : Nat) ({ cls := "FourWordsLaw", name := "text", desc := "(LFourWords;IZ[J)I" } : Jvm.MethodName)) ∈ wg_all := wg_t (i := 371) (by decide +kernel) (by decide +kernel)
theorem mw_t372 : (Jvm.Cond.static ({ cls := "FourWordsLaw", name := "text", desc := "(LFourWords;IZ[J)I" } : Jvm.MethodName)) ∈ wg_all := wg_t (i := 372) (by decide +kernel) (by decide +kernel)
theorem mw_t373 : (Jvm.Cond.codeWith ({ cls := "FourWordsLaw", name := "text", desc := "(LFourWords;IZ[J)I" } : Jvm.MethodName) method_14_code (5 : Nat) (Option.some Jvm.ClassFile.FieldType.int) [((0 : Nat), (10 : Nat), (13 : Nat), (13 : Nat)), ((0 : Nat), (10 : Nat), (17 : Nat), (15 : Nat))]) ∈ wg_all := wg_t (i := 373) (by decide +kernel) (by decide +kernel)
theorem mw_t374 : (Jvm.Cond.methodLink "FourWordsLaw" (50 : Nat) ({ cls := "FourWords", name := "text", desc := "(IZ)I" } : Jvm.MethodName)) ∈ wg_all := wg_t (i := 374) (by decide +kernel) (by decide +kernel)
theorem mw_t375 : (Jvm.Cond.instanceMethod ({ cls := "FourWords", name := "text", desc := "(IZ)I" } : Jvm.MethodName)) ∈ wg_all := wg_t (i := 375) (by decide +kernel) (by decide +kernel)
theorem mw_t376 : (Jvm.Cond.selects "FourWords" ({ cls := "FourWords", name := "text", desc := "(IZ)I" } : Jvm.MethodName) ({ cls := "FourWords", name := "text", desc := "(IZ)I" } : Jvm.MethodName)) ∈ wg_all := wg_t (i := 376) (by decide +kernel) (by decide +kernel)
theorem mw_t377 : (Jvm.Cond.code ({ cls := "FourWords", name := "text", desc := "(IZ)I" } : Jvm.MethodName) prog_1_method_13_code (4 : Nat) (Option.some Jvm.ClassFile.FieldType.int)) ∈ wg_all := wg_t (i := 377) (by decide +kernel) (by decide +kernel)
theorem mw_t380 : (Jvm.Cond.instanceMethod ({ cls := "FourWords$Line", name := "clear", desc := "()V" } : Jvm.MethodName)) ∈ wg_all := wg_t (i := 380) (by decide +kernel) (by decide +kernel)
theorem mw_t381 : (Jvm.Cond.code ({ cls := "FourWords$Line", name := "clear", desc := "()V" } : Jvm.MethodName) prog_3_method_2_code (1 : Nat) (Option.none : Option Jvm.ClassFile.FieldType)) ∈ wg_all := wg_t (i := 381) (by decide +kernel) (by decide +kernel)
theorem mw_t382 : (Jvm.Cond.methodLink "FourWords" (119 : Nat) ({ cls := "FourWords", name := "writeNumber", desc := "(IZ)V" } : Jvm.MethodName)) ∈ wg_all := wg_t (i := 382) (by decide +kernel) (by decide +kernel)
theorem mw_t384 : (Jvm.Cond.instanceMethod ({ cls := "FourWords", name := "writeNumber", desc := "(IZ)V" } : Jvm.MethodName)) ∈ wg_all := wg_t (i := 384) (by decide +kernel) (by decide +kernel)
theorem mw_t385 : (Jvm.Cond.code ({ cls := "FourWords", name := "writeNumber", desc := "(IZ)V" } : Jvm.MethodName) prog_1_method_50_code (13 : Nat) (Option.none : Option Jvm.ClassFile.FieldType)) ∈ wg_all := wg_t (i := 385) (by decide +kernel) (by decide +kernel)
theorem mw_t387 : (Jvm.Cond.static ({ cls := "FourWords$Bits", name := "digits", desc := "(J)I" } : Jvm.MethodName)) ∈ wg_all := wg_t (i := 387) (by decide +kernel) (by decide +kernel)
theorem mw_t388 : (Jvm.Cond.code ({ cls := "FourWords$Bits", name := "digits", desc := "(J)I" } : Jvm.MethodName) prog_2_method_6_code (5 : Nat) (Option.some Jvm.ClassFile.FieldType.int)) ∈ wg_all := wg_t (i := 388) (by decide +kernel) (by decide +kernel)
theorem mw_t389 : (Jvm.Cond.constantLong "FourWords$Bits" (19 : Nat) (10 : Int64)) ∈ wg_all := wg_t (i := 389) (by decide +kernel) (by decide +kernel)
theorem mw_t390 : (Jvm.Cond.methodLink "FourWords$Bits" (21 : Nat) ({ cls := "FourWords$Bits", name := "quotient", desc := "(JJ)J" } : Jvm.MethodName)) ∈ wg_all := wg_t (i := 390) (by decide +kernel) (by decide +kernel)
theorem mw_t393 : (Jvm.Cond.instanceMethod ({ cls := "FourWords$Line", name := "writeSpaces", desc := "(I)V" } : Jvm.MethodName)) ∈ wg_all := wg_t (i := 393) (by decide +kernel) (by decide +kernel)
theorem mw_t394 : (Jvm.Cond.code ({ cls := "FourWords$Line", name := "writeSpaces", desc := "(I)V" } : Jvm.MethodName) prog_3_method_4_code (3 : Nat) (Option.none : Option Jvm.ClassFile.FieldType)) ∈ wg_all := wg_t (i := 394) (by decide +kernel) (by decide +kernel)
theorem mw_t395 : (Jvm.Cond.methodLink "FourWords$Line" (19 : Nat) ({ cls := "FourWords$Line", name := "write", desc := "(C)V" } : Jvm.MethodName)) ∈ wg_all := wg_t (i := 395) (by decide +kernel) (by decide +kernel)
theorem mw_t397 : (Jvm.Cond.instanceMethod ({ cls := "FourWords$Line", name := "write", desc := "(C)V" } : Jvm.MethodName)) ∈ wg_all := wg_t (i := 397) (by decide +kernel) (by decide +kernel)
theorem mw_t398 : (Jvm.Cond.code ({ cls := "FourWords$Line", name := "write", desc := "(C)V" } : Jvm.MethodName) prog_3_method_3_code (2 : Nat) (Option.none : Option Jvm.ClassFile.FieldType)) ∈ wg_all := wg_t (i := 398) (by decide +kernel) (by decide +kernel)
theorem mw_t399 : (Jvm.Cond.methodLink "FourWords" (221 : Nat) ({ cls := "FourWords", name := "unknownLetter", desc := "(JJJ)C" } : Jvm.MethodName)) ∈ wg_all := wg_t (i := 399) (by decide +kernel) (by decide +kernel)
theorem mw_t400 : (Jvm.Cond.static ({ cls := "FourWords", name := "unknownLetter", desc := "(JJJ)C" } : Jvm.MethodName)) ∈ wg_all := wg_t (i := 400) (by decide +kernel) (by decide +kernel)
theorem mw_t401 : (Jvm.Cond.code ({ cls := "FourWords", name := "unknownLetter", desc := "(JJJ)C" } : Jvm.MethodName) prog_1_method_49_code (6 : Nat) (Option.some Jvm.ClassFile.FieldType.char)) ∈ wg_all := wg_t (i := 401) (by decide +kernel) (by decide +kernel)
theorem mw_t405 : (Jvm.Cond.instanceMethod ({ cls := "FourWords$Line", name := "writeDigits", desc := "(JI)V" } : Jvm.MethodName)) ∈ wg_all := wg_t (i := 405) (by decide +kernel) (by decide +kernel)
theorem mw_t406 : (Jvm.Cond.code ({ cls := "FourWords$Line", name := "writeDigits", desc := "(JI)V" } : Jvm.MethodName) prog_3_method_5_code (9 : Nat) (Option.none : Option Jvm.ClassFile.FieldType)) ∈ wg_all := wg_t (i := 406) (by decide +kernel) (by decide +kernel)
theorem mw_t407 : (Jvm.Cond.constantLong "FourWords$Line" (23 : Nat) (10 : Int64)) ∈ wg_all := wg_t (i := 407) (by decide +kernel) (by decide +kernel)
theorem mw_t409 : (Jvm.Cond.constantLong "FourWords$Line" (31 : Nat) (48 : Int64)) ∈ wg_all := wg_t (i := 409) (by decide +kernel) (by decide +kernel)
theorem mw_t410 : (Jvm.Cond.methodLink "FourWords" (123 : Nat) ({ cls := "FourWords", name := "writeGroups", desc := "(IIZ)V" } : Jvm.MethodName)) ∈ wg_all := wg_t (i := 410) (by decide +kernel) (by decide +kernel)
theorem mw_t412 : (Jvm.Cond.instanceMethod ({ cls := "FourWords", name := "writeGroups", desc := "(IIZ)V" } : Jvm.MethodName)) ∈ wg_all := wg_t (i := 412) (by decide +kernel) (by decide +kernel)
theorem mw_t413 : (Jvm.Cond.code ({ cls := "FourWords", name := "writeGroups", desc := "(IIZ)V" } : Jvm.MethodName) prog_1_method_47_code (11 : Nat) (Option.none : Option Jvm.ClassFile.FieldType)) ∈ wg_all := wg_t (i := 413) (by decide +kernel) (by decide +kernel)
theorem mw_t414 : (Jvm.Cond.methodLink "FourWords" (210 : Nat) ({ cls := "java/lang/Math", name := "min", desc := "(II)I" } : Jvm.MethodName)) ∈ wg_all := wg_t (i := 414) (by decide +kernel) (by decide +kernel)
theorem mw_t415 : (Jvm.Cond.static ({ cls := "java/lang/Math", name := "min", desc := "(II)I" } : Jvm.MethodName)) ∈ wg_all := wg_t (i := 415) (by decide +kernel) (by decide +kernel)
theorem mw_t416 : (Jvm.Cond.code ({ cls := "java/lang/Math", name := "min", desc := "(II)I" } : Jvm.MethodName) prog_11_method_69_code (2 : Nat) (Option.some Jvm.ClassFile.FieldType.int)) ∈ wg_all := wg_t (i := 416) (by decide +kernel) (by decide +kernel)
theorem mw_t417 : (Jvm.Cond.methodLink "FourWords" (213 : Nat) ({ cls := "FourWords", name := "groupLetter", desc := "(JJJ)C" } : Jvm.MethodName)) ∈ wg_all := wg_t (i := 417) (by decide +kernel) (by decide +kernel)
theorem mw_t418 : (Jvm.Cond.static ({ cls := "FourWords", name := "groupLetter", desc := "(JJJ)C" } : Jvm.MethodName)) ∈ wg_all := wg_t (i := 418) (by decide +kernel) (by decide +kernel)
theorem mw_t419 : (Jvm.Cond.code ({ cls := "FourWords", name := "groupLetter", desc := "(JJJ)C" } : Jvm.MethodName) prog_1_method_48_code (6 : Nat) (Option.some Jvm.ClassFile.FieldType.char)) ∈ wg_all := wg_t (i := 419) (by decide +kernel) (by decide +kernel)
theorem mw_t420 : (Jvm.Cond.constantLong "FourWords" (224 : Nat) (10 : Int64)) ∈ wg_all := wg_t (i := 420) (by decide +kernel) (by decide +kernel)
theorem mw_t421 : (Jvm.Cond.constantLong "FourWords" (226 : Nat) (48 : Int64)) ∈ wg_all := wg_t (i := 421) (by decide +kernel) (by decide +kernel)
theorem mw_t422 : (Jvm.Cond.constantLong "FourWords" (228 : Nat) (97 : Int64)) ∈ wg_all := wg_t (i := 422) (by decide +kernel) (by decide +kernel)
theorem mw_t423 : (Jvm.Cond.methodLink "FourWordsLaw" (118 : Nat) ({ cls := "FourWordsLaw", name := "letter", desc := "(LFourWords;I[J)I" } : Jvm.MethodName)) ∈ wg_all := wg_t (i := 423) (by decide +kernel) (by decide +kernel)
theorem mw_t424 : (Jvm.Cond.static ({ cls := "FourWordsLaw", name := "letter", desc := "(LFourWords;I[J)I" } : Jvm.MethodName)) ∈ wg_all := wg_t (i := 424) (by decide +kernel) (by decide +kernel)
theorem mw_t425 : (Jvm.Cond.codeWith ({ cls := "FourWordsLaw", name := "letter", desc := "(LFourWords;I[J)I" } : Jvm.MethodName) method_15_code (4 : Nat) (Option.some Jvm.ClassFile.FieldType.int) [((0 : Nat), (9 : Nat), (12 : Nat), (58 : Nat))]) ∈ wg_all := wg_t (i := 425) (by decide +kernel) (by decide +kernel)
theorem mw_t426 : (Jvm.Cond.classLink "FourWordsLaw" (58 : Nat) "java/lang/IndexOutOfBoundsException") ∈ wg_all := wg_t (i := 426) (by decide +kernel) (by decide +kernel)
theorem mw_t427 : (Jvm.Cond.methodLink "FourWordsLaw" (54 : Nat) ({ cls := "FourWords", name := "letter", desc := "(I)I" } : Jvm.MethodName)) ∈ wg_all := wg_t (i := 427) (by decide +kernel) (by decide +kernel)
theorem mw_t428 : (Jvm.Cond.instanceMethod ({ cls := "FourWords", name := "letter", desc := "(I)I" } : Jvm.MethodName)) ∈ wg_all := wg_t (i := 428) (by decide +kernel) (by decide +kernel)
theorem mw_t429 : (Jvm.Cond.selects "FourWords" ({ cls := "FourWords", name := "letter", desc := "(I)I" } : Jvm.MethodName) ({ cls := "FourWords", name := "letter", desc := "(I)I" } : Jvm.MethodName)) ∈ wg_all := wg_t (i := 429) (by decide +kernel) (by decide +kernel)
theorem mw_t430 : (Jvm.Cond.code ({ cls := "FourWords", name := "letter", desc := "(I)I" } : Jvm.MethodName) prog_1_method_14_code (2 : Nat) (Option.some Jvm.ClassFile.FieldType.int)) ∈ wg_all := wg_t (i := 430) (by decide +kernel) (by decide +kernel)
theorem mw_t431 : (Jvm.Cond.classLink "FourWords" (129 : Nat) "java/lang/IndexOutOfBoundsException") ∈ wg_all := wg_t (i := 431) (by decide +kernel) (by decide +kernel)
theorem mw_t432 : (Jvm.Cond.instantiable "java/lang/IndexOutOfBoundsException" (6 : Nat)) ∈ wg_all := wg_t (i := 432) (by decide +kernel) (by decide +kernel)
theorem mw_t434 : (Jvm.Cond.selects "java/lang/IndexOutOfBoundsException" ({ cls := "java/lang/Throwable", name := "fillInStackTrace", desc := "(I)Ljava/lang/Throwable;" } : Jvm.MethodName) ({ cls := "java/lang/Throwable", name := "fillInStackTrace", desc := "(I)Ljava/lang/Throwable;" } : Jvm.MethodName)) ∈ wg_all := wg_t (i := 434) (by decide +kernel) (by decide +kernel)
theorem mw_t441 : (Jvm.Cond.methodLink "FourWords" (133 : Nat) ({ cls := "java/lang/IndexOutOfBoundsException", name := "<init>", desc := "(Ljava/lang/String;)V" } : Jvm.MethodName)) ∈ wg_all := wg_t (i := 441) (by decide +kernel) (by decide +kernel)
theorem mw_t442 : (Jvm.Cond.instanceMethod ({ cls := "java/lang/IndexOutOfBoundsException", name := "<init>", desc := "(Ljava/lang/String;)V" } : Jvm.MethodName)) ∈ wg_all := wg_t (i := 442) (by decide +kernel) (by decide +kernel)
theorem mw_t443 : (Jvm.Cond.code ({ cls := "java/lang/IndexOutOfBoundsException", name := "<init>", desc := "(Ljava/lang/String;)V" } : Jvm.MethodName) prog_9_method_2_code (2 : Nat) (Option.none : Option Jvm.ClassFile.FieldType)) ∈ wg_all := wg_t (i := 443) (by decide +kernel) (by decide +kernel)
theorem mw_t444 : (Jvm.Cond.methodLink "java/lang/IndexOutOfBoundsException" (7 : Nat) ({ cls := "java/lang/RuntimeException", name := "<init>", desc := "(Ljava/lang/String;)V" } : Jvm.MethodName)) ∈ wg_all := wg_t (i := 444) (by decide +kernel) (by decide +kernel)
theorem mw_t447 : (Jvm.Cond.methodLink "FourWordsLaw" (122 : Nat) ({ cls := "FourWordsLaw", name := "told", desc := "(LFourWords;II[J)I" } : Jvm.MethodName)) ∈ wg_all := wg_t (i := 447) (by decide +kernel) (by decide +kernel)
theorem mw_t448 : (Jvm.Cond.static ({ cls := "FourWordsLaw", name := "told", desc := "(LFourWords;II[J)I" } : Jvm.MethodName)) ∈ wg_all := wg_t (i := 448) (by decide +kernel) (by decide +kernel)
theorem mw_t449 : (Jvm.Cond.codeWith ({ cls := "FourWordsLaw", name := "told", desc := "(LFourWords;II[J)I" } : Jvm.MethodName) method_16_code (5 : Nat) (Option.some Jvm.ClassFile.FieldType.int) [((0 : Nat), (9 : Nat), (12 : Nat), (13 : Nat)), ((0 : Nat), (9 : Nat), (16 : Nat), (15 : Nat))]) ∈ wg_all := wg_t (i := 449) (by decide +kernel) (by decide +kernel)
theorem mw_t450 : (Jvm.Cond.methodLink "FourWordsLaw" (60 : Nat) ({ cls := "FourWords", name := "told", desc := "(II)J" } : Jvm.MethodName)) ∈ wg_all := wg_t (i := 450) (by decide +kernel) (by decide +kernel)
theorem mw_t451 : (Jvm.Cond.instanceMethod ({ cls := "FourWords", name := "told", desc := "(II)J" } : Jvm.MethodName)) ∈ wg_all := wg_t (i := 451) (by decide +kernel) (by decide +kernel)
theorem mw_t452 : (Jvm.Cond.selects "FourWords" ({ cls := "FourWords", name := "told", desc := "(II)J" } : Jvm.MethodName) ({ cls := "FourWords", name := "told", desc := "(II)J" } : Jvm.MethodName)) ∈ wg_all := wg_t (i := 452) (by decide +kernel) (by decide +kernel)
theorem mw_t453 : (Jvm.Cond.code ({ cls := "FourWords", name := "told", desc := "(II)J" } : Jvm.MethodName) prog_1_method_15_code (4 : Nat) (Option.some Jvm.ClassFile.FieldType.long)) ∈ wg_all := wg_t (i := 453) (by decide +kernel) (by decide +kernel)
theorem mw_t454 : (Jvm.Cond.classLink "FourWordsLaw" (65 : Nat) "FourWordsModel") ∈ wg_all := wg_t (i := 454) (by decide +kernel) (by decide +kernel)
theorem mw_t455 : (Jvm.Cond.instantiable "FourWordsModel" (12 : Nat)) ∈ wg_all := wg_t (i := 455) (by decide +kernel) (by decide +kernel)
theorem mw_t456 : (Jvm.Cond.methodLink "FourWordsLaw" (67 : Nat) ({ cls := "FourWordsModel", name := "<init>", desc := "()V" } : Jvm.MethodName)) ∈ wg_all := wg_t (i := 456) (by decide +kernel) (by decide +kernel)
theorem mw_t457 : (Jvm.Cond.instanceMethod ({ cls := "FourWordsModel", name := "<init>", desc := "()V" } : Jvm.MethodName)) ∈ wg_all := wg_t (i := 457) (by decide +kernel) (by decide +kernel)
theorem mw_t458 : (Jvm.Cond.code ({ cls := "FourWordsModel", name := "<init>", desc := "()V" } : Jvm.MethodName) prog_5_method_1_code (1 : Nat) (Option.none : Option Jvm.ClassFile.FieldType)) ∈ wg_all := wg_t (i := 458) (by decide +kernel) (by decide +kernel)
theorem mw_t459 : (Jvm.Cond.methodLink "FourWordsModel" (1 : Nat) ({ cls := "java/lang/Object", name := "<init>", desc := "()V" } : Jvm.MethodName)) ∈ wg_all := wg_t (i := 459) (by decide +kernel) (by decide +kernel)
theorem mw_t460 : (Jvm.Cond.fieldLink "FourWordsModel" (7 : Nat) "FourWordsModel" "bit" "[B") ∈ wg_all := wg_t (i := 460) (by decide +kernel) (by decide +kernel)
theorem mw_t461 : (Jvm.Cond.fieldLink "FourWordsModel" (13 : Nat) "FourWordsModel" "width" "[I") ∈ wg_all := wg_t (i := 461) (by decide +kernel) (by decide +kernel)
theorem mw_t462 : (Jvm.Cond.fieldLink "FourWordsModel" (17 : Nat) "FourWordsModel" "signed" "[Z") ∈ wg_all := wg_t (i := 462) (by decide +kernel) (by decide +kernel)
theorem mw_t463 : (Jvm.Cond.fieldLink "FourWordsModel" (21 : Nat) "FourWordsModel" "a" "[B") ∈ wg_all := wg_t (i := 463) (by decide +kernel) (by decide +kernel)
theorem mw_t464 : (Jvm.Cond.fieldLink "FourWordsModel" (24 : Nat) "FourWordsModel" "b" "[B") ∈ wg_all := wg_t (i := 464) (by decide +kernel) (by decide +kernel)
theorem mw_t465 : (Jvm.Cond.fieldLink "FourWordsModel" (27 : Nat) "FourWordsModel" "c" "[B") ∈ wg_all := wg_t (i := 465) (by decide +kernel) (by decide +kernel)
theorem mw_t466 : (Jvm.Cond.fieldLink "FourWordsModel" (30 : Nat) "FourWordsModel" "rest" "[B") ∈ wg_all := wg_t (i := 466) (by decide +kernel) (by decide +kernel)
theorem mw_t467 : (Jvm.Cond.fieldLink "FourWordsModel" (33 : Nat) "FourWordsModel" "text" "[B") ∈ wg_all := wg_t (i := 467) (by decide +kernel) (by decide +kernel)
theorem mw_t468 : (Jvm.Cond.fieldLink "FourWordsModel" (43 : Nat) "FourWordsModel" "many" "I") ∈ wg_all := wg_t (i := 468) (by decide +kernel) (by decide +kernel)
theorem mw_t469 : (Jvm.Cond.fieldLink "FourWordsModel" (137 : Nat) "FourWordsModel" "size" "I") ∈ wg_all := wg_t (i := 469) (by decide +kernel) (by decide +kernel)
theorem mw_t470 : (Jvm.Cond.fieldLink "FourWordsModel" (39 : Nat) "FourWordsModel" "thrown" "I") ∈ wg_all := wg_t (i := 470) (by decide +kernel) (by decide +kernel)
theorem mw_t471 : (Jvm.Cond.fieldLink "FourWordsModel" (36 : Nat) "FourWordsModel" "digits" "[B") ∈ wg_all := wg_t (i := 471) (by decide +kernel) (by decide +kernel)
theorem mw_t472 : (Jvm.Cond.laysFinal "FourWordsModel" "FourWordsModel" "bit" "[B") ∈ wg_all := wg_t (i := 472) (by decide +kernel) (by decide +kernel)
theorem mw_t474 : (Jvm.Cond.laysFinal "FourWordsModel" "FourWordsModel" "width" "[I") ∈ wg_all := wg_t (i := 474) (by decide +kernel) (by decide +kernel)
theorem mw_t476 : (Jvm.Cond.laysFinal "FourWordsModel" "FourWordsModel" "signed" "[Z") ∈ wg_all := wg_t (i := 476) (by decide +kernel) (by decide +kernel)
theorem mw_t478 : (Jvm.Cond.laysFinal "FourWordsModel" "FourWordsModel" "a" "[B") ∈ wg_all := wg_t (i := 478) (by decide +kernel) (by decide +kernel)
theorem mw_t480 : (Jvm.Cond.laysFinal "FourWordsModel" "FourWordsModel" "b" "[B") ∈ wg_all := wg_t (i := 480) (by decide +kernel) (by decide +kernel)
theorem mw_t482 : (Jvm.Cond.laysFinal "FourWordsModel" "FourWordsModel" "c" "[B") ∈ wg_all := wg_t (i := 482) (by decide +kernel) (by decide +kernel)
theorem mw_t484 : (Jvm.Cond.laysFinal "FourWordsModel" "FourWordsModel" "rest" "[B") ∈ wg_all := wg_t (i := 484) (by decide +kernel) (by decide +kernel)
theorem mw_t486 : (Jvm.Cond.laysFinal "FourWordsModel" "FourWordsModel" "text" "[B") ∈ wg_all := wg_t (i := 486) (by decide +kernel) (by decide +kernel)
theorem mw_t488 : (Jvm.Cond.lays "FourWordsModel" "FourWordsModel" "many" "I") ∈ wg_all := wg_t (i := 488) (by decide +kernel) (by decide +kernel)
theorem mw_t490 : (Jvm.Cond.lays "FourWordsModel" "FourWordsModel" "size" "I") ∈ wg_all := wg_t (i := 490) (by decide +kernel) (by decide +kernel)
theorem mw_t492 : (Jvm.Cond.lays "FourWordsModel" "FourWordsModel" "thrown" "I") ∈ wg_all := wg_t (i := 492) (by decide +kernel) (by decide +kernel)
theorem mw_t494 : (Jvm.Cond.laysFinal "FourWordsModel" "FourWordsModel" "digits" "[B") ∈ wg_all := wg_t (i := 494) (by decide +kernel) (by decide +kernel)
theorem mw_t497 : (Jvm.Cond.methodLink "FourWordsLaw" (76 : Nat) ({ cls := "FourWordsModel", name := "thrown", desc := "()I" } : Jvm.MethodName)) ∈ wg_all := wg_t (i := 497) (by decide +kernel) (by decide +kernel)
theorem mw_t498 : (Jvm.Cond.instanceMethod ({ cls := "FourWordsModel", name := "thrown", desc := "()I" } : Jvm.MethodName)) ∈ wg_all := wg_t (i := 498) (by decide +kernel) (by decide +kernel)
theorem mw_t499 : (Jvm.Cond.selects "FourWordsModel" ({ cls := "FourWordsModel", name := "thrown", desc := "()I" } : Jvm.MethodName) ({ cls := "FourWordsModel", name := "thrown", desc := "()I" } : Jvm.MethodName)) ∈ wg_all := wg_t (i := 499) (by decide +kernel) (by decide +kernel)
theorem mw_t500 : (Jvm.Cond.code ({ cls := "FourWordsModel", name := "thrown", desc := "()I" } : Jvm.MethodName) prog_5_method_2_code (1 : Nat) (Option.some Jvm.ClassFile.FieldType.int)) ∈ wg_all := wg_t (i := 500) (by decide +kernel) (by decide +kernel)
theorem mw_t501 : (Jvm.Cond.methodLink "FourWordsLaw" (75 : Nat) ({ cls := "FourWordsModel", name := "push", desc := "(JJIZ)I" } : Jvm.MethodName)) ∈ wg_all := wg_t (i := 501) (by decide +kernel) (by decide +kernel)
theorem mw_t502 : (Jvm.Cond.instanceMethod ({ cls := "FourWordsModel", name := "push", desc := "(JJIZ)I" } : Jvm.MethodName)) ∈ wg_all := wg_t (i := 502) (by decide +kernel) (by decide +kernel)
theorem mw_t503 : (Jvm.Cond.selects "FourWordsModel" ({ cls := "FourWordsModel", name := "push", desc := "(JJIZ)I" } : Jvm.MethodName) ({ cls := "FourWordsModel", name := "push", desc := "(JJIZ)I" } : Jvm.MethodName)) ∈ wg_all := wg_t (i := 503) (by decide +kernel) (by decide +kernel)
theorem mw_t504 : (Jvm.Cond.code ({ cls := "FourWordsModel", name := "push", desc := "(JJIZ)I" } : Jvm.MethodName) prog_5_method_12_code (8 : Nat) (Option.some Jvm.ClassFile.FieldType.int)) ∈ wg_all := wg_t (i := 504) (by decide +kernel) (by decide +kernel)
theorem mw_t505 : (Jvm.Cond.methodLink "FourWordsModel" (54 : Nat) ({ cls := "FourWordsModel", name := "refuse", desc := "(ZII)Z" } : Jvm.MethodName)) ∈ wg_all := wg_t (i := 505) (by decide +kernel) (by decide +kernel)
theorem mw_t507 : (Jvm.Cond.instanceMethod ({ cls := "FourWordsModel", name := "refuse", desc := "(ZII)Z" } : Jvm.MethodName)) ∈ wg_all := wg_t (i := 507) (by decide +kernel) (by decide +kernel)
theorem mw_t508 : (Jvm.Cond.code ({ cls := "FourWordsModel", name := "refuse", desc := "(ZII)Z" } : Jvm.MethodName) prog_5_method_3_code (4 : Nat) (Option.some Jvm.ClassFile.FieldType.boolean)) ∈ wg_all := wg_t (i := 508) (by decide +kernel) (by decide +kernel)
theorem mw_t509 : (Jvm.Cond.constantLong "FourWordsModel" (58 : Nat) (2 : Int64)) ∈ wg_all := wg_t (i := 509) (by decide +kernel) (by decide +kernel)
theorem mw_t510 : (Jvm.Cond.methodLink "FourWordsModel" (60 : Nat) ({ cls := "FourWordsModel", name := "give", desc := "([BIZ)V" } : Jvm.MethodName)) ∈ wg_all := wg_t (i := 510) (by decide +kernel) (by decide +kernel)
theorem mw_t512 : (Jvm.Cond.instanceMethod ({ cls := "FourWordsModel", name := "give", desc := "([BIZ)V" } : Jvm.MethodName)) ∈ wg_all := wg_t (i := 512) (by decide +kernel) (by decide +kernel)
theorem mw_t513 : (Jvm.Cond.code ({ cls := "FourWordsModel", name := "give", desc := "([BIZ)V" } : Jvm.MethodName) prog_5_method_4_code (5 : Nat) (Option.none : Option Jvm.ClassFile.FieldType)) ∈ wg_all := wg_t (i := 513) (by decide +kernel) (by decide +kernel)
theorem mw_t514 : (Jvm.Cond.methodLink "FourWordsLaw" (83 : Nat) ({ cls := "FourWordsModel", name := "two", desc := "(I)V" } : Jvm.MethodName)) ∈ wg_all := wg_t (i := 514) (by decide +kernel) (by decide +kernel)
theorem mw_t515 : (Jvm.Cond.instanceMethod ({ cls := "FourWordsModel", name := "two", desc := "(I)V" } : Jvm.MethodName)) ∈ wg_all := wg_t (i := 515) (by decide +kernel) (by decide +kernel)
theorem mw_t516 : (Jvm.Cond.selects "FourWordsModel" ({ cls := "FourWordsModel", name := "two", desc := "(I)V" } : Jvm.MethodName) ({ cls := "FourWordsModel", name := "two", desc := "(I)V" } : Jvm.MethodName)) ∈ wg_all := wg_t (i := 516) (by decide +kernel) (by decide +kernel)
theorem mw_t517 : (Jvm.Cond.code ({ cls := "FourWordsModel", name := "two", desc := "(I)V" } : Jvm.MethodName) prog_5_method_26_code (6 : Nat) (Option.none : Option Jvm.ClassFile.FieldType)) ∈ wg_all := wg_t (i := 517) (by decide +kernel) (by decide +kernel)
theorem mw_t518 : (Jvm.Cond.methodLink "FourWordsModel" (116 : Nat) ({ cls := "FourWordsModel", name := "wider", desc := "()I" } : Jvm.MethodName)) ∈ wg_all := wg_t (i := 518) (by decide +kernel) (by decide +kernel)
theorem mw_t520 : (Jvm.Cond.instanceMethod ({ cls := "FourWordsModel", name := "wider", desc := "()I" } : Jvm.MethodName)) ∈ wg_all := wg_t (i := 520) (by decide +kernel) (by decide +kernel)
theorem mw_t521 : (Jvm.Cond.code ({ cls := "FourWordsModel", name := "wider", desc := "()I" } : Jvm.MethodName) prog_5_method_11_code (1 : Nat) (Option.some Jvm.ClassFile.FieldType.int)) ∈ wg_all := wg_t (i := 521) (by decide +kernel) (by decide +kernel)
theorem mw_t522 : (Jvm.Cond.methodLink "FourWordsModel" (50 : Nat) ({ cls := "FourWordsModel", name := "take", desc := "(I[BIZ)V" } : Jvm.MethodName)) ∈ wg_all := wg_t (i := 522) (by decide +kernel) (by decide +kernel)
theorem mw_t524 : (Jvm.Cond.instanceMethod ({ cls := "FourWordsModel", name := "take", desc := "(I[BIZ)V" } : Jvm.MethodName)) ∈ wg_all := wg_t (i := 524) (by decide +kernel) (by decide +kernel)
theorem mw_t525 : (Jvm.Cond.code ({ cls := "FourWordsModel", name := "take", desc := "(I[BIZ)V" } : Jvm.MethodName) prog_5_method_5_code (6 : Nat) (Option.none : Option Jvm.ClassFile.FieldType)) ∈ wg_all := wg_t (i := 525) (by decide +kernel) (by decide +kernel)
theorem mw_t526 : (Jvm.Cond.methodLink "FourWordsModel" (120 : Nat) ({ cls := "FourWordsModel", name := "reckon", desc := "(IZI)V" } : Jvm.MethodName)) ∈ wg_all := wg_t (i := 526) (by decide +kernel) (by decide +kernel)
theorem mw_t528 : (Jvm.Cond.instanceMethod ({ cls := "FourWordsModel", name := "reckon", desc := "(IZI)V" } : Jvm.MethodName)) ∈ wg_all := wg_t (i := 528) (by decide +kernel) (by decide +kernel)
theorem mw_t529 : (Jvm.Cond.code ({ cls := "FourWordsModel", name := "reckon", desc := "(IZI)V" } : Jvm.MethodName) prog_5_method_20_code (5 : Nat) (Option.none : Option Jvm.ClassFile.FieldType)) ∈ wg_all := wg_t (i := 529) (by decide +kernel) (by decide +kernel)
theorem mw_t530 : (Jvm.Cond.methodLink "FourWordsModel" (46 : Nat) ({ cls := "FourWordsModel", name := "dark", desc := "([BI)Z" } : Jvm.MethodName)) ∈ wg_all := wg_t (i := 530) (by decide +kernel) (by decide +kernel)
theorem mw_t531 : (Jvm.Cond.static ({ cls := "FourWordsModel", name := "dark", desc := "([BI)Z" } : Jvm.MethodName)) ∈ wg_all := wg_t (i := 531) (by decide +kernel) (by decide +kernel)
theorem mw_t532 : (Jvm.Cond.code ({ cls := "FourWordsModel", name := "dark", desc := "([BI)Z" } : Jvm.MethodName) prog_5_method_6_code (3 : Nat) (Option.some Jvm.ClassFile.FieldType.boolean)) ∈ wg_all := wg_t (i := 532) (by decide +kernel) (by decide +kernel)
theorem mw_t533 : (Jvm.Cond.methodLink "FourWordsModel" (80 : Nat) ({ cls := "FourWordsModel", name := "isZero", desc := "([BI)Z" } : Jvm.MethodName)) ∈ wg_all := wg_t (i := 533) (by decide +kernel) (by decide +kernel)
theorem mw_t534 : (Jvm.Cond.static ({ cls := "FourWordsModel", name := "isZero", desc := "([BI)Z" } : Jvm.MethodName)) ∈ wg_all := wg_t (i := 534) (by decide +kernel) (by decide +kernel)
theorem mw_t535 : (Jvm.Cond.code ({ cls := "FourWordsModel", name := "isZero", desc := "([BI)Z" } : Jvm.MethodName) prog_5_method_16_code (3 : Nat) (Option.some Jvm.ClassFile.FieldType.boolean)) ∈ wg_all := wg_t (i := 535) (by decide +kernel) (by decide +kernel)
theorem mw_t536 : (Jvm.Cond.methodLink "FourWordsModel" (64 : Nat) ({ cls := "FourWordsModel", name := "fill", desc := "([BII)V" } : Jvm.MethodName)) ∈ wg_all := wg_t (i := 536) (by decide +kernel) (by decide +kernel)
theorem mw_t537 : (Jvm.Cond.static ({ cls := "FourWordsModel", name := "fill", desc := "([BII)V" } : Jvm.MethodName)) ∈ wg_all := wg_t (i := 537) (by decide +kernel) (by decide +kernel)
theorem mw_t538 : (Jvm.Cond.code ({ cls := "FourWordsModel", name := "fill", desc := "([BII)V" } : Jvm.MethodName) prog_5_method_7_code (4 : Nat) (Option.none : Option Jvm.ClassFile.FieldType)) ∈ wg_all := wg_t (i := 538) (by decide +kernel) (by decide +kernel)
theorem mw_t539 : (Jvm.Cond.methodLink "FourWordsModel" (83 : Nat) ({ cls := "FourWordsModel", name := "add", desc := "([B[B[BII)V" } : Jvm.MethodName)) ∈ wg_all := wg_t (i := 539) (by decide +kernel) (by decide +kernel)
theorem mw_t540 : (Jvm.Cond.static ({ cls := "FourWordsModel", name := "add", desc := "([B[B[BII)V" } : Jvm.MethodName)) ∈ wg_all := wg_t (i := 540) (by decide +kernel) (by decide +kernel)
theorem mw_t541 : (Jvm.Cond.code ({ cls := "FourWordsModel", name := "add", desc := "([B[B[BII)V" } : Jvm.MethodName) prog_5_method_13_code (8 : Nat) (Option.none : Option Jvm.ClassFile.FieldType)) ∈ wg_all := wg_t (i := 541) (by decide +kernel) (by decide +kernel)
theorem mw_t542 : (Jvm.Cond.methodLink "FourWordsModel" (87 : Nat) ({ cls := "FourWordsModel", name := "multiply", desc := "(I)V" } : Jvm.MethodName)) ∈ wg_all := wg_t (i := 542) (by decide +kernel) (by decide +kernel)
theorem mw_t544 : (Jvm.Cond.instanceMethod ({ cls := "FourWordsModel", name := "multiply", desc := "(I)V" } : Jvm.MethodName)) ∈ wg_all := wg_t (i := 544) (by decide +kernel) (by decide +kernel)
theorem mw_t545 : (Jvm.Cond.code ({ cls := "FourWordsModel", name := "multiply", desc := "(I)V" } : Jvm.MethodName) prog_5_method_15_code (6 : Nat) (Option.none : Option Jvm.ClassFile.FieldType)) ∈ wg_all := wg_t (i := 545) (by decide +kernel) (by decide +kernel)
theorem mw_t546 : (Jvm.Cond.methodLink "FourWordsModel" (90 : Nat) ({ cls := "FourWordsModel", name := "quotient", desc := "(IZI)V" } : Jvm.MethodName)) ∈ wg_all := wg_t (i := 546) (by decide +kernel) (by decide +kernel)
theorem mw_t548 : (Jvm.Cond.instanceMethod ({ cls := "FourWordsModel", name := "quotient", desc := "(IZI)V" } : Jvm.MethodName)) ∈ wg_all := wg_t (i := 548) (by decide +kernel) (by decide +kernel)
theorem mw_t549 : (Jvm.Cond.code ({ cls := "FourWordsModel", name := "quotient", desc := "(IZI)V" } : Jvm.MethodName) prog_5_method_19_code (7 : Nat) (Option.none : Option Jvm.ClassFile.FieldType)) ∈ wg_all := wg_t (i := 549) (by decide +kernel) (by decide +kernel)
theorem mw_t550 : (Jvm.Cond.methodLink "FourWordsModel" (72 : Nat) ({ cls := "FourWordsModel", name := "negate", desc := "([BI)V" } : Jvm.MethodName)) ∈ wg_all := wg_t (i := 550) (by decide +kernel) (by decide +kernel)
theorem mw_t551 : (Jvm.Cond.static ({ cls := "FourWordsModel", name := "negate", desc := "([BI)V" } : Jvm.MethodName)) ∈ wg_all := wg_t (i := 551) (by decide +kernel) (by decide +kernel)
theorem mw_t552 : (Jvm.Cond.code ({ cls := "FourWordsModel", name := "negate", desc := "([BI)V" } : Jvm.MethodName) prog_5_method_14_code (5 : Nat) (Option.none : Option Jvm.ClassFile.FieldType)) ∈ wg_all := wg_t (i := 552) (by decide +kernel) (by decide +kernel)
theorem mw_t553 : (Jvm.Cond.methodLink "FourWordsModel" (76 : Nat) ({ cls := "FourWordsModel", name := "divide", desc := "(I)V" } : Jvm.MethodName)) ∈ wg_all := wg_t (i := 553) (by decide +kernel) (by decide +kernel)
theorem mw_t555 : (Jvm.Cond.instanceMethod ({ cls := "FourWordsModel", name := "divide", desc := "(I)V" } : Jvm.MethodName)) ∈ wg_all := wg_t (i := 555) (by decide +kernel) (by decide +kernel)
theorem mw_t556 : (Jvm.Cond.code ({ cls := "FourWordsModel", name := "divide", desc := "(I)V" } : Jvm.MethodName) prog_5_method_18_code (6 : Nat) (Option.none : Option Jvm.ClassFile.FieldType)) ∈ wg_all := wg_t (i := 556) (by decide +kernel) (by decide +kernel)
theorem mw_t557 : (Jvm.Cond.methodLink "FourWordsModel" (68 : Nat) ({ cls := "FourWordsModel", name := "reaches", desc := "(I)Z" } : Jvm.MethodName)) ∈ wg_all := wg_t (i := 557) (by decide +kernel) (by decide +kernel)
theorem mw_t559 : (Jvm.Cond.instanceMethod ({ cls := "FourWordsModel", name := "reaches", desc := "(I)Z" } : Jvm.MethodName)) ∈ wg_all := wg_t (i := 559) (by decide +kernel) (by decide +kernel)
theorem mw_t560 : (Jvm.Cond.code ({ cls := "FourWordsModel", name := "reaches", desc := "(I)Z" } : Jvm.MethodName) prog_5_method_17_code (3 : Nat) (Option.some Jvm.ClassFile.FieldType.boolean)) ∈ wg_all := wg_t (i := 560) (by decide +kernel) (by decide +kernel)
theorem mw_t561 : (Jvm.Cond.methodLink "FourWordsModel" (108 : Nat) ({ cls := "FourWordsModel", name := "logic", desc := "(III)I" } : Jvm.MethodName)) ∈ wg_all := wg_t (i := 561) (by decide +kernel) (by decide +kernel)
theorem mw_t562 : (Jvm.Cond.static ({ cls := "FourWordsModel", name := "logic", desc := "(III)I" } : Jvm.MethodName)) ∈ wg_all := wg_t (i := 562) (by decide +kernel) (by decide +kernel)
theorem mw_t563 : (Jvm.Cond.code ({ cls := "FourWordsModel", name := "logic", desc := "(III)I" } : Jvm.MethodName) prog_5_method_21_code (4 : Nat) (Option.some Jvm.ClassFile.FieldType.int)) ∈ wg_all := wg_t (i := 563) (by decide +kernel) (by decide +kernel)
theorem mw_t564 : (Jvm.Cond.methodLink "FourWordsModel" (123 : Nat) ({ cls := "FourWordsModel", name := "asked", desc := "(IZI)I" } : Jvm.MethodName)) ∈ wg_all := wg_t (i := 564) (by decide +kernel) (by decide +kernel)
theorem mw_t566 : (Jvm.Cond.instanceMethod ({ cls := "FourWordsModel", name := "asked", desc := "(IZI)I" } : Jvm.MethodName)) ∈ wg_all := wg_t (i := 566) (by decide +kernel) (by decide +kernel)
theorem mw_t567 : (Jvm.Cond.code ({ cls := "FourWordsModel", name := "asked", desc := "(IZI)I" } : Jvm.MethodName) prog_5_method_25_code (5 : Nat) (Option.some Jvm.ClassFile.FieldType.int)) ∈ wg_all := wg_t (i := 567) (by decide +kernel) (by decide +kernel)
theorem mw_t568 : (Jvm.Cond.methodLink "FourWordsModel" (94 : Nat) ({ cls := "FourWordsModel", name := "equal", desc := "(I)I" } : Jvm.MethodName)) ∈ wg_all := wg_t (i := 568) (by decide +kernel) (by decide +kernel)
theorem mw_t570 : (Jvm.Cond.instanceMethod ({ cls := "FourWordsModel", name := "equal", desc := "(I)I" } : Jvm.MethodName)) ∈ wg_all := wg_t (i := 570) (by decide +kernel) (by decide +kernel)
theorem mw_t571 : (Jvm.Cond.code ({ cls := "FourWordsModel", name := "equal", desc := "(I)I" } : Jvm.MethodName) prog_5_method_22_code (3 : Nat) (Option.some Jvm.ClassFile.FieldType.int)) ∈ wg_all := wg_t (i := 571) (by decide +kernel) (by decide +kernel)
theorem mw_t572 : (Jvm.Cond.methodLink "FourWordsModel" (98 : Nat) ({ cls := "FourWordsModel", name := "opposite", desc := "(I)I" } : Jvm.MethodName)) ∈ wg_all := wg_t (i := 572) (by decide +kernel) (by decide +kernel)
theorem mw_t573 : (Jvm.Cond.static ({ cls := "FourWordsModel", name := "opposite", desc := "(I)I" } : Jvm.MethodName)) ∈ wg_all := wg_t (i := 573) (by decide +kernel) (by decide +kernel)
theorem mw_t574 : (Jvm.Cond.code ({ cls := "FourWordsModel", name := "opposite", desc := "(I)I" } : Jvm.MethodName) prog_5_method_9_code (1 : Nat) (Option.some Jvm.ClassFile.FieldType.int)) ∈ wg_all := wg_t (i := 574) (by decide +kernel) (by decide +kernel)
theorem mw_t575 : (Jvm.Cond.methodLink "FourWordsModel" (101 : Nat) ({ cls := "FourWordsModel", name := "same", desc := "(I)Z" } : Jvm.MethodName)) ∈ wg_all := wg_t (i := 575) (by decide +kernel) (by decide +kernel)
theorem mw_t577 : (Jvm.Cond.instanceMethod ({ cls := "FourWordsModel", name := "same", desc := "(I)Z" } : Jvm.MethodName)) ∈ wg_all := wg_t (i := 577) (by decide +kernel) (by decide +kernel)
theorem mw_t578 : (Jvm.Cond.code ({ cls := "FourWordsModel", name := "same", desc := "(I)Z" } : Jvm.MethodName) prog_5_method_23_code (3 : Nat) (Option.some Jvm.ClassFile.FieldType.boolean)) ∈ wg_all := wg_t (i := 578) (by decide +kernel) (by decide +kernel)
theorem mw_t579 : (Jvm.Cond.methodLink "FourWordsModel" (104 : Nat) ({ cls := "FourWordsModel", name := "truth", desc := "([BI)I" } : Jvm.MethodName)) ∈ wg_all := wg_t (i := 579) (by decide +kernel) (by decide +kernel)
theorem mw_t580 : (Jvm.Cond.static ({ cls := "FourWordsModel", name := "truth", desc := "([BI)I" } : Jvm.MethodName)) ∈ wg_all := wg_t (i := 580) (by decide +kernel) (by decide +kernel)
theorem mw_t581 : (Jvm.Cond.code ({ cls := "FourWordsModel", name := "truth", desc := "([BI)I" } : Jvm.MethodName) prog_5_method_8_code (3 : Nat) (Option.some Jvm.ClassFile.FieldType.int)) ∈ wg_all := wg_t (i := 581) (by decide +kernel) (by decide +kernel)
theorem mw_t582 : (Jvm.Cond.methodLink "FourWordsModel" (112 : Nat) ({ cls := "FourWordsModel", name := "order", desc := "(ZI)I" } : Jvm.MethodName)) ∈ wg_all := wg_t (i := 582) (by decide +kernel) (by decide +kernel)
theorem mw_t584 : (Jvm.Cond.instanceMethod ({ cls := "FourWordsModel", name := "order", desc := "(ZI)I" } : Jvm.MethodName)) ∈ wg_all := wg_t (i := 584) (by decide +kernel) (by decide +kernel)
theorem mw_t585 : (Jvm.Cond.code ({ cls := "FourWordsModel", name := "order", desc := "(ZI)I" } : Jvm.MethodName) prog_5_method_24_code (4 : Nat) (Option.some Jvm.ClassFile.FieldType.int)) ∈ wg_all := wg_t (i := 585) (by decide +kernel) (by decide +kernel)
theorem mw_t586 : (Jvm.Cond.methodLink "FourWordsLaw" (86 : Nat) ({ cls := "FourWordsModel", name := "shift", desc := "(I)V" } : Jvm.MethodName)) ∈ wg_all := wg_t (i := 586) (by decide +kernel) (by decide +kernel)
theorem mw_t587 : (Jvm.Cond.instanceMethod ({ cls := "FourWordsModel", name := "shift", desc := "(I)V" } : Jvm.MethodName)) ∈ wg_all := wg_t (i := 587) (by decide +kernel) (by decide +kernel)
theorem mw_t588 : (Jvm.Cond.selects "FourWordsModel" ({ cls := "FourWordsModel", name := "shift", desc := "(I)V" } : Jvm.MethodName) ({ cls := "FourWordsModel", name := "shift", desc := "(I)V" } : Jvm.MethodName)) ∈ wg_all := wg_t (i := 588) (by decide +kernel) (by decide +kernel)
theorem mw_t589 : (Jvm.Cond.code ({ cls := "FourWordsModel", name := "shift", desc := "(I)V" } : Jvm.MethodName) prog_5_method_28_code (8 : Nat) (Option.none : Option Jvm.ClassFile.FieldType)) ∈ wg_all := wg_t (i := 589) (by decide +kernel) (by decide +kernel)
theorem mw_t590 : (Jvm.Cond.methodLink "FourWordsModel" (127 : Nat) ({ cls := "FourWordsModel", name := "amount", desc := "(II)I" } : Jvm.MethodName)) ∈ wg_all := wg_t (i := 590) (by decide +kernel) (by decide +kernel)
theorem mw_t592 : (Jvm.Cond.instanceMethod ({ cls := "FourWordsModel", name := "amount", desc := "(II)I" } : Jvm.MethodName)) ∈ wg_all := wg_t (i := 592) (by decide +kernel) (by decide +kernel)
theorem mw_t593 : (Jvm.Cond.code ({ cls := "FourWordsModel", name := "amount", desc := "(II)I" } : Jvm.MethodName) prog_5_method_27_code (5 : Nat) (Option.some Jvm.ClassFile.FieldType.int)) ∈ wg_all := wg_t (i := 593) (by decide +kernel) (by decide +kernel)
theorem mw_t594 : (Jvm.Cond.methodLink "FourWordsLaw" (89 : Nat) ({ cls := "FourWordsModel", name := "one", desc := "(I)V" } : Jvm.MethodName)) ∈ wg_all := wg_t (i := 594) (by decide +kernel) (by decide +kernel)
theorem mw_t595 : (Jvm.Cond.instanceMethod ({ cls := "FourWordsModel", name := "one", desc := "(I)V" } : Jvm.MethodName)) ∈ wg_all := wg_t (i := 595) (by decide +kernel) (by decide +kernel)
theorem mw_t596 : (Jvm.Cond.selects "FourWordsModel" ({ cls := "FourWordsModel", name := "one", desc := "(I)V" } : Jvm.MethodName) ({ cls := "FourWordsModel", name := "one", desc := "(I)V" } : Jvm.MethodName)) ∈ wg_all := wg_t (i := 596) (by decide +kernel) (by decide +kernel)
theorem mw_t597 : (Jvm.Cond.code ({ cls := "FourWordsModel", name := "one", desc := "(I)V" } : Jvm.MethodName) prog_5_method_29_code (7 : Nat) (Option.none : Option Jvm.ClassFile.FieldType)) ∈ wg_all := wg_t (i := 597) (by decide +kernel) (by decide +kernel)
theorem mw_t598 : (Jvm.Cond.methodLink "FourWordsLaw" (93 : Nat) ({ cls := "FourWordsModel", name := "choose", desc := "()V" } : Jvm.MethodName)) ∈ wg_all := wg_t (i := 598) (by decide +kernel) (by decide +kernel)
theorem mw_t599 : (Jvm.Cond.instanceMethod ({ cls := "FourWordsModel", name := "choose", desc := "()V" } : Jvm.MethodName)) ∈ wg_all := wg_t (i := 599) (by decide +kernel) (by decide +kernel)
theorem mw_t600 : (Jvm.Cond.selects "FourWordsModel" ({ cls := "FourWordsModel", name := "choose", desc := "()V" } : Jvm.MethodName) ({ cls := "FourWordsModel", name := "choose", desc := "()V" } : Jvm.MethodName)) ∈ wg_all := wg_t (i := 600) (by decide +kernel) (by decide +kernel)
theorem mw_t601 : (Jvm.Cond.code ({ cls := "FourWordsModel", name := "choose", desc := "()V" } : Jvm.MethodName) prog_5_method_30_code (6 : Nat) (Option.none : Option Jvm.ClassFile.FieldType)) ∈ wg_all := wg_t (i := 601) (by decide +kernel) (by decide +kernel)
theorem mw_t602 : (Jvm.Cond.methodLink "FourWordsModel" (131 : Nat) ({ cls := "FourWordsModel", name := "bring", desc := "(ZI)V" } : Jvm.MethodName)) ∈ wg_all := wg_t (i := 602) (by decide +kernel) (by decide +kernel)
theorem mw_t604 : (Jvm.Cond.instanceMethod ({ cls := "FourWordsModel", name := "bring", desc := "(ZI)V" } : Jvm.MethodName)) ∈ wg_all := wg_t (i := 604) (by decide +kernel) (by decide +kernel)
theorem mw_t605 : (Jvm.Cond.code ({ cls := "FourWordsModel", name := "bring", desc := "(ZI)V" } : Jvm.MethodName) prog_5_method_10_code (3 : Nat) (Option.none : Option Jvm.ClassFile.FieldType)) ∈ wg_all := wg_t (i := 605) (by decide +kernel) (by decide +kernel)
theorem mw_t606 : (Jvm.Cond.methodLink "FourWordsLaw" (96 : Nat) ({ cls := "FourWordsModel", name := "join", desc := "()V" } : Jvm.MethodName)) ∈ wg_all := wg_t (i := 606) (by decide +kernel) (by decide +kernel)
theorem mw_t607 : (Jvm.Cond.instanceMethod ({ cls := "FourWordsModel", name := "join", desc := "()V" } : Jvm.MethodName)) ∈ wg_all := wg_t (i := 607) (by decide +kernel) (by decide +kernel)
theorem mw_t608 : (Jvm.Cond.selects "FourWordsModel" ({ cls := "FourWordsModel", name := "join", desc := "()V" } : Jvm.MethodName) ({ cls := "FourWordsModel", name := "join", desc := "()V" } : Jvm.MethodName)) ∈ wg_all := wg_t (i := 608) (by decide +kernel) (by decide +kernel)
theorem mw_t609 : (Jvm.Cond.code ({ cls := "FourWordsModel", name := "join", desc := "()V" } : Jvm.MethodName) prog_5_method_31_code (5 : Nat) (Option.none : Option Jvm.ClassFile.FieldType)) ∈ wg_all := wg_t (i := 609) (by decide +kernel) (by decide +kernel)
theorem mw_t610 : (Jvm.Cond.methodLink "FourWordsLaw" (99 : Nat) ({ cls := "FourWordsModel", name := "copies", desc := "(I)V" } : Jvm.MethodName)) ∈ wg_all := wg_t (i := 610) (by decide +kernel) (by decide +kernel)
theorem mw_t611 : (Jvm.Cond.instanceMethod ({ cls := "FourWordsModel", name := "copies", desc := "(I)V" } : Jvm.MethodName)) ∈ wg_all := wg_t (i := 611) (by decide +kernel) (by decide +kernel)
theorem mw_t612 : (Jvm.Cond.selects "FourWordsModel" ({ cls := "FourWordsModel", name := "copies", desc := "(I)V" } : Jvm.MethodName) ({ cls := "FourWordsModel", name := "copies", desc := "(I)V" } : Jvm.MethodName)) ∈ wg_all := wg_t (i := 612) (by decide +kernel) (by decide +kernel)
theorem mw_t613 : (Jvm.Cond.code ({ cls := "FourWordsModel", name := "copies", desc := "(I)V" } : Jvm.MethodName) prog_5_method_32_code (5 : Nat) (Option.none : Option Jvm.ClassFile.FieldType)) ∈ wg_all := wg_t (i := 613) (by decide +kernel) (by decide +kernel)
theorem mw_t614 : (Jvm.Cond.constantLong "FourWordsModel" (135 : Nat) (64 : Int64)) ∈ wg_all := wg_t (i := 614) (by decide +kernel) (by decide +kernel)
theorem mw_t615 : (Jvm.Cond.methodLink "FourWordsLaw" (103 : Nat) ({ cls := "FourWordsModel", name := "part", desc := "(II)V" } : Jvm.MethodName)) ∈ wg_all := wg_t (i := 615) (by decide +kernel) (by decide +kernel)
theorem mw_t616 : (Jvm.Cond.instanceMethod ({ cls := "FourWordsModel", name := "part", desc := "(II)V" } : Jvm.MethodName)) ∈ wg_all := wg_t (i := 616) (by decide +kernel) (by decide +kernel)
theorem mw_t617 : (Jvm.Cond.selects "FourWordsModel" ({ cls := "FourWordsModel", name := "part", desc := "(II)V" } : Jvm.MethodName) ({ cls := "FourWordsModel", name := "part", desc := "(II)V" } : Jvm.MethodName)) ∈ wg_all := wg_t (i := 617) (by decide +kernel) (by decide +kernel)
theorem mw_t618 : (Jvm.Cond.code ({ cls := "FourWordsModel", name := "part", desc := "(II)V" } : Jvm.MethodName) prog_5_method_33_code (5 : Nat) (Option.none : Option Jvm.ClassFile.FieldType)) ∈ wg_all := wg_t (i := 618) (by decide +kernel) (by decide +kernel)
theorem mw_t619 : (Jvm.Cond.methodLink "FourWordsLaw" (106 : Nat) ({ cls := "FourWordsModel", name := "bit", desc := "()V" } : Jvm.MethodName)) ∈ wg_all := wg_t (i := 619) (by decide +kernel) (by decide +kernel)
theorem mw_t620 : (Jvm.Cond.instanceMethod ({ cls := "FourWordsModel", name := "bit", desc := "()V" } : Jvm.MethodName)) ∈ wg_all := wg_t (i := 620) (by decide +kernel) (by decide +kernel)
theorem mw_t621 : (Jvm.Cond.selects "FourWordsModel" ({ cls := "FourWordsModel", name := "bit", desc := "()V" } : Jvm.MethodName) ({ cls := "FourWordsModel", name := "bit", desc := "()V" } : Jvm.MethodName)) ∈ wg_all := wg_t (i := 621) (by decide +kernel) (by decide +kernel)
theorem mw_t622 : (Jvm.Cond.code ({ cls := "FourWordsModel", name := "bit", desc := "()V" } : Jvm.MethodName) prog_5_method_34_code (5 : Nat) (Option.none : Option Jvm.ClassFile.FieldType)) ∈ wg_all := wg_t (i := 622) (by decide +kernel) (by decide +kernel)
theorem mw_t623 : (Jvm.Cond.methodLink "FourWordsLaw" (110 : Nat) ({ cls := "FourWordsModel", name := "as", desc := "(IZ)V" } : Jvm.MethodName)) ∈ wg_all := wg_t (i := 623) (by decide +kernel) (by decide +kernel)
theorem mw_t624 : (Jvm.Cond.instanceMethod ({ cls := "FourWordsModel", name := "as", desc := "(IZ)V" } : Jvm.MethodName)) ∈ wg_all := wg_t (i := 624) (by decide +kernel) (by decide +kernel)
theorem mw_t625 : (Jvm.Cond.selects "FourWordsModel" ({ cls := "FourWordsModel", name := "as", desc := "(IZ)V" } : Jvm.MethodName) ({ cls := "FourWordsModel", name := "as", desc := "(IZ)V" } : Jvm.MethodName)) ∈ wg_all := wg_t (i := 625) (by decide +kernel) (by decide +kernel)
theorem mw_t626 : (Jvm.Cond.code ({ cls := "FourWordsModel", name := "as", desc := "(IZ)V" } : Jvm.MethodName) prog_5_method_35_code (3 : Nat) (Option.none : Option Jvm.ClassFile.FieldType)) ∈ wg_all := wg_t (i := 626) (by decide +kernel) (by decide +kernel)
theorem mw_t627 : (Jvm.Cond.methodLink "FourWordsLaw" (113 : Nat) ({ cls := "FourWordsModel", name := "again", desc := "(I)V" } : Jvm.MethodName)) ∈ wg_all := wg_t (i := 627) (by decide +kernel) (by decide +kernel)
theorem mw_t628 : (Jvm.Cond.instanceMethod ({ cls := "FourWordsModel", name := "again", desc := "(I)V" } : Jvm.MethodName)) ∈ wg_all := wg_t (i := 628) (by decide +kernel) (by decide +kernel)
theorem mw_t629 : (Jvm.Cond.selects "FourWordsModel" ({ cls := "FourWordsModel", name := "again", desc := "(I)V" } : Jvm.MethodName) ({ cls := "FourWordsModel", name := "again", desc := "(I)V" } : Jvm.MethodName)) ∈ wg_all := wg_t (i := 629) (by decide +kernel) (by decide +kernel)
theorem mw_t630 : (Jvm.Cond.code ({ cls := "FourWordsModel", name := "again", desc := "(I)V" } : Jvm.MethodName) prog_5_method_36_code (3 : Nat) (Option.none : Option Jvm.ClassFile.FieldType)) ∈ wg_all := wg_t (i := 630) (by decide +kernel) (by decide +kernel)
theorem mw_t631 : (Jvm.Cond.methodLink "FourWordsLaw" (117 : Nat) ({ cls := "FourWordsModel", name := "text", desc := "(IZ)I" } : Jvm.MethodName)) ∈ wg_all := wg_t (i := 631) (by decide +kernel) (by decide +kernel)
theorem mw_t632 : (Jvm.Cond.instanceMethod ({ cls := "FourWordsModel", name := "text", desc := "(IZ)I" } : Jvm.MethodName)) ∈ wg_all := wg_t (i := 632) (by decide +kernel) (by decide +kernel)
theorem mw_t633 : (Jvm.Cond.selects "FourWordsModel" ({ cls := "FourWordsModel", name := "text", desc := "(IZ)I" } : Jvm.MethodName) ({ cls := "FourWordsModel", name := "text", desc := "(IZ)I" } : Jvm.MethodName)) ∈ wg_all := wg_t (i := 633) (by decide +kernel) (by decide +kernel)
theorem mw_t634 : (Jvm.Cond.code ({ cls := "FourWordsModel", name := "text", desc := "(IZ)I" } : Jvm.MethodName) prog_5_method_42_code (5 : Nat) (Option.some Jvm.ClassFile.FieldType.int)) ∈ wg_all := wg_t (i := 634) (by decide +kernel) (by decide +kernel)
theorem mw_t635 : (Jvm.Cond.methodLink "FourWordsModel" (150 : Nat) ({ cls := "FourWordsModel", name := "number", desc := "(IZZ)V" } : Jvm.MethodName)) ∈ wg_all := wg_t (i := 635) (by decide +kernel) (by decide +kernel)
theorem mw_t637 : (Jvm.Cond.instanceMethod ({ cls := "FourWordsModel", name := "number", desc := "(IZZ)V" } : Jvm.MethodName)) ∈ wg_all := wg_t (i := 637) (by decide +kernel) (by decide +kernel)
theorem mw_t638 : (Jvm.Cond.code ({ cls := "FourWordsModel", name := "number", desc := "(IZZ)V" } : Jvm.MethodName) prog_5_method_41_code (9 : Nat) (Option.none : Option Jvm.ClassFile.FieldType)) ∈ wg_all := wg_t (i := 638) (by decide +kernel) (by decide +kernel)
theorem mw_t639 : (Jvm.Cond.methodLink "FourWordsModel" (146 : Nat) ({ cls := "FourWordsModel", name := "decimal", desc := "([BI[B)I" } : Jvm.MethodName)) ∈ wg_all := wg_t (i := 639) (by decide +kernel) (by decide +kernel)
theorem mw_t641 : (Jvm.Cond.instanceMethod ({ cls := "FourWordsModel", name := "decimal", desc := "([BI[B)I" } : Jvm.MethodName)) ∈ wg_all := wg_t (i := 641) (by decide +kernel) (by decide +kernel)
theorem mw_t642 : (Jvm.Cond.code ({ cls := "FourWordsModel", name := "decimal", desc := "([BI[B)I" } : Jvm.MethodName) prog_5_method_40_code (9 : Nat) (Option.some Jvm.ClassFile.FieldType.int)) ∈ wg_all := wg_t (i := 642) (by decide +kernel) (by decide +kernel)
theorem mw_t643 : (Jvm.Cond.methodLink "FourWordsModel" (140 : Nat) ({ cls := "FourWordsModel", name := "sort", desc := "(II)I" } : Jvm.MethodName)) ∈ wg_all := wg_t (i := 643) (by decide +kernel) (by decide +kernel)
theorem mw_t645 : (Jvm.Cond.instanceMethod ({ cls := "FourWordsModel", name := "sort", desc := "(II)I" } : Jvm.MethodName)) ∈ wg_all := wg_t (i := 645) (by decide +kernel) (by decide +kernel)
theorem mw_t646 : (Jvm.Cond.code ({ cls := "FourWordsModel", name := "sort", desc := "(II)I" } : Jvm.MethodName) prog_5_method_38_code (6 : Nat) (Option.some Jvm.ClassFile.FieldType.int)) ∈ wg_all := wg_t (i := 646) (by decide +kernel) (by decide +kernel)
theorem mw_t647 : (Jvm.Cond.methodLink "FourWordsModel" (143 : Nat) ({ cls := "FourWordsModel", name := "put", desc := "(I)V" } : Jvm.MethodName)) ∈ wg_all := wg_t (i := 647) (by decide +kernel) (by decide +kernel)
theorem mw_t649 : (Jvm.Cond.instanceMethod ({ cls := "FourWordsModel", name := "put", desc := "(I)V" } : Jvm.MethodName)) ∈ wg_all := wg_t (i := 649) (by decide +kernel) (by decide +kernel)
theorem mw_t650 : (Jvm.Cond.code ({ cls := "FourWordsModel", name := "put", desc := "(I)V" } : Jvm.MethodName) prog_5_method_37_code (2 : Nat) (Option.none : Option Jvm.ClassFile.FieldType)) ∈ wg_all := wg_t (i := 650) (by decide +kernel) (by decide +kernel)
theorem mw_t651 : (Jvm.Cond.methodLink "FourWordsModel" (154 : Nat) ({ cls := "FourWordsModel", name := "groups", desc := "(IIZ)V" } : Jvm.MethodName)) ∈ wg_all := wg_t (i := 651) (by decide +kernel) (by decide +kernel)
theorem mw_t653 : (Jvm.Cond.instanceMethod ({ cls := "FourWordsModel", name := "groups", desc := "(IIZ)V" } : Jvm.MethodName)) ∈ wg_all := wg_t (i := 653) (by decide +kernel) (by decide +kernel)
theorem mw_t654 : (Jvm.Cond.code ({ cls := "FourWordsModel", name := "groups", desc := "(IIZ)V" } : Jvm.MethodName) prog_5_method_39_code (10 : Nat) (Option.none : Option Jvm.ClassFile.FieldType)) ∈ wg_all := wg_t (i := 654) (by decide +kernel) (by decide +kernel)
theorem mw_t655 : (Jvm.Cond.methodLink "FourWordsLaw" (121 : Nat) ({ cls := "FourWordsModel", name := "letter", desc := "(I)I" } : Jvm.MethodName)) ∈ wg_all := wg_t (i := 655) (by decide +kernel) (by decide +kernel)
theorem mw_t656 : (Jvm.Cond.instanceMethod ({ cls := "FourWordsModel", name := "letter", desc := "(I)I" } : Jvm.MethodName)) ∈ wg_all := wg_t (i := 656) (by decide +kernel) (by decide +kernel)
theorem mw_t657 : (Jvm.Cond.selects "FourWordsModel" ({ cls := "FourWordsModel", name := "letter", desc := "(I)I" } : Jvm.MethodName) ({ cls := "FourWordsModel", name := "letter", desc := "(I)I" } : Jvm.MethodName)) ∈ wg_all := wg_t (i := 657) (by decide +kernel) (by decide +kernel)
theorem mw_t658 : (Jvm.Cond.code ({ cls := "FourWordsModel", name := "letter", desc := "(I)I" } : Jvm.MethodName) prog_5_method_43_code (2 : Nat) (Option.some Jvm.ClassFile.FieldType.int)) ∈ wg_all := wg_t (i := 658) (by decide +kernel) (by decide +kernel)
theorem mw_t659 : (Jvm.Cond.methodLink "FourWordsLaw" (125 : Nat) ({ cls := "FourWordsModel", name := "told", desc := "(II)J" } : Jvm.MethodName)) ∈ wg_all := wg_t (i := 659) (by decide +kernel) (by decide +kernel)
theorem mw_t660 : (Jvm.Cond.instanceMethod ({ cls := "FourWordsModel", name := "told", desc := "(II)J" } : Jvm.MethodName)) ∈ wg_all := wg_t (i := 660) (by decide +kernel) (by decide +kernel)
theorem mw_t661 : (Jvm.Cond.selects "FourWordsModel" ({ cls := "FourWordsModel", name := "told", desc := "(II)J" } : Jvm.MethodName) ({ cls := "FourWordsModel", name := "told", desc := "(II)J" } : Jvm.MethodName)) ∈ wg_all := wg_t (i := 661) (by decide +kernel) (by decide +kernel)
theorem mw_t662 : (Jvm.Cond.code ({ cls := "FourWordsModel", name := "told", desc := "(II)J" } : Jvm.MethodName) prog_5_method_44_code (7 : Nat) (Option.some Jvm.ClassFile.FieldType.long)) ∈ wg_all := wg_t (i := 662) (by decide +kernel) (by decide +kernel)
theorem mw_t663 : (Jvm.Cond.methodLink "FourWordsLaw" (129 : Nat) ({ cls := "FourWordsModel", name := "count", desc := "(I)I" } : Jvm.MethodName)) ∈ wg_all := wg_t (i := 663) (by decide +kernel) (by decide +kernel)
theorem mw_t664 : (Jvm.Cond.instanceMethod ({ cls := "FourWordsModel", name := "count", desc := "(I)I" } : Jvm.MethodName)) ∈ wg_all := wg_t (i := 664) (by decide +kernel) (by decide +kernel)
theorem mw_t665 : (Jvm.Cond.selects "FourWordsModel" ({ cls := "FourWordsModel", name := "count", desc := "(I)I" } : Jvm.MethodName) ({ cls := "FourWordsModel", name := "count", desc := "(I)I" } : Jvm.MethodName)) ∈ wg_all := wg_t (i := 665) (by decide +kernel) (by decide +kernel)
theorem mw_t666 : (Jvm.Cond.code ({ cls := "FourWordsModel", name := "count", desc := "(I)I" } : Jvm.MethodName) prog_5_method_45_code (2 : Nat) (Option.some Jvm.ClassFile.FieldType.int)) ∈ wg_all := wg_t (i := 666) (by decide +kernel) (by decide +kernel)
theorem um_N : ∀ w ∈ u_ws "FourWords$Line" tb_N 2, w ∈ wg_all := by
  have h : u_ws "FourWords$Line" tb_N 2 = [(Jvm.Cond.laysFinal "FourWords$Line" "FourWords$Line" "letters" "[B"), (Jvm.Cond.lays "FourWords$Line" "FourWords$Line" "length" "I")] := by decide +kernel
  rw [h]
  intro w hw
  simp only [List.mem_cons, List.not_mem_nil, or_false] at hw
  rcases hw with rfl | rfl
  · exact mw_t31
  · exact mw_t33
theorem um_X : ∀ w ∈ u_ws "FourWords" tb_X 6, w ∈ wg_all := by
  have h : u_ws "FourWords" tb_X 6 = [(Jvm.Cond.laysFinal "FourWords" "FourWords" "onesRow" "[J"), (Jvm.Cond.laysFinal "FourWords" "FourWords" "unknownRow" "[J"), (Jvm.Cond.laysFinal "FourWords" "FourWords" "widthRow" "[I"), (Jvm.Cond.laysFinal "FourWords" "FourWords" "signedRow" "[Z"), (Jvm.Cond.laysFinal "FourWords" "FourWords" "line" "LFourWords$Line;"), (Jvm.Cond.lays "FourWords" "FourWords" "size" "I")] := by decide +kernel
  rw [h]
  intro w hw
  simp only [List.mem_cons, List.not_mem_nil, or_false] at hw
  rcases hw with rfl | rfl | rfl | rfl | rfl | rfl
  · exact mw_t46
  · exact mw_t48
  · exact mw_t50
  · exact mw_t52
  · exact mw_t54
  · exact mw_t56
theorem um_M : ∀ w ∈ u_ws "FourWordsModel" tb_M 12, w ∈ wg_all := by
  have h : u_ws "FourWordsModel" tb_M 12 = [(Jvm.Cond.laysFinal "FourWordsModel" "FourWordsModel" "bit" "[B"), (Jvm.Cond.laysFinal "FourWordsModel" "FourWordsModel" "width" "[I"), (Jvm.Cond.laysFinal "FourWordsModel" "FourWordsModel" "signed" "[Z"), (Jvm.Cond.laysFinal "FourWordsModel" "FourWordsModel" "a" "[B"), (Jvm.Cond.laysFinal "FourWordsModel" "FourWordsModel" "b" "[B"), (Jvm.Cond.laysFinal "FourWordsModel" "FourWordsModel" "c" "[B"), (Jvm.Cond.laysFinal "FourWordsModel" "FourWordsModel" "rest" "[B"), (Jvm.Cond.laysFinal "FourWordsModel" "FourWordsModel" "text" "[B"), (Jvm.Cond.lays "FourWordsModel" "FourWordsModel" "many" "I"), (Jvm.Cond.lays "FourWordsModel" "FourWordsModel" "size" "I"), (Jvm.Cond.lays "FourWordsModel" "FourWordsModel" "thrown" "I"), (Jvm.Cond.laysFinal "FourWordsModel" "FourWordsModel" "digits" "[B")] := by decide +kernel
  rw [h]
  intro w hw
  simp only [List.mem_cons, List.not_mem_nil, or_false] at hw
  rcases hw with rfl | rfl | rfl | rfl | rfl | rfl | rfl | rfl | rfl | rfl | rfl | rfl
  · exact mw_t472
  · exact mw_t474
  · exact mw_t476
  · exact mw_t478
  · exact mw_t480
  · exact mw_t482
  · exact mw_t484
  · exact mw_t486
  · exact mw_t488
  · exact mw_t490
  · exact mw_t492
  · exact mw_t494
