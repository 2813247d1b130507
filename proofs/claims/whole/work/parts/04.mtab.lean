/-! the methods of the small machine by their numbers: name, code, locals, what it returns -/
abbrev MI : Type := MethodName × ByteArray × Nat × Option FieldType
def mtab_0 : List MI := [(yX7_feed, prog_1_method_2_code, 6, (some .boolean)),
  (yX7_putBytes, prog_1_method_3_code, 3, none),
  (yX7_end, prog_1_method_4_code, 2, (some .boolean)),
  (yX7_illAt, prog_1_method_7_code, 1, (some .int)),
  (yX7_word, prog_1_method_8_code, 2, (some .int)),
  (yX7_names, prog_1_method_9_code, 1, (some .int)),
  (yX7_name, prog_1_method_10_code, 3, (some .int)),
  (yX7_reference, prog_1_method_11_code, 6, (some .int)),
  (yX7_referencePart, prog_1_method_12_code, 5, (some .int)),
  (yX7_print, prog_1_method_13_code, 1, (some .int)),
  (yX7_output, prog_1_method_14_code, 2, (some .int)),
  (yX7_again, prog_1_method_15_code, 2, none),
  (yX7_isPlain, prog_1_method_16_code, 2, (some .boolean)),
  (yX7_isDigit, prog_1_method_17_code, 1, (some .boolean)),
  (yX7_isLetter, prog_1_method_18_code, 1, (some .boolean)),
  (yX7_isWordPart, prog_1_method_19_code, 1, (some .boolean)),
  (yX7_capital, prog_1_method_20_code, 1, (some .int)),
  (yX7_wordEnd, prog_1_method_21_code, 3, (some .int)),
  (yX7_startsWith, prog_1_method_22_code, 4, (some .boolean)),
  (yX7_isSame, prog_1_method_23_code, 4, (some .boolean)),
  (yX7_functionNumber, prog_1_method_24_code, 4, (some .int)),
  (yX7_errorText, prog_1_method_25_code, 1, (some (.object "java/lang/String"))),
  (yX7_operationText, prog_1_method_26_code, 1, (some (.object "java/lang/String"))),
  (yX7_item, prog_1_method_27_code, 2, (some .int)),
  (yX7_kindOf, prog_1_method_28_code, 1, (some .int)),
  (yX7_xOf, prog_1_method_29_code, 1, (some .int)),
  (yX7_itemSize, prog_1_method_30_code, 1, (some .int)),
  (yX8_thrown, prog_10_method_2_code, 1, (some .int)),
  (yX8_row, prog_10_method_3_code, 8, none),
  (yX8_fill, prog_10_method_4_code, 1, none),
  (yX8_put, prog_10_method_5_code, 3, none),
  (yX8_feed, prog_10_method_6_code, 6, (some .boolean)),
  (yX8_end, prog_10_method_7_code, 3, (some .boolean)),
  (yX8_look, prog_10_method_8_code, 2, (some .int)),
  (yX8_great, prog_10_method_9_code, 1, (some .int)),
  (yX8_isLetter, prog_10_method_10_code, 1, (some .boolean)),
  (yX8_isDigit, prog_10_method_11_code, 1, (some .boolean)),
  (yX8_isWordPart, prog_10_method_12_code, 1, (some .boolean)),
  (yX8_wordEnd, prog_10_method_13_code, 3, (some .int)),
  (yX8_isSheet, prog_10_method_14_code, 6, (some .boolean)),
  (yX8_findSheet, prog_10_method_15_code, 3, (some .int)),
  (yX8_sheet, prog_10_method_16_code, 3, (some .int)),
  (yX8_isAlone, prog_10_method_17_code, 3, (some .boolean)),
  (yX8_column, prog_10_method_18_code, 3, (some .boolean)),
  (yX8_line, prog_10_method_19_code, 3, (some .boolean)),
  (yX8_place, prog_10_method_20_code, 3, (some .boolean)),
  (yX8_twoColumns, prog_10_method_21_code, 3, (some .boolean)),
  (yX8_twoLines, prog_10_method_22_code, 3, (some .boolean)),
  (yX8_refers, prog_10_method_23_code, 4, (some .boolean)),
  (yX8_set, prog_10_method_24_code, 5, none),
  (yX8_withSheet, prog_10_method_25_code, 6, none),
  (yX8_quotedSheet, prog_10_method_26_code, 7, none),
  (yX8_string, prog_10_method_27_code, 7, none),
  (yX8_number, prog_10_method_28_code, 12, none),
  (yX8_exponent, prog_10_method_29_code, 7, none),
  (yX8_errorWord, prog_10_method_30_code, 1, (some .long)),
  (yX8_error, prog_10_method_31_code, 8, none),
  (yX8_sign, prog_10_method_32_code, 5, none),
  (yX8_mark, prog_10_method_33_code, 5, none),
  (yX8_token, prog_10_method_34_code, 5, none)]
def mtab_1 : List MI := [(yX8_read, prog_10_method_35_code, 3, none),
  (yX8_push, prog_10_method_36_code, 2, (some .boolean)),
  (yX8_isIn, prog_10_method_37_code, 2, (some .boolean)),
  (yX8_packed, prog_10_method_38_code, 6, (some .long)),
  (yX8_function, prog_10_method_39_code, 7, (some .int)),
  (yX8_isTrue, prog_10_method_40_code, 2, (some .boolean)),
  (yX8_isTruth, prog_10_method_41_code, 2, (some .boolean)),
  (yX8_close, prog_10_method_42_code, 4, (some .boolean)),
  (yX8_comma, prog_10_method_43_code, 1, (some .boolean)),
  (yX8_operand, prog_10_method_44_code, 3, (some .boolean)),
  (yX8_behind, prog_10_method_45_code, 2, (some .boolean)),
  (yX8_element, prog_10_method_46_code, 4, (some .boolean)),
  (yX8_behindElement, prog_10_method_47_code, 4, (some .boolean)),
  (yX8_check, prog_10_method_48_code, 4, (some .int)),
  (yX8_isName, prog_10_method_49_code, 5, (some .boolean)),
  (yX8_nameOf, prog_10_method_50_code, 3, (some .int)),
  (yX8_giveNames, prog_10_method_51_code, 3, (some .boolean)),
  (yX8_emit, prog_10_method_52_code, 2, none),
  (yX8_later, prog_10_method_53_code, 4, none),
  (yX8_rank, prog_10_method_54_code, 1, (some .int)),
  (yX8_next, prog_10_method_55_code, 2, (some .int)),
  (yX8_split, prog_10_method_56_code, 5, (some .int)),
  (yX8_emitNumber, prog_10_method_57_code, 5, none),
  (yX8_emitString, prog_10_method_58_code, 5, none),
  (yX8_emitReference, prog_10_method_59_code, 9, none),
  (yX8_emitToken, prog_10_method_60_code, 3, none),
  (yX8_emitArray, prog_10_method_61_code, 3, none),
  (yX8_call, prog_10_method_62_code, 8, none),
  (yX8_exchange, prog_10_method_63_code, 5, none),
  (yX8_expression, prog_10_method_64_code, 4, none),
  (yX8_emitCall, prog_10_method_65_code, 4, none),
  (yX8_makeCode, prog_10_method_66_code, 2, none),
  (yX8_compile, prog_10_method_67_code, 2, (some .int)),
  (yX8_sizeOf, prog_10_method_68_code, 3, (some .int)),
  (yX8_operands, prog_10_method_69_code, 3, (some .int)),
  (yX8_findItems, prog_10_method_70_code, 3, none),
  (yX8_reference, prog_10_method_71_code, 6, (some .int)),
  (yX8_out, prog_10_method_72_code, 2, none),
  (yX8_outNumber, prog_10_method_73_code, 5, none),
  (yX8_outPacked, prog_10_method_74_code, 4, none),
  (yX8_outColumn, prog_10_method_75_code, 2, none),
  (yX8_outDecimal, prog_10_method_76_code, 13, none),
  (yX8_digitAt, prog_10_method_77_code, 6, (some .int)),
  (yX8_outString, prog_10_method_78_code, 5, none),
  (yX8_isPlain, prog_10_method_79_code, 5, (some .boolean)),
  (yX8_outSheet, prog_10_method_80_code, 5, none),
  (yX8_outPlace, prog_10_method_81_code, 5, none),
  (yX8_outReference, prog_10_method_82_code, 5, none),
  (yX8_outName, prog_10_method_83_code, 3, none),
  (yX8_outOperation, prog_10_method_84_code, 2, none),
  (yX8_outPlain, prog_10_method_85_code, 3, none),
  (yX8_outArray, prog_10_method_86_code, 6, none),
  (yX8_outWord, prog_10_method_87_code, 3, none),
  (yX8_outItem, prog_10_method_88_code, 6, none),
  (yX8_print, prog_10_method_89_code, 1, (some .int)),
  (yX8_illAt, prog_10_method_90_code, 1, (some .int)),
  (yX8_word, prog_10_method_91_code, 2, (some .int)),
  (yX8_names, prog_10_method_92_code, 1, (some .int)),
  (yX8_name, prog_10_method_93_code, 3, (some .int)),
  (yX8_output, prog_10_method_94_code, 2, (some .int))]
def mtab_2 : List MI := [(yX8_again, prog_10_method_95_code, 2, none),
  (yX1_size, prog_3_method_2_code, 1, (some .int)),
  (yX1_letter, prog_3_method_3_code, 3, (some .int)),
  (yX1_run, prog_3_method_4_code, 4, none),
  (yX1_putPiece, prog_3_method_5_code, 3, none),
  (yX1_endOperand, prog_3_method_6_code, 4, none),
  (yX1_operandsOf, prog_3_method_7_code, 3, (some .int)),
  (yX1_writeClosing, prog_3_method_8_code, 3, none),
  (yX1_writeBetween, prog_3_method_9_code, 5, none),
  (yX1_writeOpening, prog_3_method_10_code, 3, none),
  (yX1_writeFunction, prog_3_method_11_code, 2, none),
  (yX1_writeName, prog_3_method_12_code, 3, none),
  (yX1_writeString, prog_3_method_13_code, 5, none),
  (yX1_writeSheet, prog_3_method_14_code, 5, none),
  (yX1_writeColumn, prog_3_method_15_code, 4, none),
  (yX1_writeRow, prog_3_method_16_code, 3, none),
  (yX1_writeRange, prog_3_method_17_code, 3, none),
  (yX1_writeNumber, prog_3_method_18_code, 5, none),
  (yX1_takeDigits, prog_3_method_19_code, 6, none),
  (yX1_writeDigits, prog_3_method_20_code, 3, none),
  (yX1_writeWithPoint, prog_3_method_21_code, 3, none),
  (yX1_writeWithExponent, prog_3_method_22_code, 3, none),
  (yX2_readText, prog_4_method_2_code, 2, (some .int)),
  (yX2_skipBlanks, prog_4_method_3_code, 1, none),
  (yX2_readOperand, prog_4_method_4_code, 2, none),
  (yX2_endItem, prog_4_method_5_code, 2, none),
  (yX2_endAtom, prog_4_method_6_code, 2, none),
  (yX2_readQuotedSheet, prog_4_method_7_code, 2, none),
  (yX2_readSheetReference, prog_4_method_8_code, 3, none),
  (yX2_readWord, prog_4_method_9_code, 4, none),
  (yX2_nameNumber, prog_4_method_10_code, 3, (some .int)),
  (yX2_open, prog_4_method_11_code, 3, none),
  (yX2_isInCall, prog_4_method_12_code, 1, (some .boolean)),
  (yX2_leaveOut, prog_4_method_13_code, 3, none),
  (yX2_passComma, prog_4_method_14_code, 2, none),
  (yX2_closeCall, prog_4_method_15_code, 3, none),
  (yX2_leave, prog_4_method_16_code, 1, none),
  (yX2_readOperator, prog_4_method_17_code, 2, none),
  (yX2_endText, prog_4_method_18_code, 1, none),
  (yX2_closeBracket, prog_4_method_19_code, 1, none),
  (yX2_joinOperands, prog_4_method_20_code, 2, none),
  (yX2_writeWaiting, prog_4_method_21_code, 3, none),
  (yX2_operationAt, prog_4_method_22_code, 2, (some .int)),
  (yX2_tightness, prog_4_method_23_code, 1, (some .int)),
  (yX2_openArray, prog_4_method_24_code, 1, none),
  (yX2_readElement, prog_4_method_25_code, 2, none),
  (yX2_isElement, prog_4_method_26_code, 5, (some .boolean)),
  (yX2_readSeparator, prog_4_method_27_code, 4, none),
  (yX3_size, prog_5_method_2_code, 1, (some .int)),
  (yX3_get, prog_5_method_3_code, 2, (some .int)),
  (yX3_last, prog_5_method_4_code, 2, (some .int)),
  (yX3_add, prog_5_method_5_code, 2, none),
  (yX3_changeLast, prog_5_method_6_code, 3, none),
  (yX3_addText, prog_5_method_7_code, 3, none),
  (yX3_addDecimal, prog_5_method_8_code, 3, none),
  (yX3_cut, prog_5_method_9_code, 2, none),
  (yX3_dropLast, prog_5_method_10_code, 1, none),
  (yX3_clear, prog_5_method_11_code, 1, none),
  (yX3_copy, prog_5_method_12_code, 3, none),
  (yX4_behind, prog_6_method_2_code, 1, (some .int))]
def mtab_3 : List MI := [(yX4_unfolded, prog_6_method_3_code, 1, (some (.object "FormulaCode$Row"))),
  (yX4_needsQuotes, prog_6_method_4_code, 2, (some .boolean)),
  (yX4_digitsEnd, prog_6_method_5_code, 3, (some .int)),
  (yX4_readNumber, prog_6_method_6_code, 5, (some .boolean)),
  (yX4_readExponent, prog_6_method_7_code, 6, (some .int)),
  (yX4_writeNumber, prog_6_method_8_code, 14, (some .boolean)),
  (yX4_powerAt, prog_6_method_9_code, 2, (some .int)),
  (yX4_readQuoted, prog_6_method_10_code, 6, (some .boolean)),
  (yX4_readString, prog_6_method_11_code, 4, (some .boolean)),
  (yX4_readError, prog_6_method_12_code, 3, (some .boolean)),
  (yX4_readLogical, prog_6_method_13_code, 4, (some .boolean)),
  (yX4_findReference, prog_6_method_14_code, 6, (some .boolean)),
  (yX4_writeReference, prog_6_method_15_code, 2, none),
  (yX4_writeRange, prog_6_method_16_code, 9, none),
  (yX5_isAt, prog_7_method_2_code, 7, (some .boolean)),
  (yX6_count, prog_8_method_2_code, 1, (some .int)),
  (yX6_isOverfull, prog_8_method_3_code, 1, (some .boolean)),
  (yX6_length, prog_8_method_4_code, 2, (some .int)),
  (yX6_letter, prog_8_method_5_code, 4, (some .int)),
  (yX6_find, prog_8_method_6_code, 8, (some .int)),
  (yX6_add, prog_8_method_7_code, 6, (some .int)),
  (yX6_keep, prog_8_method_8_code, 1, none),
  (yX6_forget, prog_8_method_9_code, 1, none),
  (⟨"java/lang/String", "length", "()I"⟩, prog_16_method_54_code, 1, (some .int)),
  (⟨"java/lang/String", "charAt", "(I)C"⟩, prog_16_method_56_code, 2, (some .char))]
def mtab : List MI := mtab_0 ++ (mtab_1 ++ (mtab_2 ++ (mtab_3)))
/-- the places of their words in the tables: code; instance or static; selects (0 where static); initialized -/
def mplc : List (Nat × Bool × Nat × Nat × Nat) := [(2021, false, 2019, 2020, 1001), (2029, false, 2028, 0, 1001), (2034, false, 2032, 2033, 1001), (2055, false, 2053, 2054, 1001), (2059, false, 2057, 2058, 1001), (2064, false, 2062, 2063, 1001),
  (2072, false, 2070, 2071, 1001), (2081, false, 2079, 2080, 1001), (2088, false, 2087, 1, 1001), (2098, false, 2096, 2097, 1001), (3069, false, 3067, 3068, 1001), (3078, false, 3076, 3077, 1001),
  (3090, true, 3089, 0, 1001), (3215, true, 3214, 0, 1001), (3191, true, 3190, 0, 1001), (3194, true, 3193, 0, 1001), (3164, true, 3163, 0, 1001), (3188, true, 3187, 0, 1001),
  (3202, true, 3201, 0, 1001), (3198, true, 3197, 0, 1001), (4114, true, 4113, 0, 1001), (2224, true, 2223, 0, 1001), (3024, true, 3023, 0, 1001), (4024, true, 4023, 0, 1001),
  (2084, true, 2083, 0, 1001), (2094, true, 2093, 0, 1001), (2091, true, 2090, 0, 1001), (6055, false, 6053, 6054, 1008), (4217, false, 4216, 49, 1008), (4212, false, 4211, 48, 1008),
  (6063, false, 6062, 50, 1008), (6059, false, 6057, 6058, 1008), (6067, false, 6065, 6066, 1008), (6094, false, 6093, 54, 1008), (6082, true, 6081, 0, 1008), (6109, true, 6108, 0, 1008),
  (6115, true, 6114, 0, 1008), (6112, true, 6111, 0, 1008), (6106, false, 6105, 57, 1008), (6079, false, 6078, 52, 1008), (6075, false, 6074, 51, 1008), (6071, false, 6069, 6070, 1008),
  (6144, false, 6143, 64, 1008), (6135, false, 6134, 62, 1008), (6139, false, 6138, 63, 1008), (6131, false, 6130, 61, 1008), (6148, false, 6147, 65, 1008), (6152, false, 6151, 66, 1008),
  (6127, false, 6126, 60, 1008), (6098, false, 6097, 55, 1008), (6123, false, 6122, 59, 1008), (6119, false, 6118, 58, 1008), (6156, false, 6155, 67, 1008), (6175, false, 6174, 69, 1008),
  (6180, false, 6179, 70, 1008), (6163, true, 6162, 0, 1008), (6160, false, 6159, 68, 1008), (6188, false, 6187, 72, 1008), (6184, false, 6183, 71, 1008), (6102, false, 6101, 56, 1008),
  (6090, false, 6089, 53, 1008), (6226, false, 6225, 81, 1008), (6196, false, 6195, 74, 1008), (6212, false, 6211, 78, 1008), (6238, false, 6237, 84, 1008), (6208, false, 6207, 77, 1008),
  (6204, false, 6203, 76, 1008), (6234, false, 6233, 83, 1008), (6230, false, 6229, 82, 1008), (6222, false, 6221, 80, 1008), (7002, false, 7001, 85, 1008), (6200, false, 6199, 75, 1008),
  (6218, false, 6217, 79, 1008), (6192, false, 6191, 73, 1008), (7014, false, 7013, 88, 1008), (7010, false, 7009, 87, 1008), (7006, false, 7005, 86, 1008), (7026, false, 7025, 91, 1008),
  (7022, false, 7021, 90, 1008), (7041, true, 7040, 0, 1008), (7045, false, 7044, 95, 1008), (7038, false, 7037, 94, 1008), (7065, false, 7064, 100, 1008), (7070, false, 7069, 101, 1008),
  (7074, false, 7073, 102, 1008), (7061, false, 7060, 99, 1008), (7057, false, 7056, 98, 1008), (7049, false, 7048, 96, 1008), (7053, false, 7052, 97, 1008), (7034, false, 7033, 93, 1008),
  (7030, false, 7029, 92, 1008), (7018, false, 7017, 89, 1008), (6086, false, 6084, 6085, 1008), (7082, false, 7081, 103, 1008), (7094, false, 7093, 105, 1008), (7090, false, 7089, 104, 1008),
  (7078, false, 7076, 7077, 1008), (7098, false, 7097, 106, 1008), (7122, false, 7121, 111, 1008), (7131, false, 7130, 113, 1008), (7151, false, 7150, 118, 1008), (7114, false, 7113, 110, 1008),
  (7118, true, 7117, 0, 1008), (7127, false, 7126, 112, 1008), (7143, false, 7142, 116, 1008), (7139, false, 7138, 115, 1008), (7147, false, 7146, 117, 1008), (7135, false, 7134, 114, 1008),
  (7155, false, 7154, 119, 1008), (7163, false, 7162, 121, 1008), (7110, false, 7109, 109, 1008), (7106, false, 7105, 108, 1008), (7159, false, 7158, 120, 1008), (7102, false, 7101, 107, 1008),
  (7086, false, 7084, 7085, 1008), (7167, false, 7165, 7166, 1008), (7171, false, 7169, 7170, 1008), (7175, false, 7173, 7174, 1008), (7179, false, 7177, 7178, 1008), (7183, false, 7181, 7182, 1008),
  (7187, false, 7185, 7186, 1008), (3064, false, 3062, 3063, 1007), (3073, false, 3071, 3072, 1007), (2102, false, 2100, 2101, 1007), (2172, false, 2171, 3, 1007), (3048, false, 3047, 18, 1007),
  (2176, false, 2175, 4, 1007), (2111, false, 2110, 2, 1007), (3056, false, 3055, 19, 1007), (2180, false, 2179, 5, 1007), (3042, false, 3041, 17, 1007), (3021, false, 3020, 16, 1007),
  (2219, false, 2218, 11, 1007), (2236, false, 2235, 12, 1007), (3008, false, 3007, 13, 1007), (3013, false, 3012, 14, 1007), (3017, false, 3016, 15, 1007), (2184, false, 2183, 6, 1007),
  (2188, false, 2187, 7, 1007), (2202, false, 2201, 9, 1007), (2215, false, 2214, 10, 1007), (2194, false, 2193, 8, 1007), (3236, false, 3234, 3235, 1006), (4003, false, 4002, 21, 1006),
  (4007, false, 4006, 22, 1006), (4067, false, 4066, 31, 1006), (4047, false, 4046, 29, 1006), (4082, false, 4081, 32, 1006), (4092, false, 4091, 33, 1006), (4110, false, 4109, 35, 1006),
  (4120, false, 4119, 36, 1006), (4012, false, 4011, 23, 1006), (4020, false, 4019, 25, 1006), (4016, false, 4015, 24, 1006), (4028, false, 4027, 26, 1006), (4033, false, 4032, 27, 1006),
  (4042, false, 4041, 28, 1006), (4153, false, 4152, 40, 1006), (4157, false, 4156, 41, 1006), (4168, false, 4167, 43, 1006), (4175, false, 4174, 44, 1006), (4161, false, 4160, 42, 1006),
  (4171, true, 4170, 0, 1006), (4164, true, 4163, 0, 1006), (4051, false, 4050, 30, 1006), (4181, false, 4180, 45, 1006), (4185, false, 4184, 46, 1006), (4190, false, 4189, 47, 1006),
  (2025, false, 2023, 2024, 1002), (2046, false, 2044, 2045, 1002), (2198, false, 2196, 2197, 1002), (1051, false, 1049, 1050, 1002), (3052, false, 3050, 3051, 1002), (2120, false, 2118, 2119, 1002),
  (2209, false, 2207, 2208, 1002), (2038, false, 2036, 2037, 1002), (3060, false, 3058, 3059, 1002), (2051, false, 2049, 2050, 1002), (2042, false, 2040, 2041, 1002), (4071, false, 4069, 4070, 1004),
  (4087, false, 4085, 4086, 1004), (3184, false, 3182, 3183, 1004), (4133, false, 4132, 37, 1004), (4129, false, 4127, 4128, 1004), (4138, false, 4137, 38, 1004), (4143, false, 4142, 39, 1004),
  (4146, true, 4145, 0, 1004), (4059, false, 4057, 4058, 1004), (4055, false, 4053, 4054, 1004), (4075, false, 4073, 4074, 1004), (4125, false, 4123, 4124, 1004), (4096, false, 4094, 4095, 1004),
  (4100, false, 4098, 4099, 1004), (4104, false, 4103, 34, 1004), (3209, false, 3207, 3208, 1005), (2068, false, 2066, 2067, 1003), (4201, false, 4199, 4200, 1003), (3001, false, 2239, 3000, 1003),
  (2076, false, 2074, 2075, 1003), (3160, false, 3158, 3159, 1003), (3221, false, 3219, 3220, 1003), (3225, false, 3223, 3224, 1003), (4194, false, 4192, 4193, 1003), (2124, false, 2122, 2123, 1014),
  (2134, false, 2132, 2133, 1014)]
abbrev mX7_feed : Nat := 0
abbrev mX7_putBytes : Nat := 1
abbrev mX7_end : Nat := 2
abbrev mX7_illAt : Nat := 3
abbrev mX7_word : Nat := 4
abbrev mX7_names : Nat := 5
abbrev mX7_name : Nat := 6
abbrev mX7_reference : Nat := 7
abbrev mX7_referencePart : Nat := 8
abbrev mX7_print : Nat := 9
abbrev mX7_output : Nat := 10
abbrev mX7_again : Nat := 11
abbrev mX7_isPlain : Nat := 12
abbrev mX7_isDigit : Nat := 13
abbrev mX7_isLetter : Nat := 14
abbrev mX7_isWordPart : Nat := 15
abbrev mX7_capital : Nat := 16
abbrev mX7_wordEnd : Nat := 17
abbrev mX7_startsWith : Nat := 18
abbrev mX7_isSame : Nat := 19
abbrev mX7_functionNumber : Nat := 20
abbrev mX7_errorText : Nat := 21
abbrev mX7_operationText : Nat := 22
abbrev mX7_item : Nat := 23
abbrev mX7_kindOf : Nat := 24
abbrev mX7_xOf : Nat := 25
abbrev mX7_itemSize : Nat := 26
abbrev mX8_thrown : Nat := 27
abbrev mX8_row : Nat := 28
abbrev mX8_fill : Nat := 29
abbrev mX8_put : Nat := 30
abbrev mX8_feed : Nat := 31
abbrev mX8_end : Nat := 32
abbrev mX8_look : Nat := 33
abbrev mX8_great : Nat := 34
abbrev mX8_isLetter : Nat := 35
abbrev mX8_isDigit : Nat := 36
abbrev mX8_isWordPart : Nat := 37
abbrev mX8_wordEnd : Nat := 38
abbrev mX8_isSheet : Nat := 39
abbrev mX8_findSheet : Nat := 40
abbrev mX8_sheet : Nat := 41
abbrev mX8_isAlone : Nat := 42
abbrev mX8_column : Nat := 43
abbrev mX8_line : Nat := 44
abbrev mX8_place : Nat := 45
abbrev mX8_twoColumns : Nat := 46
abbrev mX8_twoLines : Nat := 47
abbrev mX8_refers : Nat := 48
abbrev mX8_set : Nat := 49
abbrev mX8_withSheet : Nat := 50
abbrev mX8_quotedSheet : Nat := 51
abbrev mX8_string : Nat := 52
abbrev mX8_number : Nat := 53
abbrev mX8_exponent : Nat := 54
abbrev mX8_errorWord : Nat := 55
abbrev mX8_error : Nat := 56
abbrev mX8_sign : Nat := 57
abbrev mX8_mark : Nat := 58
abbrev mX8_token : Nat := 59
abbrev mX8_read : Nat := 60
abbrev mX8_push : Nat := 61
abbrev mX8_isIn : Nat := 62
abbrev mX8_packed : Nat := 63
abbrev mX8_function : Nat := 64
abbrev mX8_isTrue : Nat := 65
abbrev mX8_isTruth : Nat := 66
abbrev mX8_close : Nat := 67
abbrev mX8_comma : Nat := 68
abbrev mX8_operand : Nat := 69
abbrev mX8_behind : Nat := 70
abbrev mX8_element : Nat := 71
abbrev mX8_behindElement : Nat := 72
abbrev mX8_check : Nat := 73
abbrev mX8_isName : Nat := 74
abbrev mX8_nameOf : Nat := 75
abbrev mX8_giveNames : Nat := 76
abbrev mX8_emit : Nat := 77
abbrev mX8_later : Nat := 78
abbrev mX8_rank : Nat := 79
abbrev mX8_next : Nat := 80
abbrev mX8_split : Nat := 81
abbrev mX8_emitNumber : Nat := 82
abbrev mX8_emitString : Nat := 83
abbrev mX8_emitReference : Nat := 84
abbrev mX8_emitToken : Nat := 85
abbrev mX8_emitArray : Nat := 86
abbrev mX8_call : Nat := 87
abbrev mX8_exchange : Nat := 88
abbrev mX8_expression : Nat := 89
abbrev mX8_emitCall : Nat := 90
abbrev mX8_makeCode : Nat := 91
abbrev mX8_compile : Nat := 92
abbrev mX8_sizeOf : Nat := 93
abbrev mX8_operands : Nat := 94
abbrev mX8_findItems : Nat := 95
abbrev mX8_reference : Nat := 96
abbrev mX8_out : Nat := 97
abbrev mX8_outNumber : Nat := 98
abbrev mX8_outPacked : Nat := 99
abbrev mX8_outColumn : Nat := 100
abbrev mX8_outDecimal : Nat := 101
abbrev mX8_digitAt : Nat := 102
abbrev mX8_outString : Nat := 103
abbrev mX8_isPlain : Nat := 104
abbrev mX8_outSheet : Nat := 105
abbrev mX8_outPlace : Nat := 106
abbrev mX8_outReference : Nat := 107
abbrev mX8_outName : Nat := 108
abbrev mX8_outOperation : Nat := 109
abbrev mX8_outPlain : Nat := 110
abbrev mX8_outArray : Nat := 111
abbrev mX8_outWord : Nat := 112
abbrev mX8_outItem : Nat := 113
abbrev mX8_print : Nat := 114
abbrev mX8_illAt : Nat := 115
abbrev mX8_word : Nat := 116
abbrev mX8_names : Nat := 117
abbrev mX8_name : Nat := 118
abbrev mX8_output : Nat := 119
abbrev mX8_again : Nat := 120
abbrev mX1_size : Nat := 121
abbrev mX1_letter : Nat := 122
abbrev mX1_run : Nat := 123
abbrev mX1_putPiece : Nat := 124
abbrev mX1_endOperand : Nat := 125
abbrev mX1_operandsOf : Nat := 126
abbrev mX1_writeClosing : Nat := 127
abbrev mX1_writeBetween : Nat := 128
abbrev mX1_writeOpening : Nat := 129
abbrev mX1_writeFunction : Nat := 130
abbrev mX1_writeName : Nat := 131
abbrev mX1_writeString : Nat := 132
abbrev mX1_writeSheet : Nat := 133
abbrev mX1_writeColumn : Nat := 134
abbrev mX1_writeRow : Nat := 135
abbrev mX1_writeRange : Nat := 136
abbrev mX1_writeNumber : Nat := 137
abbrev mX1_takeDigits : Nat := 138
abbrev mX1_writeDigits : Nat := 139
abbrev mX1_writeWithPoint : Nat := 140
abbrev mX1_writeWithExponent : Nat := 141
abbrev mX2_readText : Nat := 142
abbrev mX2_skipBlanks : Nat := 143
abbrev mX2_readOperand : Nat := 144
abbrev mX2_endItem : Nat := 145
abbrev mX2_endAtom : Nat := 146
abbrev mX2_readQuotedSheet : Nat := 147
abbrev mX2_readSheetReference : Nat := 148
abbrev mX2_readWord : Nat := 149
abbrev mX2_nameNumber : Nat := 150
abbrev mX2_open : Nat := 151
abbrev mX2_isInCall : Nat := 152
abbrev mX2_leaveOut : Nat := 153
abbrev mX2_passComma : Nat := 154
abbrev mX2_closeCall : Nat := 155
abbrev mX2_leave : Nat := 156
abbrev mX2_readOperator : Nat := 157
abbrev mX2_endText : Nat := 158
abbrev mX2_closeBracket : Nat := 159
abbrev mX2_joinOperands : Nat := 160
abbrev mX2_writeWaiting : Nat := 161
abbrev mX2_operationAt : Nat := 162
abbrev mX2_tightness : Nat := 163
abbrev mX2_openArray : Nat := 164
abbrev mX2_readElement : Nat := 165
abbrev mX2_isElement : Nat := 166
abbrev mX2_readSeparator : Nat := 167
abbrev mX3_size : Nat := 168
abbrev mX3_get : Nat := 169
abbrev mX3_last : Nat := 170
abbrev mX3_add : Nat := 171
abbrev mX3_changeLast : Nat := 172
abbrev mX3_addText : Nat := 173
abbrev mX3_addDecimal : Nat := 174
abbrev mX3_cut : Nat := 175
abbrev mX3_dropLast : Nat := 176
abbrev mX3_clear : Nat := 177
abbrev mX3_copy : Nat := 178
abbrev mX4_behind : Nat := 179
abbrev mX4_unfolded : Nat := 180
abbrev mX4_needsQuotes : Nat := 181
abbrev mX4_digitsEnd : Nat := 182
abbrev mX4_readNumber : Nat := 183
abbrev mX4_readExponent : Nat := 184
abbrev mX4_writeNumber : Nat := 185
abbrev mX4_powerAt : Nat := 186
abbrev mX4_readQuoted : Nat := 187
abbrev mX4_readString : Nat := 188
abbrev mX4_readError : Nat := 189
abbrev mX4_readLogical : Nat := 190
abbrev mX4_findReference : Nat := 191
abbrev mX4_writeReference : Nat := 192
abbrev mX4_writeRange : Nat := 193
abbrev mX5_isAt : Nat := 194
abbrev mX6_count : Nat := 195
abbrev mX6_isOverfull : Nat := 196
abbrev mX6_length : Nat := 197
abbrev mX6_letter : Nat := 198
abbrev mX6_find : Nat := 199
abbrev mX6_add : Nat := 200
abbrev mX6_keep : Nat := 201
abbrev mX6_forget : Nat := 202
abbrev mS_length : Nat := 203
abbrev mS_charAt : Nat := 204
def mt (k : Nat) : MI := mtab.getD k (⟨"", "", ""⟩, ⟨#[]⟩, 0, none)
def tb : List Cond := lw_tbl.filter goodWord
/-- the word at a place: table and row -/
def tbN : Nat → List Cond
  | 0 => k2_sels lw_privs
  | 1 => tables_1_1
  | 2 => tables_1_2
  | 3 => tables_1_3
  | 4 => tables_1_4
  | 5 => tables_1_5
  | 6 => tables_1_6
  | 7 => tables_1_7
  | 8 => tables_1_8
  | _ => []
def tg (p : Nat) : Option Cond := (tbN (p / 1000))[p % 1000]?
theorem tbN_in : ∀ (t : Nat) (w : Cond), w ∈ tbN t → w ∈ lw_tbl := by
  intro t w h
  show w ∈ k2_sels lw_privs ++ (tables_1_1 ++ (tables_1_2 ++ (tables_1_3 ++ (tables_1_4 ++ (tables_1_5 ++ (tables_1_6 ++ (tables_1_7 ++ tables_1_8)))))))
  simp only [List.mem_append]
  match t, h with
  | 0, h => exact Or.inl h
  | 1, h => exact Or.inr (Or.inl h)
  | 2, h => exact Or.inr (Or.inr (Or.inl h))
  | 3, h => exact Or.inr (Or.inr (Or.inr (Or.inl h)))
  | 4, h => exact Or.inr (Or.inr (Or.inr (Or.inr (Or.inl h))))
  | 5, h => exact Or.inr (Or.inr (Or.inr (Or.inr (Or.inr (Or.inl h)))))
  | 6, h => exact Or.inr (Or.inr (Or.inr (Or.inr (Or.inr (Or.inr (Or.inl h))))))
  | 7, h => exact Or.inr (Or.inr (Or.inr (Or.inr (Or.inr (Or.inr (Or.inr (Or.inl h)))))))
  | 8, h => exact Or.inr (Or.inr (Or.inr (Or.inr (Or.inr (Or.inr (Or.inr (Or.inr h)))))))
  | _ + 9, h => exact absurd h List.not_mem_nil
theorem tb_in {p : Nat} {w : Cond} (h : tg p = some w) (g : goodWord w = true) : w ∈ tb := List.mem_filter.mpr ⟨tbN_in _ _ (List.mem_of_getElem? h), g⟩
def mwd (q : MI) (st : Bool) : Cond × Cond × Cond × Cond := (.code q.1 q.2.1 q.2.2.1 q.2.2.2, if st then .static q.1 else .instanceMethod q.1, if st then .static q.1 else .selects q.1.cls q.1 q.1, .initialized q.1.cls)
def mchk (q : MI) (p : Nat × Bool × Nat × Nat × Nat) : Bool := decide (tg p.2.2.1 = some (mwd q p.2.1).2.1) && (p.2.1 || decide (tg p.2.2.2.1 = some (mwd q p.2.1).2.2.1)) && decide (tg p.2.2.2.2 = some (mwd q p.2.1).2.2.2)
  && goodWord (mwd q p.2.1).2.1 && goodWord (mwd q p.2.1).2.2.1 && goodWord (mwd q p.2.1).2.2.2
  && decide (q.1.cls ≠ "java/lang/invoke/MethodHandle") && decide (q.1.cls ≠ "java/lang/invoke/VarHandle") && decide (q.2.2.1 ≤ 15) && plainName q.1.cls
set_option maxRecDepth 100000 in
theorem mchk_all : (List.zip mtab mplc).all (fun q => mchk q.1 q.2) = true := by decide +kernel
abbrev nM : Nat := 205
theorem mtab_len : mtab.length = 205 := by decide +kernel
theorem mplc_len : mplc.length = 205 := by decide +kernel
set_option maxRecDepth 100000 in
theorem mcd_0 : tg 2021 = some (.code (mt 0).1 (mt 0).2.1 (mt 0).2.2.1 (mt 0).2.2.2) := rfl
set_option maxRecDepth 100000 in
theorem mcd_1 : tg 2029 = some (.code (mt 1).1 (mt 1).2.1 (mt 1).2.2.1 (mt 1).2.2.2) := rfl
set_option maxRecDepth 100000 in
theorem mcd_2 : tg 2034 = some (.code (mt 2).1 (mt 2).2.1 (mt 2).2.2.1 (mt 2).2.2.2) := rfl
set_option maxRecDepth 100000 in
theorem mcd_3 : tg 2055 = some (.code (mt 3).1 (mt 3).2.1 (mt 3).2.2.1 (mt 3).2.2.2) := rfl
set_option maxRecDepth 100000 in
theorem mcd_4 : tg 2059 = some (.code (mt 4).1 (mt 4).2.1 (mt 4).2.2.1 (mt 4).2.2.2) := rfl
set_option maxRecDepth 100000 in
theorem mcd_5 : tg 2064 = some (.code (mt 5).1 (mt 5).2.1 (mt 5).2.2.1 (mt 5).2.2.2) := rfl
set_option maxRecDepth 100000 in
theorem mcd_6 : tg 2072 = some (.code (mt 6).1 (mt 6).2.1 (mt 6).2.2.1 (mt 6).2.2.2) := rfl
set_option maxRecDepth 100000 in
theorem mcd_7 : tg 2081 = some (.code (mt 7).1 (mt 7).2.1 (mt 7).2.2.1 (mt 7).2.2.2) := rfl
set_option maxRecDepth 100000 in
theorem mcd_8 : tg 2088 = some (.code (mt 8).1 (mt 8).2.1 (mt 8).2.2.1 (mt 8).2.2.2) := rfl
set_option maxRecDepth 100000 in
theorem mcd_9 : tg 2098 = some (.code (mt 9).1 (mt 9).2.1 (mt 9).2.2.1 (mt 9).2.2.2) := rfl
set_option maxRecDepth 100000 in
theorem mcd_10 : tg 3069 = some (.code (mt 10).1 (mt 10).2.1 (mt 10).2.2.1 (mt 10).2.2.2) := rfl
set_option maxRecDepth 100000 in
theorem mcd_11 : tg 3078 = some (.code (mt 11).1 (mt 11).2.1 (mt 11).2.2.1 (mt 11).2.2.2) := rfl
set_option maxRecDepth 100000 in
theorem mcd_12 : tg 3090 = some (.code (mt 12).1 (mt 12).2.1 (mt 12).2.2.1 (mt 12).2.2.2) := rfl
set_option maxRecDepth 100000 in
theorem mcd_13 : tg 3215 = some (.code (mt 13).1 (mt 13).2.1 (mt 13).2.2.1 (mt 13).2.2.2) := rfl
set_option maxRecDepth 100000 in
theorem mcd_14 : tg 3191 = some (.code (mt 14).1 (mt 14).2.1 (mt 14).2.2.1 (mt 14).2.2.2) := rfl
set_option maxRecDepth 100000 in
theorem mcd_15 : tg 3194 = some (.code (mt 15).1 (mt 15).2.1 (mt 15).2.2.1 (mt 15).2.2.2) := rfl
set_option maxRecDepth 100000 in
theorem mcd_16 : tg 3164 = some (.code (mt 16).1 (mt 16).2.1 (mt 16).2.2.1 (mt 16).2.2.2) := rfl
set_option maxRecDepth 100000 in
theorem mcd_17 : tg 3188 = some (.code (mt 17).1 (mt 17).2.1 (mt 17).2.2.1 (mt 17).2.2.2) := rfl
set_option maxRecDepth 100000 in
theorem mcd_18 : tg 3202 = some (.code (mt 18).1 (mt 18).2.1 (mt 18).2.2.1 (mt 18).2.2.2) := rfl
set_option maxRecDepth 100000 in
theorem mcd_19 : tg 3198 = some (.code (mt 19).1 (mt 19).2.1 (mt 19).2.2.1 (mt 19).2.2.2) := rfl
set_option maxRecDepth 100000 in
theorem mcd_20 : tg 4114 = some (.code (mt 20).1 (mt 20).2.1 (mt 20).2.2.1 (mt 20).2.2.2) := rfl
set_option maxRecDepth 100000 in
theorem mcd_21 : tg 2224 = some (.code (mt 21).1 (mt 21).2.1 (mt 21).2.2.1 (mt 21).2.2.2) := rfl
set_option maxRecDepth 100000 in
theorem mcd_22 : tg 3024 = some (.code (mt 22).1 (mt 22).2.1 (mt 22).2.2.1 (mt 22).2.2.2) := rfl
set_option maxRecDepth 100000 in
theorem mcd_23 : tg 4024 = some (.code (mt 23).1 (mt 23).2.1 (mt 23).2.2.1 (mt 23).2.2.2) := rfl
set_option maxRecDepth 100000 in
theorem mcd_24 : tg 2084 = some (.code (mt 24).1 (mt 24).2.1 (mt 24).2.2.1 (mt 24).2.2.2) := rfl
set_option maxRecDepth 100000 in
theorem mcd_25 : tg 2094 = some (.code (mt 25).1 (mt 25).2.1 (mt 25).2.2.1 (mt 25).2.2.2) := rfl
set_option maxRecDepth 100000 in
theorem mcd_26 : tg 2091 = some (.code (mt 26).1 (mt 26).2.1 (mt 26).2.2.1 (mt 26).2.2.2) := rfl
set_option maxRecDepth 100000 in
theorem mcd_27 : tg 6055 = some (.code (mt 27).1 (mt 27).2.1 (mt 27).2.2.1 (mt 27).2.2.2) := rfl
set_option maxRecDepth 100000 in
theorem mcd_28 : tg 4217 = some (.code (mt 28).1 (mt 28).2.1 (mt 28).2.2.1 (mt 28).2.2.2) := rfl
set_option maxRecDepth 100000 in
theorem mcd_29 : tg 4212 = some (.code (mt 29).1 (mt 29).2.1 (mt 29).2.2.1 (mt 29).2.2.2) := rfl
set_option maxRecDepth 100000 in
theorem mcd_30 : tg 6063 = some (.code (mt 30).1 (mt 30).2.1 (mt 30).2.2.1 (mt 30).2.2.2) := rfl
set_option maxRecDepth 100000 in
theorem mcd_31 : tg 6059 = some (.code (mt 31).1 (mt 31).2.1 (mt 31).2.2.1 (mt 31).2.2.2) := rfl
set_option maxRecDepth 100000 in
theorem mcd_32 : tg 6067 = some (.code (mt 32).1 (mt 32).2.1 (mt 32).2.2.1 (mt 32).2.2.2) := rfl
set_option maxRecDepth 100000 in
theorem mcd_33 : tg 6094 = some (.code (mt 33).1 (mt 33).2.1 (mt 33).2.2.1 (mt 33).2.2.2) := rfl
set_option maxRecDepth 100000 in
theorem mcd_34 : tg 6082 = some (.code (mt 34).1 (mt 34).2.1 (mt 34).2.2.1 (mt 34).2.2.2) := rfl
set_option maxRecDepth 100000 in
theorem mcd_35 : tg 6109 = some (.code (mt 35).1 (mt 35).2.1 (mt 35).2.2.1 (mt 35).2.2.2) := rfl
set_option maxRecDepth 100000 in
theorem mcd_36 : tg 6115 = some (.code (mt 36).1 (mt 36).2.1 (mt 36).2.2.1 (mt 36).2.2.2) := rfl
set_option maxRecDepth 100000 in
theorem mcd_37 : tg 6112 = some (.code (mt 37).1 (mt 37).2.1 (mt 37).2.2.1 (mt 37).2.2.2) := rfl
set_option maxRecDepth 100000 in
theorem mcd_38 : tg 6106 = some (.code (mt 38).1 (mt 38).2.1 (mt 38).2.2.1 (mt 38).2.2.2) := rfl
set_option maxRecDepth 100000 in
theorem mcd_39 : tg 6079 = some (.code (mt 39).1 (mt 39).2.1 (mt 39).2.2.1 (mt 39).2.2.2) := rfl
set_option maxRecDepth 100000 in
theorem mcd_40 : tg 6075 = some (.code (mt 40).1 (mt 40).2.1 (mt 40).2.2.1 (mt 40).2.2.2) := rfl
set_option maxRecDepth 100000 in
theorem mcd_41 : tg 6071 = some (.code (mt 41).1 (mt 41).2.1 (mt 41).2.2.1 (mt 41).2.2.2) := rfl
set_option maxRecDepth 100000 in
theorem mcd_42 : tg 6144 = some (.code (mt 42).1 (mt 42).2.1 (mt 42).2.2.1 (mt 42).2.2.2) := rfl
set_option maxRecDepth 100000 in
theorem mcd_43 : tg 6135 = some (.code (mt 43).1 (mt 43).2.1 (mt 43).2.2.1 (mt 43).2.2.2) := rfl
set_option maxRecDepth 100000 in
theorem mcd_44 : tg 6139 = some (.code (mt 44).1 (mt 44).2.1 (mt 44).2.2.1 (mt 44).2.2.2) := rfl
set_option maxRecDepth 100000 in
theorem mcd_45 : tg 6131 = some (.code (mt 45).1 (mt 45).2.1 (mt 45).2.2.1 (mt 45).2.2.2) := rfl
set_option maxRecDepth 100000 in
theorem mcd_46 : tg 6148 = some (.code (mt 46).1 (mt 46).2.1 (mt 46).2.2.1 (mt 46).2.2.2) := rfl
set_option maxRecDepth 100000 in
theorem mcd_47 : tg 6152 = some (.code (mt 47).1 (mt 47).2.1 (mt 47).2.2.1 (mt 47).2.2.2) := rfl
set_option maxRecDepth 100000 in
theorem mcd_48 : tg 6127 = some (.code (mt 48).1 (mt 48).2.1 (mt 48).2.2.1 (mt 48).2.2.2) := rfl
set_option maxRecDepth 100000 in
theorem mcd_49 : tg 6098 = some (.code (mt 49).1 (mt 49).2.1 (mt 49).2.2.1 (mt 49).2.2.2) := rfl
set_option maxRecDepth 100000 in
theorem mcd_50 : tg 6123 = some (.code (mt 50).1 (mt 50).2.1 (mt 50).2.2.1 (mt 50).2.2.2) := rfl
set_option maxRecDepth 100000 in
theorem mcd_51 : tg 6119 = some (.code (mt 51).1 (mt 51).2.1 (mt 51).2.2.1 (mt 51).2.2.2) := rfl
set_option maxRecDepth 100000 in
theorem mcd_52 : tg 6156 = some (.code (mt 52).1 (mt 52).2.1 (mt 52).2.2.1 (mt 52).2.2.2) := rfl
set_option maxRecDepth 100000 in
theorem mcd_53 : tg 6175 = some (.code (mt 53).1 (mt 53).2.1 (mt 53).2.2.1 (mt 53).2.2.2) := rfl
set_option maxRecDepth 100000 in
theorem mcd_54 : tg 6180 = some (.code (mt 54).1 (mt 54).2.1 (mt 54).2.2.1 (mt 54).2.2.2) := rfl
set_option maxRecDepth 100000 in
theorem mcd_55 : tg 6163 = some (.code (mt 55).1 (mt 55).2.1 (mt 55).2.2.1 (mt 55).2.2.2) := rfl
set_option maxRecDepth 100000 in
theorem mcd_56 : tg 6160 = some (.code (mt 56).1 (mt 56).2.1 (mt 56).2.2.1 (mt 56).2.2.2) := rfl
set_option maxRecDepth 100000 in
theorem mcd_57 : tg 6188 = some (.code (mt 57).1 (mt 57).2.1 (mt 57).2.2.1 (mt 57).2.2.2) := rfl
set_option maxRecDepth 100000 in
theorem mcd_58 : tg 6184 = some (.code (mt 58).1 (mt 58).2.1 (mt 58).2.2.1 (mt 58).2.2.2) := rfl
set_option maxRecDepth 100000 in
theorem mcd_59 : tg 6102 = some (.code (mt 59).1 (mt 59).2.1 (mt 59).2.2.1 (mt 59).2.2.2) := rfl
set_option maxRecDepth 100000 in
theorem mcd_60 : tg 6090 = some (.code (mt 60).1 (mt 60).2.1 (mt 60).2.2.1 (mt 60).2.2.2) := rfl
set_option maxRecDepth 100000 in
theorem mcd_61 : tg 6226 = some (.code (mt 61).1 (mt 61).2.1 (mt 61).2.2.1 (mt 61).2.2.2) := rfl
set_option maxRecDepth 100000 in
theorem mcd_62 : tg 6196 = some (.code (mt 62).1 (mt 62).2.1 (mt 62).2.2.1 (mt 62).2.2.2) := rfl
set_option maxRecDepth 100000 in
theorem mcd_63 : tg 6212 = some (.code (mt 63).1 (mt 63).2.1 (mt 63).2.2.1 (mt 63).2.2.2) := rfl
set_option maxRecDepth 100000 in
theorem mcd_64 : tg 6238 = some (.code (mt 64).1 (mt 64).2.1 (mt 64).2.2.1 (mt 64).2.2.2) := rfl
set_option maxRecDepth 100000 in
theorem mcd_65 : tg 6208 = some (.code (mt 65).1 (mt 65).2.1 (mt 65).2.2.1 (mt 65).2.2.2) := rfl
set_option maxRecDepth 100000 in
theorem mcd_66 : tg 6204 = some (.code (mt 66).1 (mt 66).2.1 (mt 66).2.2.1 (mt 66).2.2.2) := rfl
set_option maxRecDepth 100000 in
theorem mcd_67 : tg 6234 = some (.code (mt 67).1 (mt 67).2.1 (mt 67).2.2.1 (mt 67).2.2.2) := rfl
set_option maxRecDepth 100000 in
theorem mcd_68 : tg 6230 = some (.code (mt 68).1 (mt 68).2.1 (mt 68).2.2.1 (mt 68).2.2.2) := rfl
set_option maxRecDepth 100000 in
theorem mcd_69 : tg 6222 = some (.code (mt 69).1 (mt 69).2.1 (mt 69).2.2.1 (mt 69).2.2.2) := rfl
set_option maxRecDepth 100000 in
theorem mcd_70 : tg 7002 = some (.code (mt 70).1 (mt 70).2.1 (mt 70).2.2.1 (mt 70).2.2.2) := rfl
set_option maxRecDepth 100000 in
theorem mcd_71 : tg 6200 = some (.code (mt 71).1 (mt 71).2.1 (mt 71).2.2.1 (mt 71).2.2.2) := rfl
set_option maxRecDepth 100000 in
theorem mcd_72 : tg 6218 = some (.code (mt 72).1 (mt 72).2.1 (mt 72).2.2.1 (mt 72).2.2.2) := rfl
set_option maxRecDepth 100000 in
theorem mcd_73 : tg 6192 = some (.code (mt 73).1 (mt 73).2.1 (mt 73).2.2.1 (mt 73).2.2.2) := rfl
set_option maxRecDepth 100000 in
theorem mcd_74 : tg 7014 = some (.code (mt 74).1 (mt 74).2.1 (mt 74).2.2.1 (mt 74).2.2.2) := rfl
set_option maxRecDepth 100000 in
theorem mcd_75 : tg 7010 = some (.code (mt 75).1 (mt 75).2.1 (mt 75).2.2.1 (mt 75).2.2.2) := rfl
set_option maxRecDepth 100000 in
theorem mcd_76 : tg 7006 = some (.code (mt 76).1 (mt 76).2.1 (mt 76).2.2.1 (mt 76).2.2.2) := rfl
set_option maxRecDepth 100000 in
theorem mcd_77 : tg 7026 = some (.code (mt 77).1 (mt 77).2.1 (mt 77).2.2.1 (mt 77).2.2.2) := rfl
set_option maxRecDepth 100000 in
theorem mcd_78 : tg 7022 = some (.code (mt 78).1 (mt 78).2.1 (mt 78).2.2.1 (mt 78).2.2.2) := rfl
set_option maxRecDepth 100000 in
theorem mcd_79 : tg 7041 = some (.code (mt 79).1 (mt 79).2.1 (mt 79).2.2.1 (mt 79).2.2.2) := rfl
set_option maxRecDepth 100000 in
theorem mcd_80 : tg 7045 = some (.code (mt 80).1 (mt 80).2.1 (mt 80).2.2.1 (mt 80).2.2.2) := rfl
set_option maxRecDepth 100000 in
theorem mcd_81 : tg 7038 = some (.code (mt 81).1 (mt 81).2.1 (mt 81).2.2.1 (mt 81).2.2.2) := rfl
set_option maxRecDepth 100000 in
theorem mcd_82 : tg 7065 = some (.code (mt 82).1 (mt 82).2.1 (mt 82).2.2.1 (mt 82).2.2.2) := rfl
set_option maxRecDepth 100000 in
theorem mcd_83 : tg 7070 = some (.code (mt 83).1 (mt 83).2.1 (mt 83).2.2.1 (mt 83).2.2.2) := rfl
set_option maxRecDepth 100000 in
theorem mcd_84 : tg 7074 = some (.code (mt 84).1 (mt 84).2.1 (mt 84).2.2.1 (mt 84).2.2.2) := rfl
set_option maxRecDepth 100000 in
theorem mcd_85 : tg 7061 = some (.code (mt 85).1 (mt 85).2.1 (mt 85).2.2.1 (mt 85).2.2.2) := rfl
set_option maxRecDepth 100000 in
theorem mcd_86 : tg 7057 = some (.code (mt 86).1 (mt 86).2.1 (mt 86).2.2.1 (mt 86).2.2.2) := rfl
set_option maxRecDepth 100000 in
theorem mcd_87 : tg 7049 = some (.code (mt 87).1 (mt 87).2.1 (mt 87).2.2.1 (mt 87).2.2.2) := rfl
set_option maxRecDepth 100000 in
theorem mcd_88 : tg 7053 = some (.code (mt 88).1 (mt 88).2.1 (mt 88).2.2.1 (mt 88).2.2.2) := rfl
set_option maxRecDepth 100000 in
theorem mcd_89 : tg 7034 = some (.code (mt 89).1 (mt 89).2.1 (mt 89).2.2.1 (mt 89).2.2.2) := rfl
set_option maxRecDepth 100000 in
theorem mcd_90 : tg 7030 = some (.code (mt 90).1 (mt 90).2.1 (mt 90).2.2.1 (mt 90).2.2.2) := rfl
set_option maxRecDepth 100000 in
theorem mcd_91 : tg 7018 = some (.code (mt 91).1 (mt 91).2.1 (mt 91).2.2.1 (mt 91).2.2.2) := rfl
set_option maxRecDepth 100000 in
theorem mcd_92 : tg 6086 = some (.code (mt 92).1 (mt 92).2.1 (mt 92).2.2.1 (mt 92).2.2.2) := rfl
set_option maxRecDepth 100000 in
theorem mcd_93 : tg 7082 = some (.code (mt 93).1 (mt 93).2.1 (mt 93).2.2.1 (mt 93).2.2.2) := rfl
set_option maxRecDepth 100000 in
theorem mcd_94 : tg 7094 = some (.code (mt 94).1 (mt 94).2.1 (mt 94).2.2.1 (mt 94).2.2.2) := rfl
set_option maxRecDepth 100000 in
theorem mcd_95 : tg 7090 = some (.code (mt 95).1 (mt 95).2.1 (mt 95).2.2.1 (mt 95).2.2.2) := rfl
set_option maxRecDepth 100000 in
theorem mcd_96 : tg 7078 = some (.code (mt 96).1 (mt 96).2.1 (mt 96).2.2.1 (mt 96).2.2.2) := rfl
set_option maxRecDepth 100000 in
theorem mcd_97 : tg 7098 = some (.code (mt 97).1 (mt 97).2.1 (mt 97).2.2.1 (mt 97).2.2.2) := rfl
set_option maxRecDepth 100000 in
theorem mcd_98 : tg 7122 = some (.code (mt 98).1 (mt 98).2.1 (mt 98).2.2.1 (mt 98).2.2.2) := rfl
set_option maxRecDepth 100000 in
theorem mcd_99 : tg 7131 = some (.code (mt 99).1 (mt 99).2.1 (mt 99).2.2.1 (mt 99).2.2.2) := rfl
set_option maxRecDepth 100000 in
theorem mcd_100 : tg 7151 = some (.code (mt 100).1 (mt 100).2.1 (mt 100).2.2.1 (mt 100).2.2.2) := rfl
set_option maxRecDepth 100000 in
theorem mcd_101 : tg 7114 = some (.code (mt 101).1 (mt 101).2.1 (mt 101).2.2.1 (mt 101).2.2.2) := rfl
set_option maxRecDepth 100000 in
theorem mcd_102 : tg 7118 = some (.code (mt 102).1 (mt 102).2.1 (mt 102).2.2.1 (mt 102).2.2.2) := rfl
set_option maxRecDepth 100000 in
theorem mcd_103 : tg 7127 = some (.code (mt 103).1 (mt 103).2.1 (mt 103).2.2.1 (mt 103).2.2.2) := rfl
set_option maxRecDepth 100000 in
theorem mcd_104 : tg 7143 = some (.code (mt 104).1 (mt 104).2.1 (mt 104).2.2.1 (mt 104).2.2.2) := rfl
set_option maxRecDepth 100000 in
theorem mcd_105 : tg 7139 = some (.code (mt 105).1 (mt 105).2.1 (mt 105).2.2.1 (mt 105).2.2.2) := rfl
set_option maxRecDepth 100000 in
theorem mcd_106 : tg 7147 = some (.code (mt 106).1 (mt 106).2.1 (mt 106).2.2.1 (mt 106).2.2.2) := rfl
set_option maxRecDepth 100000 in
theorem mcd_107 : tg 7135 = some (.code (mt 107).1 (mt 107).2.1 (mt 107).2.2.1 (mt 107).2.2.2) := rfl
set_option maxRecDepth 100000 in
theorem mcd_108 : tg 7155 = some (.code (mt 108).1 (mt 108).2.1 (mt 108).2.2.1 (mt 108).2.2.2) := rfl
set_option maxRecDepth 100000 in
theorem mcd_109 : tg 7163 = some (.code (mt 109).1 (mt 109).2.1 (mt 109).2.2.1 (mt 109).2.2.2) := rfl
set_option maxRecDepth 100000 in
theorem mcd_110 : tg 7110 = some (.code (mt 110).1 (mt 110).2.1 (mt 110).2.2.1 (mt 110).2.2.2) := rfl
set_option maxRecDepth 100000 in
theorem mcd_111 : tg 7106 = some (.code (mt 111).1 (mt 111).2.1 (mt 111).2.2.1 (mt 111).2.2.2) := rfl
set_option maxRecDepth 100000 in
theorem mcd_112 : tg 7159 = some (.code (mt 112).1 (mt 112).2.1 (mt 112).2.2.1 (mt 112).2.2.2) := rfl
set_option maxRecDepth 100000 in
theorem mcd_113 : tg 7102 = some (.code (mt 113).1 (mt 113).2.1 (mt 113).2.2.1 (mt 113).2.2.2) := rfl
set_option maxRecDepth 100000 in
theorem mcd_114 : tg 7086 = some (.code (mt 114).1 (mt 114).2.1 (mt 114).2.2.1 (mt 114).2.2.2) := rfl
set_option maxRecDepth 100000 in
theorem mcd_115 : tg 7167 = some (.code (mt 115).1 (mt 115).2.1 (mt 115).2.2.1 (mt 115).2.2.2) := rfl
set_option maxRecDepth 100000 in
theorem mcd_116 : tg 7171 = some (.code (mt 116).1 (mt 116).2.1 (mt 116).2.2.1 (mt 116).2.2.2) := rfl
set_option maxRecDepth 100000 in
theorem mcd_117 : tg 7175 = some (.code (mt 117).1 (mt 117).2.1 (mt 117).2.2.1 (mt 117).2.2.2) := rfl
set_option maxRecDepth 100000 in
theorem mcd_118 : tg 7179 = some (.code (mt 118).1 (mt 118).2.1 (mt 118).2.2.1 (mt 118).2.2.2) := rfl
set_option maxRecDepth 100000 in
theorem mcd_119 : tg 7183 = some (.code (mt 119).1 (mt 119).2.1 (mt 119).2.2.1 (mt 119).2.2.2) := rfl
set_option maxRecDepth 100000 in
theorem mcd_120 : tg 7187 = some (.code (mt 120).1 (mt 120).2.1 (mt 120).2.2.1 (mt 120).2.2.2) := rfl
set_option maxRecDepth 100000 in
theorem mcd_121 : tg 3064 = some (.code (mt 121).1 (mt 121).2.1 (mt 121).2.2.1 (mt 121).2.2.2) := rfl
set_option maxRecDepth 100000 in
theorem mcd_122 : tg 3073 = some (.code (mt 122).1 (mt 122).2.1 (mt 122).2.2.1 (mt 122).2.2.2) := rfl
set_option maxRecDepth 100000 in
theorem mcd_123 : tg 2102 = some (.code (mt 123).1 (mt 123).2.1 (mt 123).2.2.1 (mt 123).2.2.2) := rfl
set_option maxRecDepth 100000 in
theorem mcd_124 : tg 2172 = some (.code (mt 124).1 (mt 124).2.1 (mt 124).2.2.1 (mt 124).2.2.2) := rfl
set_option maxRecDepth 100000 in
theorem mcd_125 : tg 3048 = some (.code (mt 125).1 (mt 125).2.1 (mt 125).2.2.1 (mt 125).2.2.2) := rfl
set_option maxRecDepth 100000 in
theorem mcd_126 : tg 2176 = some (.code (mt 126).1 (mt 126).2.1 (mt 126).2.2.1 (mt 126).2.2.2) := rfl
set_option maxRecDepth 100000 in
theorem mcd_127 : tg 2111 = some (.code (mt 127).1 (mt 127).2.1 (mt 127).2.2.1 (mt 127).2.2.2) := rfl
set_option maxRecDepth 100000 in
theorem mcd_128 : tg 3056 = some (.code (mt 128).1 (mt 128).2.1 (mt 128).2.2.1 (mt 128).2.2.2) := rfl
set_option maxRecDepth 100000 in
theorem mcd_129 : tg 2180 = some (.code (mt 129).1 (mt 129).2.1 (mt 129).2.2.1 (mt 129).2.2.2) := rfl
set_option maxRecDepth 100000 in
theorem mcd_130 : tg 3042 = some (.code (mt 130).1 (mt 130).2.1 (mt 130).2.2.1 (mt 130).2.2.2) := rfl
set_option maxRecDepth 100000 in
theorem mcd_131 : tg 3021 = some (.code (mt 131).1 (mt 131).2.1 (mt 131).2.2.1 (mt 131).2.2.2) := rfl
set_option maxRecDepth 100000 in
theorem mcd_132 : tg 2219 = some (.code (mt 132).1 (mt 132).2.1 (mt 132).2.2.1 (mt 132).2.2.2) := rfl
set_option maxRecDepth 100000 in
theorem mcd_133 : tg 2236 = some (.code (mt 133).1 (mt 133).2.1 (mt 133).2.2.1 (mt 133).2.2.2) := rfl
set_option maxRecDepth 100000 in
theorem mcd_134 : tg 3008 = some (.code (mt 134).1 (mt 134).2.1 (mt 134).2.2.1 (mt 134).2.2.2) := rfl
set_option maxRecDepth 100000 in
theorem mcd_135 : tg 3013 = some (.code (mt 135).1 (mt 135).2.1 (mt 135).2.2.1 (mt 135).2.2.2) := rfl
set_option maxRecDepth 100000 in
theorem mcd_136 : tg 3017 = some (.code (mt 136).1 (mt 136).2.1 (mt 136).2.2.1 (mt 136).2.2.2) := rfl
set_option maxRecDepth 100000 in
theorem mcd_137 : tg 2184 = some (.code (mt 137).1 (mt 137).2.1 (mt 137).2.2.1 (mt 137).2.2.2) := rfl
set_option maxRecDepth 100000 in
theorem mcd_138 : tg 2188 = some (.code (mt 138).1 (mt 138).2.1 (mt 138).2.2.1 (mt 138).2.2.2) := rfl
set_option maxRecDepth 100000 in
theorem mcd_139 : tg 2202 = some (.code (mt 139).1 (mt 139).2.1 (mt 139).2.2.1 (mt 139).2.2.2) := rfl
set_option maxRecDepth 100000 in
theorem mcd_140 : tg 2215 = some (.code (mt 140).1 (mt 140).2.1 (mt 140).2.2.1 (mt 140).2.2.2) := rfl
set_option maxRecDepth 100000 in
theorem mcd_141 : tg 2194 = some (.code (mt 141).1 (mt 141).2.1 (mt 141).2.2.1 (mt 141).2.2.2) := rfl
set_option maxRecDepth 100000 in
theorem mcd_142 : tg 3236 = some (.code (mt 142).1 (mt 142).2.1 (mt 142).2.2.1 (mt 142).2.2.2) := rfl
set_option maxRecDepth 100000 in
theorem mcd_143 : tg 4003 = some (.code (mt 143).1 (mt 143).2.1 (mt 143).2.2.1 (mt 143).2.2.2) := rfl
set_option maxRecDepth 100000 in
theorem mcd_144 : tg 4007 = some (.code (mt 144).1 (mt 144).2.1 (mt 144).2.2.1 (mt 144).2.2.2) := rfl
set_option maxRecDepth 100000 in
theorem mcd_145 : tg 4067 = some (.code (mt 145).1 (mt 145).2.1 (mt 145).2.2.1 (mt 145).2.2.2) := rfl
set_option maxRecDepth 100000 in
theorem mcd_146 : tg 4047 = some (.code (mt 146).1 (mt 146).2.1 (mt 146).2.2.1 (mt 146).2.2.2) := rfl
set_option maxRecDepth 100000 in
theorem mcd_147 : tg 4082 = some (.code (mt 147).1 (mt 147).2.1 (mt 147).2.2.1 (mt 147).2.2.2) := rfl
set_option maxRecDepth 100000 in
theorem mcd_148 : tg 4092 = some (.code (mt 148).1 (mt 148).2.1 (mt 148).2.2.1 (mt 148).2.2.2) := rfl
set_option maxRecDepth 100000 in
theorem mcd_149 : tg 4110 = some (.code (mt 149).1 (mt 149).2.1 (mt 149).2.2.1 (mt 149).2.2.2) := rfl
set_option maxRecDepth 100000 in
theorem mcd_150 : tg 4120 = some (.code (mt 150).1 (mt 150).2.1 (mt 150).2.2.1 (mt 150).2.2.2) := rfl
set_option maxRecDepth 100000 in
theorem mcd_151 : tg 4012 = some (.code (mt 151).1 (mt 151).2.1 (mt 151).2.2.1 (mt 151).2.2.2) := rfl
set_option maxRecDepth 100000 in
theorem mcd_152 : tg 4020 = some (.code (mt 152).1 (mt 152).2.1 (mt 152).2.2.1 (mt 152).2.2.2) := rfl
set_option maxRecDepth 100000 in
theorem mcd_153 : tg 4016 = some (.code (mt 153).1 (mt 153).2.1 (mt 153).2.2.1 (mt 153).2.2.2) := rfl
set_option maxRecDepth 100000 in
theorem mcd_154 : tg 4028 = some (.code (mt 154).1 (mt 154).2.1 (mt 154).2.2.1 (mt 154).2.2.2) := rfl
set_option maxRecDepth 100000 in
theorem mcd_155 : tg 4033 = some (.code (mt 155).1 (mt 155).2.1 (mt 155).2.2.1 (mt 155).2.2.2) := rfl
set_option maxRecDepth 100000 in
theorem mcd_156 : tg 4042 = some (.code (mt 156).1 (mt 156).2.1 (mt 156).2.2.1 (mt 156).2.2.2) := rfl
set_option maxRecDepth 100000 in
theorem mcd_157 : tg 4153 = some (.code (mt 157).1 (mt 157).2.1 (mt 157).2.2.1 (mt 157).2.2.2) := rfl
set_option maxRecDepth 100000 in
theorem mcd_158 : tg 4157 = some (.code (mt 158).1 (mt 158).2.1 (mt 158).2.2.1 (mt 158).2.2.2) := rfl
set_option maxRecDepth 100000 in
theorem mcd_159 : tg 4168 = some (.code (mt 159).1 (mt 159).2.1 (mt 159).2.2.1 (mt 159).2.2.2) := rfl
set_option maxRecDepth 100000 in
theorem mcd_160 : tg 4175 = some (.code (mt 160).1 (mt 160).2.1 (mt 160).2.2.1 (mt 160).2.2.2) := rfl
set_option maxRecDepth 100000 in
theorem mcd_161 : tg 4161 = some (.code (mt 161).1 (mt 161).2.1 (mt 161).2.2.1 (mt 161).2.2.2) := rfl
set_option maxRecDepth 100000 in
theorem mcd_162 : tg 4171 = some (.code (mt 162).1 (mt 162).2.1 (mt 162).2.2.1 (mt 162).2.2.2) := rfl
set_option maxRecDepth 100000 in
theorem mcd_163 : tg 4164 = some (.code (mt 163).1 (mt 163).2.1 (mt 163).2.2.1 (mt 163).2.2.2) := rfl
set_option maxRecDepth 100000 in
theorem mcd_164 : tg 4051 = some (.code (mt 164).1 (mt 164).2.1 (mt 164).2.2.1 (mt 164).2.2.2) := rfl
set_option maxRecDepth 100000 in
theorem mcd_165 : tg 4181 = some (.code (mt 165).1 (mt 165).2.1 (mt 165).2.2.1 (mt 165).2.2.2) := rfl
set_option maxRecDepth 100000 in
theorem mcd_166 : tg 4185 = some (.code (mt 166).1 (mt 166).2.1 (mt 166).2.2.1 (mt 166).2.2.2) := rfl
set_option maxRecDepth 100000 in
theorem mcd_167 : tg 4190 = some (.code (mt 167).1 (mt 167).2.1 (mt 167).2.2.1 (mt 167).2.2.2) := rfl
set_option maxRecDepth 100000 in
theorem mcd_168 : tg 2025 = some (.code (mt 168).1 (mt 168).2.1 (mt 168).2.2.1 (mt 168).2.2.2) := rfl
set_option maxRecDepth 100000 in
theorem mcd_169 : tg 2046 = some (.code (mt 169).1 (mt 169).2.1 (mt 169).2.2.1 (mt 169).2.2.2) := rfl
set_option maxRecDepth 100000 in
theorem mcd_170 : tg 2198 = some (.code (mt 170).1 (mt 170).2.1 (mt 170).2.2.1 (mt 170).2.2.2) := rfl
set_option maxRecDepth 100000 in
theorem mcd_171 : tg 1051 = some (.code (mt 171).1 (mt 171).2.1 (mt 171).2.2.1 (mt 171).2.2.2) := rfl
set_option maxRecDepth 100000 in
theorem mcd_172 : tg 3052 = some (.code (mt 172).1 (mt 172).2.1 (mt 172).2.2.1 (mt 172).2.2.2) := rfl
set_option maxRecDepth 100000 in
theorem mcd_173 : tg 2120 = some (.code (mt 173).1 (mt 173).2.1 (mt 173).2.2.1 (mt 173).2.2.2) := rfl
set_option maxRecDepth 100000 in
theorem mcd_174 : tg 2209 = some (.code (mt 174).1 (mt 174).2.1 (mt 174).2.2.1 (mt 174).2.2.2) := rfl
set_option maxRecDepth 100000 in
theorem mcd_175 : tg 2038 = some (.code (mt 175).1 (mt 175).2.1 (mt 175).2.2.1 (mt 175).2.2.2) := rfl
set_option maxRecDepth 100000 in
theorem mcd_176 : tg 3060 = some (.code (mt 176).1 (mt 176).2.1 (mt 176).2.2.1 (mt 176).2.2.2) := rfl
set_option maxRecDepth 100000 in
theorem mcd_177 : tg 2051 = some (.code (mt 177).1 (mt 177).2.1 (mt 177).2.2.1 (mt 177).2.2.2) := rfl
set_option maxRecDepth 100000 in
theorem mcd_178 : tg 2042 = some (.code (mt 178).1 (mt 178).2.1 (mt 178).2.2.1 (mt 178).2.2.2) := rfl
set_option maxRecDepth 100000 in
theorem mcd_179 : tg 4071 = some (.code (mt 179).1 (mt 179).2.1 (mt 179).2.2.1 (mt 179).2.2.2) := rfl
set_option maxRecDepth 100000 in
theorem mcd_180 : tg 4087 = some (.code (mt 180).1 (mt 180).2.1 (mt 180).2.2.1 (mt 180).2.2.2) := rfl
set_option maxRecDepth 100000 in
theorem mcd_181 : tg 3184 = some (.code (mt 181).1 (mt 181).2.1 (mt 181).2.2.1 (mt 181).2.2.2) := rfl
set_option maxRecDepth 100000 in
theorem mcd_182 : tg 4133 = some (.code (mt 182).1 (mt 182).2.1 (mt 182).2.2.1 (mt 182).2.2.2) := rfl
set_option maxRecDepth 100000 in
theorem mcd_183 : tg 4129 = some (.code (mt 183).1 (mt 183).2.1 (mt 183).2.2.1 (mt 183).2.2.2) := rfl
set_option maxRecDepth 100000 in
theorem mcd_184 : tg 4138 = some (.code (mt 184).1 (mt 184).2.1 (mt 184).2.2.1 (mt 184).2.2.2) := rfl
set_option maxRecDepth 100000 in
theorem mcd_185 : tg 4143 = some (.code (mt 185).1 (mt 185).2.1 (mt 185).2.2.1 (mt 185).2.2.2) := rfl
set_option maxRecDepth 100000 in
theorem mcd_186 : tg 4146 = some (.code (mt 186).1 (mt 186).2.1 (mt 186).2.2.1 (mt 186).2.2.2) := rfl
set_option maxRecDepth 100000 in
theorem mcd_187 : tg 4059 = some (.code (mt 187).1 (mt 187).2.1 (mt 187).2.2.1 (mt 187).2.2.2) := rfl
set_option maxRecDepth 100000 in
theorem mcd_188 : tg 4055 = some (.code (mt 188).1 (mt 188).2.1 (mt 188).2.2.1 (mt 188).2.2.2) := rfl
set_option maxRecDepth 100000 in
theorem mcd_189 : tg 4075 = some (.code (mt 189).1 (mt 189).2.1 (mt 189).2.2.1 (mt 189).2.2.2) := rfl
set_option maxRecDepth 100000 in
theorem mcd_190 : tg 4125 = some (.code (mt 190).1 (mt 190).2.1 (mt 190).2.2.1 (mt 190).2.2.2) := rfl
set_option maxRecDepth 100000 in
theorem mcd_191 : tg 4096 = some (.code (mt 191).1 (mt 191).2.1 (mt 191).2.2.1 (mt 191).2.2.2) := rfl
set_option maxRecDepth 100000 in
theorem mcd_192 : tg 4100 = some (.code (mt 192).1 (mt 192).2.1 (mt 192).2.2.1 (mt 192).2.2.2) := rfl
set_option maxRecDepth 100000 in
theorem mcd_193 : tg 4104 = some (.code (mt 193).1 (mt 193).2.1 (mt 193).2.2.1 (mt 193).2.2.2) := rfl
set_option maxRecDepth 100000 in
theorem mcd_194 : tg 3209 = some (.code (mt 194).1 (mt 194).2.1 (mt 194).2.2.1 (mt 194).2.2.2) := rfl
set_option maxRecDepth 100000 in
theorem mcd_195 : tg 2068 = some (.code (mt 195).1 (mt 195).2.1 (mt 195).2.2.1 (mt 195).2.2.2) := rfl
set_option maxRecDepth 100000 in
theorem mcd_196 : tg 4201 = some (.code (mt 196).1 (mt 196).2.1 (mt 196).2.2.1 (mt 196).2.2.2) := rfl
set_option maxRecDepth 100000 in
theorem mcd_197 : tg 3001 = some (.code (mt 197).1 (mt 197).2.1 (mt 197).2.2.1 (mt 197).2.2.2) := rfl
set_option maxRecDepth 100000 in
theorem mcd_198 : tg 2076 = some (.code (mt 198).1 (mt 198).2.1 (mt 198).2.2.1 (mt 198).2.2.2) := rfl
set_option maxRecDepth 100000 in
theorem mcd_199 : tg 3160 = some (.code (mt 199).1 (mt 199).2.1 (mt 199).2.2.1 (mt 199).2.2.2) := rfl
set_option maxRecDepth 100000 in
theorem mcd_200 : tg 3221 = some (.code (mt 200).1 (mt 200).2.1 (mt 200).2.2.1 (mt 200).2.2.2) := rfl
set_option maxRecDepth 100000 in
theorem mcd_201 : tg 3225 = some (.code (mt 201).1 (mt 201).2.1 (mt 201).2.2.1 (mt 201).2.2.2) := rfl
set_option maxRecDepth 100000 in
theorem mcd_202 : tg 4194 = some (.code (mt 202).1 (mt 202).2.1 (mt 202).2.2.1 (mt 202).2.2.2) := rfl
set_option maxRecDepth 100000 in
theorem mcd_203 : tg 2124 = some (.code (mt 203).1 (mt 203).2.1 (mt 203).2.2.1 (mt 203).2.2.2) := rfl
set_option maxRecDepth 100000 in
theorem mcd_204 : tg 2134 = some (.code (mt 204).1 (mt 204).2.1 (mt 204).2.2.1 (mt 204).2.2.2) := rfl
theorem mcd : ∀ k : Nat, k < 205 → ∃ p, tg p = some (.code (mt k).1 (mt k).2.1 (mt k).2.2.1 (mt k).2.2.2)
  | 0, _ => ⟨_, mcd_0⟩
  | 1, _ => ⟨_, mcd_1⟩
  | 2, _ => ⟨_, mcd_2⟩
  | 3, _ => ⟨_, mcd_3⟩
  | 4, _ => ⟨_, mcd_4⟩
  | 5, _ => ⟨_, mcd_5⟩
  | 6, _ => ⟨_, mcd_6⟩
  | 7, _ => ⟨_, mcd_7⟩
  | 8, _ => ⟨_, mcd_8⟩
  | 9, _ => ⟨_, mcd_9⟩
  | 10, _ => ⟨_, mcd_10⟩
  | 11, _ => ⟨_, mcd_11⟩
  | 12, _ => ⟨_, mcd_12⟩
  | 13, _ => ⟨_, mcd_13⟩
  | 14, _ => ⟨_, mcd_14⟩
  | 15, _ => ⟨_, mcd_15⟩
  | 16, _ => ⟨_, mcd_16⟩
  | 17, _ => ⟨_, mcd_17⟩
  | 18, _ => ⟨_, mcd_18⟩
  | 19, _ => ⟨_, mcd_19⟩
  | 20, _ => ⟨_, mcd_20⟩
  | 21, _ => ⟨_, mcd_21⟩
  | 22, _ => ⟨_, mcd_22⟩
  | 23, _ => ⟨_, mcd_23⟩
  | 24, _ => ⟨_, mcd_24⟩
  | 25, _ => ⟨_, mcd_25⟩
  | 26, _ => ⟨_, mcd_26⟩
  | 27, _ => ⟨_, mcd_27⟩
  | 28, _ => ⟨_, mcd_28⟩
  | 29, _ => ⟨_, mcd_29⟩
  | 30, _ => ⟨_, mcd_30⟩
  | 31, _ => ⟨_, mcd_31⟩
  | 32, _ => ⟨_, mcd_32⟩
  | 33, _ => ⟨_, mcd_33⟩
  | 34, _ => ⟨_, mcd_34⟩
  | 35, _ => ⟨_, mcd_35⟩
  | 36, _ => ⟨_, mcd_36⟩
  | 37, _ => ⟨_, mcd_37⟩
  | 38, _ => ⟨_, mcd_38⟩
  | 39, _ => ⟨_, mcd_39⟩
  | 40, _ => ⟨_, mcd_40⟩
  | 41, _ => ⟨_, mcd_41⟩
  | 42, _ => ⟨_, mcd_42⟩
  | 43, _ => ⟨_, mcd_43⟩
  | 44, _ => ⟨_, mcd_44⟩
  | 45, _ => ⟨_, mcd_45⟩
  | 46, _ => ⟨_, mcd_46⟩
  | 47, _ => ⟨_, mcd_47⟩
  | 48, _ => ⟨_, mcd_48⟩
  | 49, _ => ⟨_, mcd_49⟩
  | 50, _ => ⟨_, mcd_50⟩
  | 51, _ => ⟨_, mcd_51⟩
  | 52, _ => ⟨_, mcd_52⟩
  | 53, _ => ⟨_, mcd_53⟩
  | 54, _ => ⟨_, mcd_54⟩
  | 55, _ => ⟨_, mcd_55⟩
  | 56, _ => ⟨_, mcd_56⟩
  | 57, _ => ⟨_, mcd_57⟩
  | 58, _ => ⟨_, mcd_58⟩
  | 59, _ => ⟨_, mcd_59⟩
  | 60, _ => ⟨_, mcd_60⟩
  | 61, _ => ⟨_, mcd_61⟩
  | 62, _ => ⟨_, mcd_62⟩
  | 63, _ => ⟨_, mcd_63⟩
  | 64, _ => ⟨_, mcd_64⟩
  | 65, _ => ⟨_, mcd_65⟩
  | 66, _ => ⟨_, mcd_66⟩
  | 67, _ => ⟨_, mcd_67⟩
  | 68, _ => ⟨_, mcd_68⟩
  | 69, _ => ⟨_, mcd_69⟩
  | 70, _ => ⟨_, mcd_70⟩
  | 71, _ => ⟨_, mcd_71⟩
  | 72, _ => ⟨_, mcd_72⟩
  | 73, _ => ⟨_, mcd_73⟩
  | 74, _ => ⟨_, mcd_74⟩
  | 75, _ => ⟨_, mcd_75⟩
  | 76, _ => ⟨_, mcd_76⟩
  | 77, _ => ⟨_, mcd_77⟩
  | 78, _ => ⟨_, mcd_78⟩
  | 79, _ => ⟨_, mcd_79⟩
  | 80, _ => ⟨_, mcd_80⟩
  | 81, _ => ⟨_, mcd_81⟩
  | 82, _ => ⟨_, mcd_82⟩
  | 83, _ => ⟨_, mcd_83⟩
  | 84, _ => ⟨_, mcd_84⟩
  | 85, _ => ⟨_, mcd_85⟩
  | 86, _ => ⟨_, mcd_86⟩
  | 87, _ => ⟨_, mcd_87⟩
  | 88, _ => ⟨_, mcd_88⟩
  | 89, _ => ⟨_, mcd_89⟩
  | 90, _ => ⟨_, mcd_90⟩
  | 91, _ => ⟨_, mcd_91⟩
  | 92, _ => ⟨_, mcd_92⟩
  | 93, _ => ⟨_, mcd_93⟩
  | 94, _ => ⟨_, mcd_94⟩
  | 95, _ => ⟨_, mcd_95⟩
  | 96, _ => ⟨_, mcd_96⟩
  | 97, _ => ⟨_, mcd_97⟩
  | 98, _ => ⟨_, mcd_98⟩
  | 99, _ => ⟨_, mcd_99⟩
  | 100, _ => ⟨_, mcd_100⟩
  | 101, _ => ⟨_, mcd_101⟩
  | 102, _ => ⟨_, mcd_102⟩
  | 103, _ => ⟨_, mcd_103⟩
  | 104, _ => ⟨_, mcd_104⟩
  | 105, _ => ⟨_, mcd_105⟩
  | 106, _ => ⟨_, mcd_106⟩
  | 107, _ => ⟨_, mcd_107⟩
  | 108, _ => ⟨_, mcd_108⟩
  | 109, _ => ⟨_, mcd_109⟩
  | 110, _ => ⟨_, mcd_110⟩
  | 111, _ => ⟨_, mcd_111⟩
  | 112, _ => ⟨_, mcd_112⟩
  | 113, _ => ⟨_, mcd_113⟩
  | 114, _ => ⟨_, mcd_114⟩
  | 115, _ => ⟨_, mcd_115⟩
  | 116, _ => ⟨_, mcd_116⟩
  | 117, _ => ⟨_, mcd_117⟩
  | 118, _ => ⟨_, mcd_118⟩
  | 119, _ => ⟨_, mcd_119⟩
  | 120, _ => ⟨_, mcd_120⟩
  | 121, _ => ⟨_, mcd_121⟩
  | 122, _ => ⟨_, mcd_122⟩
  | 123, _ => ⟨_, mcd_123⟩
  | 124, _ => ⟨_, mcd_124⟩
  | 125, _ => ⟨_, mcd_125⟩
  | 126, _ => ⟨_, mcd_126⟩
  | 127, _ => ⟨_, mcd_127⟩
  | 128, _ => ⟨_, mcd_128⟩
  | 129, _ => ⟨_, mcd_129⟩
  | 130, _ => ⟨_, mcd_130⟩
  | 131, _ => ⟨_, mcd_131⟩
  | 132, _ => ⟨_, mcd_132⟩
  | 133, _ => ⟨_, mcd_133⟩
  | 134, _ => ⟨_, mcd_134⟩
  | 135, _ => ⟨_, mcd_135⟩
  | 136, _ => ⟨_, mcd_136⟩
  | 137, _ => ⟨_, mcd_137⟩
  | 138, _ => ⟨_, mcd_138⟩
  | 139, _ => ⟨_, mcd_139⟩
  | 140, _ => ⟨_, mcd_140⟩
  | 141, _ => ⟨_, mcd_141⟩
  | 142, _ => ⟨_, mcd_142⟩
  | 143, _ => ⟨_, mcd_143⟩
  | 144, _ => ⟨_, mcd_144⟩
  | 145, _ => ⟨_, mcd_145⟩
  | 146, _ => ⟨_, mcd_146⟩
  | 147, _ => ⟨_, mcd_147⟩
  | 148, _ => ⟨_, mcd_148⟩
  | 149, _ => ⟨_, mcd_149⟩
  | 150, _ => ⟨_, mcd_150⟩
  | 151, _ => ⟨_, mcd_151⟩
  | 152, _ => ⟨_, mcd_152⟩
  | 153, _ => ⟨_, mcd_153⟩
  | 154, _ => ⟨_, mcd_154⟩
  | 155, _ => ⟨_, mcd_155⟩
  | 156, _ => ⟨_, mcd_156⟩
  | 157, _ => ⟨_, mcd_157⟩
  | 158, _ => ⟨_, mcd_158⟩
  | 159, _ => ⟨_, mcd_159⟩
  | 160, _ => ⟨_, mcd_160⟩
  | 161, _ => ⟨_, mcd_161⟩
  | 162, _ => ⟨_, mcd_162⟩
  | 163, _ => ⟨_, mcd_163⟩
  | 164, _ => ⟨_, mcd_164⟩
  | 165, _ => ⟨_, mcd_165⟩
  | 166, _ => ⟨_, mcd_166⟩
  | 167, _ => ⟨_, mcd_167⟩
  | 168, _ => ⟨_, mcd_168⟩
  | 169, _ => ⟨_, mcd_169⟩
  | 170, _ => ⟨_, mcd_170⟩
  | 171, _ => ⟨_, mcd_171⟩
  | 172, _ => ⟨_, mcd_172⟩
  | 173, _ => ⟨_, mcd_173⟩
  | 174, _ => ⟨_, mcd_174⟩
  | 175, _ => ⟨_, mcd_175⟩
  | 176, _ => ⟨_, mcd_176⟩
  | 177, _ => ⟨_, mcd_177⟩
  | 178, _ => ⟨_, mcd_178⟩
  | 179, _ => ⟨_, mcd_179⟩
  | 180, _ => ⟨_, mcd_180⟩
  | 181, _ => ⟨_, mcd_181⟩
  | 182, _ => ⟨_, mcd_182⟩
  | 183, _ => ⟨_, mcd_183⟩
  | 184, _ => ⟨_, mcd_184⟩
  | 185, _ => ⟨_, mcd_185⟩
  | 186, _ => ⟨_, mcd_186⟩
  | 187, _ => ⟨_, mcd_187⟩
  | 188, _ => ⟨_, mcd_188⟩
  | 189, _ => ⟨_, mcd_189⟩
  | 190, _ => ⟨_, mcd_190⟩
  | 191, _ => ⟨_, mcd_191⟩
  | 192, _ => ⟨_, mcd_192⟩
  | 193, _ => ⟨_, mcd_193⟩
  | 194, _ => ⟨_, mcd_194⟩
  | 195, _ => ⟨_, mcd_195⟩
  | 196, _ => ⟨_, mcd_196⟩
  | 197, _ => ⟨_, mcd_197⟩
  | 198, _ => ⟨_, mcd_198⟩
  | 199, _ => ⟨_, mcd_199⟩
  | 200, _ => ⟨_, mcd_200⟩
  | 201, _ => ⟨_, mcd_201⟩
  | 202, _ => ⟨_, mcd_202⟩
  | 203, _ => ⟨_, mcd_203⟩
  | 204, _ => ⟨_, mcd_204⟩
  | k + 205, h => absurd h (by omega)
