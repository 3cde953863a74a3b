abbrev b_X_within : ByteArray := prog_1_method_49_code
def y_X_within : MethodName := ⟨"TopYard", "within", "(III)Z"⟩
abbrev b_Hd_alongX : ByteArray := prog_6_method_2_code
def y_Hd_alongX : MethodName := ⟨"TopYard$Headings", "alongX", "(I)I"⟩
abbrev b_Hd_alongY : ByteArray := prog_6_method_3_code
def y_Hd_alongY : MethodName := ⟨"TopYard$Headings", "alongY", "(I)I"⟩
abbrev b_X_turn : ByteArray := prog_1_method_2_code
def y_X_turn : MethodName := ⟨"TopYard", "turn", "(II)I"⟩
abbrev b_X_isOwner : ByteArray := prog_1_method_50_code
def y_X_isOwner : MethodName := ⟨"TopYard", "isOwner", "(I)Z"⟩
abbrev b_X_top : ByteArray := prog_1_method_3_code
def y_X_top : MethodName := ⟨"TopYard", "top", "(IIIII)I"⟩
abbrev b_X_topAt : ByteArray := prog_1_method_51_code
def y_X_topAt : MethodName := ⟨"TopYard", "topAt", "(I)LTopYard$Top;"⟩
abbrev b_X_about : ByteArray := prog_1_method_4_code
def y_X_about : MethodName := ⟨"TopYard", "about", "(II)I"⟩
abbrev b_X_wear : ByteArray := prog_1_method_5_code
def y_X_wear : MethodName := ⟨"TopYard", "wear", "(II)I"⟩
abbrev b_X_give : ByteArray := prog_1_method_6_code
def y_X_give : MethodName := ⟨"TopYard", "give", "(II)I"⟩
abbrev b_X_bowl : ByteArray := prog_1_method_7_code
def y_X_bowl : MethodName := ⟨"TopYard", "bowl", "(II)I"⟩
abbrev b_Bw_mayDent : ByteArray := prog_3_method_2_code
def y_Bw_mayDent : MethodName := ⟨"TopYard$Bowl", "mayDent", "(II)Z"⟩
abbrev b_Bw_raise : ByteArray := prog_3_method_3_code
def y_Bw_raise : MethodName := ⟨"TopYard$Bowl", "raise", "(III)Z"⟩
abbrev b_X_dent : ByteArray := prog_1_method_8_code
def y_X_dent : MethodName := ⟨"TopYard", "dent", "(III)I"⟩
abbrev b_JA_fill : ByteArray := prog_17_method_103_code
def y_JA_fill : MethodName := ⟨"java/util/Arrays", "fill", "([II)V"⟩
abbrev b_Bw_flatten : ByteArray := prog_3_method_4_code
def y_Bw_flatten : MethodName := ⟨"TopYard$Bowl", "flatten", "()V"⟩
abbrev b_X_smooth : ByteArray := prog_1_method_9_code
def y_X_smooth : MethodName := ⟨"TopYard", "smooth", "()I"⟩
abbrev b_Bw_heightAt : ByteArray := prog_3_method_5_code
def y_Bw_heightAt : MethodName := ⟨"TopYard$Bowl", "heightAt", "(II)I"⟩
abbrev b_Bw_slopeAlongX : ByteArray := prog_3_method_6_code
def y_Bw_slopeAlongX : MethodName := ⟨"TopYard$Bowl", "slopeAlongX", "(II)I"⟩
abbrev b_Bw_slopeAlongY : ByteArray := prog_3_method_7_code
def y_Bw_slopeAlongY : MethodName := ⟨"TopYard$Bowl", "slopeAlongY", "(II)I"⟩
abbrev b_X_height : ByteArray := prog_1_method_10_code
def y_X_height : MethodName := ⟨"TopYard", "height", "(III)I"⟩
abbrev b_X_string : ByteArray := prog_1_method_11_code
def y_X_string : MethodName := ⟨"TopYard", "string", "(II)I"⟩
abbrev b_Bt_holds : ByteArray := prog_2_method_4_code
def y_Bt_holds : MethodName := ⟨"TopYard$Bout", "holds", "(I)Z"⟩
abbrev b_Bt_addSpinner : ByteArray := prog_2_method_5_code
def y_Bt_addSpinner : MethodName := ⟨"TopYard$Bout", "addSpinner", "(LTopYard$Top;I)LTopYard$Spinner;"⟩
abbrev b_Sp_set : ByteArray := prog_10_method_2_code
def y_Sp_set : MethodName := ⟨"TopYard$Spinner", "set", "(IIII)V"⟩
abbrev b_X_enter : ByteArray := prog_1_method_12_code
def y_X_enter : MethodName := ⟨"TopYard", "enter", "(IIIII)I"⟩
abbrev b_Bt_empty : ByteArray := prog_2_method_2_code
def y_Bt_empty : MethodName := ⟨"TopYard$Bout", "empty", "()V"⟩
abbrev b_X_clear : ByteArray := prog_1_method_13_code
def y_X_clear : MethodName := ⟨"TopYard", "clear", "()I"⟩
abbrev b_Bt_addWhip : ByteArray := prog_2_method_6_code
def y_Bt_addWhip : MethodName := ⟨"TopYard$Bout", "addWhip", "(III)Z"⟩
abbrev b_X_whip : ByteArray := prog_1_method_14_code
def y_X_whip : MethodName := ⟨"TopYard", "whip", "(III)I"⟩
abbrev b_JM_max1 : ByteArray := prog_15_method_65_code
def y_JM_max1 : MethodName := ⟨"java/lang/Math", "max", "(II)I"⟩
abbrev b_JM_min : ByteArray := prog_15_method_69_code
def y_JM_min : MethodName := ⟨"java/lang/Math", "min", "(II)I"⟩
abbrev b_Sp_begin : ByteArray := prog_10_method_3_code
def y_Sp_begin : MethodName := ⟨"TopYard$Spinner", "begin", "(I)V"⟩
abbrev b_Bt_begin : ByteArray := prog_2_method_9_code
def y_Bt_begin : MethodName := ⟨"TopYard$Bout", "begin", "([I)V"⟩
abbrev b_Bt_at : ByteArray := prog_2_method_3_code
def y_Bt_at : MethodName := ⟨"TopYard$Bout", "at", "(I)LTopYard$Spinner;"⟩
abbrev b_Sp_stands : ByteArray := prog_10_method_4_code
def y_Sp_stands : MethodName := ⟨"TopYard$Spinner", "stands", "()Z"⟩
abbrev b_Bt_lash : ByteArray := prog_2_method_12_code
def y_Bt_lash : MethodName := ⟨"TopYard$Bout", "lash", "(I)V"⟩
abbrev b_Sp_slow : ByteArray := prog_10_method_6_code
def y_Sp_slow : MethodName := ⟨"TopYard$Spinner", "slow", "()V"⟩
abbrev b_Sp_tilt : ByteArray := prog_10_method_7_code
def y_Sp_tilt : MethodName := ⟨"TopYard$Spinner", "tilt", "()V"⟩
abbrev b_JM_floorDiv : ByteArray := prog_15_method_49_code
def y_JM_floorDiv : MethodName := ⟨"java/lang/Math", "floorDiv", "(JJ)J"⟩
abbrev b_JM_floorMod : ByteArray := prog_15_method_50_code
def y_JM_floorMod : MethodName := ⟨"java/lang/Math", "floorMod", "(II)I"⟩
abbrev b_Sp_push : ByteArray := prog_10_method_8_code
def y_Sp_push : MethodName := ⟨"TopYard$Spinner", "push", "(LTopYard$Bowl;)V"⟩
abbrev b_Sp_move : ByteArray := prog_10_method_9_code
def y_Sp_move : MethodName := ⟨"TopYard$Spinner", "move", "()V"⟩
abbrev b_Sp_isWithin : ByteArray := prog_10_method_12_code
def y_Sp_isWithin : MethodName := ⟨"TopYard$Spinner", "isWithin", "(I)Z"⟩
abbrev b_Sp_leave : ByteArray := prog_10_method_10_code
def y_Sp_leave : MethodName := ⟨"TopYard$Spinner", "leave", "(I)V"⟩
abbrev b_Bt_lock : ByteArray := prog_2_method_14_code
def y_Bt_lock : MethodName := ⟨"TopYard$Bout", "lock", "(LTopYard$Spinner;LTopYard$Spinner;)V"⟩
abbrev b_Bt_bounce : ByteArray := prog_2_method_15_code
def y_Bt_bounce : MethodName := ⟨"TopYard$Bout", "bounce", "(LTopYard$Spinner;LTopYard$Spinner;JJJ)V"⟩
abbrev b_Bt_passSpin : ByteArray := prog_2_method_16_code
def y_Bt_passSpin : MethodName := ⟨"TopYard$Bout", "passSpin", "(LTopYard$Spinner;LTopYard$Spinner;)V"⟩
abbrev b_Bt_collide : ByteArray := prog_2_method_13_code
def y_Bt_collide : MethodName := ⟨"TopYard$Bout", "collide", "(LTopYard$Spinner;LTopYard$Spinner;)V"⟩
abbrev b_Sp_fall : ByteArray := prog_10_method_11_code
def y_Sp_fall : MethodName := ⟨"TopYard$Spinner", "fall", "(I)V"⟩
abbrev b_Bt_step : ByteArray := prog_2_method_11_code
def y_Bt_step : MethodName := ⟨"TopYard$Bout", "step", "(LTopYard$Bowl;II)V"⟩
abbrev b_Bt_standing : ByteArray := prog_2_method_10_code
def y_Bt_standing : MethodName := ⟨"TopYard$Bout", "standing", "()I"⟩
abbrev b_Bt_spinUntil : ByteArray := prog_2_method_7_code
def y_Bt_spinUntil : MethodName := ⟨"TopYard$Bout", "spinUntil", "(LTopYard$Bowl;[III)I"⟩
abbrev b_X_spinBout : ByteArray := prog_1_method_54_code
def y_X_spinBout : MethodName := ⟨"TopYard", "spinBout", "(I)I"⟩
abbrev b_X_run : ByteArray := prog_1_method_15_code
def y_X_run : MethodName := ⟨"TopYard", "run", "()I"⟩
abbrev b_Bt_lonePlace : ByteArray := prog_2_method_8_code
def y_Bt_lonePlace : MethodName := ⟨"TopYard$Bout", "lonePlace", "()I"⟩
abbrev b_X_winner : ByteArray := prog_1_method_16_code
def y_X_winner : MethodName := ⟨"TopYard", "winner", "()I"⟩
abbrev b_X_knocks : ByteArray := prog_1_method_17_code
def y_X_knocks : MethodName := ⟨"TopYard", "knocks", "(I)I"⟩
abbrev b_Sp_figure : ByteArray := prog_10_method_13_code
def y_Sp_figure : MethodName := ⟨"TopYard$Spinner", "figure", "(I)I"⟩
abbrev b_X_state : ByteArray := prog_1_method_18_code
def y_X_state : MethodName := ⟨"TopYard", "state", "(III)I"⟩
abbrev b_Ch_begin : ByteArray := prog_4_method_2_code
def y_Ch_begin : MethodName := ⟨"TopYard$Choice", "begin", "()V"⟩
abbrev b_X_choose : ByteArray := prog_1_method_19_code
def y_X_choose : MethodName := ⟨"TopYard", "choose", "()I"⟩
abbrev b_Ch_addRow : ByteArray := prog_4_method_5_code
def y_Ch_addRow : MethodName := ⟨"TopYard$Choice", "addRow", "(I)I"⟩
abbrev b_Ch_addColumn : ByteArray := prog_4_method_6_code
def y_Ch_addColumn : MethodName := ⟨"TopYard$Choice", "addColumn", "(I)I"⟩
abbrev b_X_among : ByteArray := prog_1_method_20_code
def y_X_among : MethodName := ⟨"TopYard", "among", "(II)I"⟩
abbrev b_Ch_has : ByteArray := prog_4_method_4_code
def y_Ch_has : MethodName := ⟨"TopYard$Choice", "has", "(II)Z"⟩
abbrev b_X_pay : ByteArray := prog_1_method_21_code
def y_X_pay : MethodName := ⟨"TopYard", "pay", "(III)I"⟩
abbrev b_X_pays : ByteArray := prog_1_method_22_code
def y_X_pays : MethodName := ⟨"TopYard", "pays", "(II)I"⟩
abbrev b_Ch_isOpen : ByteArray := prog_4_method_3_code
def y_Ch_isOpen : MethodName := ⟨"TopYard$Choice", "isOpen", "()Z"⟩
abbrev b_Sp_fellInRing : ByteArray := prog_10_method_5_code
def y_Sp_fellInRing : MethodName := ⟨"TopYard$Spinner", "fellInRing", "()Z"⟩
abbrev b_X_duel : ByteArray := prog_1_method_55_code
def y_X_duel : MethodName := ⟨"TopYard", "duel", "(IIII)I"⟩
abbrev b_X_fill : ByteArray := prog_1_method_23_code
def y_X_fill : MethodName := ⟨"TopYard", "fill", "()I"⟩
abbrev b_JI_bitCount : ByteArray := prog_14_method_49_code
def y_JI_bitCount : MethodName := ⟨"java/lang/Integer", "bitCount", "(I)I"⟩
abbrev b_JI_numberOfTrailingZeros : ByteArray := prog_14_method_48_code
def y_JI_numberOfTrailingZeros : MethodName := ⟨"java/lang/Integer", "numberOfTrailingZeros", "(I)I"⟩
abbrev b_Ch_minor : ByteArray := prog_4_method_12_code
def y_Ch_minor : MethodName := ⟨"TopYard$Choice", "minor", "(IIII)J"⟩
abbrev b_Ch_expand : ByteArray := prog_4_method_11_code
def y_Ch_expand : MethodName := ⟨"TopYard$Choice", "expand", "(II)J"⟩
abbrev b_Ch_findDeterminants : ByteArray := prog_4_method_10_code
def y_Ch_findDeterminants : MethodName := ⟨"TopYard$Choice", "findDeterminants", "()V"⟩
abbrev b_Ch_cofactor : ByteArray := prog_4_method_15_code
def y_Ch_cofactor : MethodName := ⟨"TopYard$Choice", "cofactor", "(IIII)J"⟩
abbrev b_Ch_changeSigns : ByteArray := prog_4_method_16_code
def y_Ch_changeSigns : MethodName := ⟨"TopYard$Choice", "changeSigns", "()V"⟩
abbrev b_Ch_noShareIsNegative : ByteArray := prog_4_method_17_code
def y_Ch_noShareIsNegative : MethodName := ⟨"TopYard$Choice", "noShareIsNegative", "()Z"⟩
abbrev b_Ch_holdsForRows : ByteArray := prog_4_method_19_code
def y_Ch_holdsForRows : MethodName := ⟨"TopYard$Choice", "holdsForRows", "()Z"⟩
abbrev b_Ch_holdsForColumns : ByteArray := prog_4_method_18_code
def y_Ch_holdsForColumns : MethodName := ⟨"TopYard$Choice", "holdsForColumns", "()Z"⟩
abbrev b_Ch_solveByPart : ByteArray := prog_4_method_14_code
def y_Ch_solveByPart : MethodName := ⟨"TopYard$Choice", "solveByPart", "(II)Z"⟩
abbrev b_Ch_solveBySize : ByteArray := prog_4_method_13_code
def y_Ch_solveBySize : MethodName := ⟨"TopYard$Choice", "solveBySize", "(I)Z"⟩
abbrev b_Ch_solve : ByteArray := prog_4_method_9_code
def y_Ch_solve : MethodName := ⟨"TopYard$Choice", "solve", "()V"⟩
abbrev b_Ch_inMillionths : ByteArray := prog_4_method_8_code
def y_Ch_inMillionths : MethodName := ⟨"TopYard$Choice", "inMillionths", "(J)I"⟩
abbrev b_Ch_valueInMillionths : ByteArray := prog_4_method_7_code
def y_Ch_valueInMillionths : MethodName := ⟨"TopYard$Choice", "valueInMillionths", "()I"⟩
abbrev b_X_value : ByteArray := prog_1_method_24_code
def y_X_value : MethodName := ⟨"TopYard", "value", "()I"⟩
abbrev b_X_mix : ByteArray := prog_1_method_25_code
def y_X_mix : MethodName := ⟨"TopYard", "mix", "(II)I"⟩
abbrev b_X_expected : ByteArray := prog_1_method_26_code
def y_X_expected : MethodName := ⟨"TopYard", "expected", "(II)I"⟩
abbrev b_X_mayBeRow : ByteArray := prog_1_method_56_code
def y_X_mayBeRow : MethodName := ⟨"TopYard", "mayBeRow", "(III)Z"⟩
abbrev b_Pa_add : ByteArray := prog_8_method_2_code
def y_Pa_add : MethodName := ⟨"TopYard$Past", "add", "(III)Z"⟩
abbrev b_X_was : ByteArray := prog_1_method_27_code
def y_X_was : MethodName := ⟨"TopYard", "was", "(III)I"⟩
abbrev b_X_forget : ByteArray := prog_1_method_28_code
def y_X_forget : MethodName := ⟨"TopYard", "forget", "()I"⟩
abbrev b_X_sheetAt : ByteArray := prog_1_method_52_code
def y_X_sheetAt : MethodName := ⟨"TopYard", "sheetAt", "(I)LTopYard$Sheet;"⟩
abbrev b_X_find : ByteArray := prog_1_method_53_code
def y_X_find : MethodName := ⟨"TopYard", "find", "(I)I"⟩
abbrev b_Sh_item : ByteArray := prog_9_method_6_code
def y_Sh_item : MethodName := ⟨"TopYard$Sheet", "item", "(I)I"⟩
abbrev b_X_read : ByteArray := prog_1_method_29_code
def y_X_read : MethodName := ⟨"TopYard", "read", "(I)I"⟩
abbrev b_Pa_speaks : ByteArray := prog_8_method_3_code
def y_Pa_speaks : MethodName := ⟨"TopYard$Past", "speaks", "(II)Z"⟩
abbrev b_Pa_firstLike : ByteArray := prog_8_method_4_code
def y_Pa_firstLike : MethodName := ⟨"TopYard$Past", "firstLike", "(I)I"⟩
abbrev b_X_foretellRows : ByteArray := prog_1_method_57_code
def y_X_foretellRows : MethodName := ⟨"TopYard", "foretellRows", "(I)V"⟩
abbrev b_Pa_sided : ByteArray := prog_8_method_9_code
def y_Pa_sided : MethodName := ⟨"TopYard$Past", "sided", "(III)I"⟩
abbrev b_Pa_surprises : ByteArray := prog_8_method_5_code
def y_Pa_surprises : MethodName := ⟨"TopYard$Past", "surprises", "(I)I"⟩
abbrev b_Pa_chances : ByteArray := prog_8_method_6_code
def y_Pa_chances : MethodName := ⟨"TopYard$Past", "chances", "(I)I"⟩
abbrev b_Pa_doubt : ByteArray := prog_8_method_8_code
def y_Pa_doubt : MethodName := ⟨"TopYard$Past", "doubt", "(I)I"⟩
abbrev b_X_worn : ByteArray := prog_1_method_30_code
def y_X_worn : MethodName := ⟨"TopYard", "worn", "(II)I"⟩
abbrev b_X_most : ByteArray := prog_1_method_31_code
def y_X_most : MethodName := ⟨"TopYard", "most", "()I"⟩
abbrev b_Pa_rowsAsTold : ByteArray := prog_8_method_7_code
def y_Pa_rowsAsTold : MethodName := ⟨"TopYard$Past", "rowsAsTold", "(I)I"⟩
abbrev b_X_explained : ByteArray := prog_1_method_32_code
def y_X_explained : MethodName := ⟨"TopYard", "explained", "(II)I"⟩
abbrev b_Ga_append : ByteArray := prog_5_method_2_code
def y_Ga_append : MethodName := ⟨"TopYard$Game", "append", "(I)Z"⟩
abbrev b_X_type : ByteArray := prog_1_method_33_code
def y_X_type : MethodName := ⟨"TopYard", "type", "(I)I"⟩
abbrev b_X_wipe : ByteArray := prog_1_method_34_code
def y_X_wipe : MethodName := ⟨"TopYard", "wipe", "()I"⟩
abbrev b_Ga_byteAt : ByteArray := prog_5_method_9_code
def y_Ga_byteAt : MethodName := ⟨"TopYard$Game", "byteAt", "(I)I"⟩
abbrev b_Ga_letterAt : ByteArray := prog_5_method_10_code
def y_Ga_letterAt : MethodName := ⟨"TopYard$Game", "letterAt", "(I)I"⟩
abbrev b_Ga_isFigure : ByteArray := prog_5_method_13_code
def y_Ga_isFigure : MethodName := ⟨"TopYard$Game", "isFigure", "(I)Z"⟩
abbrev b_Ga_figuresAt : ByteArray := prog_5_method_11_code
def y_Ga_figuresAt : MethodName := ⟨"TopYard$Game", "figuresAt", "(I)I"⟩
abbrev b_Ga_numberAt : ByteArray := prog_5_method_12_code
def y_Ga_numberAt : MethodName := ⟨"TopYard$Game", "numberAt", "(II)I"⟩
abbrev b_Ga_parse : ByteArray := prog_5_method_8_code
def y_Ga_parse : MethodName := ⟨"TopYard$Game", "parse", "()I"⟩
abbrev b_X_fault : ByteArray := prog_1_method_35_code
def y_X_fault : MethodName := ⟨"TopYard", "fault", "()I"⟩
abbrev b_X_isTopOf : ByteArray := prog_1_method_59_code
def y_X_isTopOf : MethodName := ⟨"TopYard", "isTopOf", "(II)Z"⟩
abbrev b_X_topsOf : ByteArray := prog_1_method_58_code
def y_X_topsOf : MethodName := ⟨"TopYard", "topsOf", "(I)I"⟩
abbrev b_Ga_mostBouts : ByteArray := prog_5_method_4_code
def y_Ga_mostBouts : MethodName := ⟨"TopYard$Game", "mostBouts", "()I"⟩
abbrev b_Ga_winsNeeded : ByteArray := prog_5_method_3_code
def y_Ga_winsNeeded : MethodName := ⟨"TopYard$Game", "winsNeeded", "()I"⟩
abbrev b_X_nthTopOf : ByteArray := prog_1_method_60_code
def y_X_nthTopOf : MethodName := ⟨"TopYard", "nthTopOf", "(II)I"⟩
abbrev b_Ga_turns : ByteArray := prog_5_method_6_code
def y_Ga_turns : MethodName := ⟨"TopYard$Game", "turns", "()I"⟩
abbrev b_Ga_ring : ByteArray := prog_5_method_5_code
def y_Ga_ring : MethodName := ⟨"TopYard$Game", "ring", "()I"⟩
abbrev b_X_playBouts : ByteArray := prog_1_method_61_code
def y_X_playBouts : MethodName := ⟨"TopYard", "playBouts", "(II)V"⟩
abbrev b_Ga_keeps : ByteArray := prog_5_method_7_code
def y_Ga_keeps : MethodName := ⟨"TopYard$Game", "keeps", "()I"⟩
abbrev b_X_keepTops : ByteArray := prog_1_method_62_code
def y_X_keepTops : MethodName := ⟨"TopYard", "keepTops", "(II)I"⟩
abbrev b_X_play : ByteArray := prog_1_method_36_code
def y_X_play : MethodName := ⟨"TopYard", "play", "(II)I"⟩
abbrev b_X_played : ByteArray := prog_1_method_37_code
def y_X_played : MethodName := ⟨"TopYard", "played", "(I)I"⟩
abbrev b_X_met : ByteArray := prog_1_method_38_code
def y_X_met : MethodName := ⟨"TopYard", "met", "(II)I"⟩
abbrev b_X_costOfPair : ByteArray := prog_1_method_65_code
def y_X_costOfPair : MethodName := ⟨"TopYard", "costOfPair", "([III)J"⟩
abbrev b_JM_max2 : ByteArray := prog_15_method_66_code
def y_JM_max2 : MethodName := ⟨"java/lang/Math", "max", "(JJ)J"⟩
abbrev b_X_leastCost : ByteArray := prog_1_method_66_code
def y_X_leastCost : MethodName := ⟨"TopYard", "leastCost", "([III)J"⟩
abbrev b_X_bestMate : ByteArray := prog_1_method_64_code
def y_X_bestMate : MethodName := ⟨"TopYard", "bestMate", "(III)I"⟩
abbrev b_X_mateInPairing : ByteArray := prog_1_method_63_code
def y_X_mateInPairing : MethodName := ⟨"TopYard", "mateInPairing", "(II)I"⟩
abbrev b_X_pairing : ByteArray := prog_1_method_39_code
def y_X_pairing : MethodName := ⟨"TopYard", "pairing", "(II)I"⟩
abbrev b_Pk_begin : ByteArray := prog_7_method_2_code
def y_Pk_begin : MethodName := ⟨"TopYard$Pack", "begin", "(I)V"⟩
abbrev b_To_worth : ByteArray := prog_11_method_2_code
def y_To_worth : MethodName := ⟨"TopYard$Top", "worth", "()I"⟩
abbrev b_Pk_offer : ByteArray := prog_7_method_3_code
def y_Pk_offer : MethodName := ⟨"TopYard$Pack", "offer", "(II)V"⟩
abbrev b_Pk_bestWeight : ByteArray := prog_7_method_4_code
def y_Pk_bestWeight : MethodName := ⟨"TopYard$Pack", "bestWeight", "()I"⟩
abbrev b_X_bag : ByteArray := prog_1_method_40_code
def y_X_bag : MethodName := ⟨"TopYard", "bag", "(III)I"⟩
abbrev b_Sh_isForm : ByteArray := prog_9_method_2_code
def y_Sh_isForm : MethodName := ⟨"TopYard$Sheet", "isForm", "(I)Z"⟩
abbrev b_Sh_begin : ByteArray := prog_9_method_3_code
def y_Sh_begin : MethodName := ⟨"TopYard$Sheet", "begin", "(II)V"⟩
abbrev b_X_sheet : ByteArray := prog_1_method_41_code
def y_X_sheet : MethodName := ⟨"TopYard", "sheet", "(III)I"⟩
abbrev b_X_lose : ByteArray := prog_1_method_42_code
def y_X_lose : MethodName := ⟨"TopYard", "lose", "(I)I"⟩
abbrev b_Sh_findingAt : ByteArray := prog_9_method_4_code
def y_Sh_findingAt : MethodName := ⟨"TopYard$Sheet", "findingAt", "(II)I"⟩
abbrev b_Sh_narrowed : ByteArray := prog_9_method_8_code
def y_Sh_narrowed : MethodName := ⟨"TopYard$Sheet", "narrowed", "(I)I"⟩
abbrev b_Sh_store : ByteArray := prog_9_method_7_code
def y_Sh_store : MethodName := ⟨"TopYard$Sheet", "store", "(II)V"⟩
abbrev b_X_put : ByteArray := prog_1_method_43_code
def y_X_put : MethodName := ⟨"TopYard", "put", "(IIII)I"⟩
abbrev b_X_get : ByteArray := prog_1_method_44_code
def y_X_get : MethodName := ⟨"TopYard", "get", "(III)I"⟩
abbrev b_Sh_spans : ByteArray := prog_9_method_5_code
def y_Sh_spans : MethodName := ⟨"TopYard$Sheet", "spans", "(II)Z"⟩
abbrev b_X_copy : ByteArray := prog_1_method_45_code
def y_X_copy : MethodName := ⟨"TopYard", "copy", "(IIIII)I"⟩
abbrev b_X_write : ByteArray := prog_1_method_46_code
def y_X_write : MethodName := ⟨"TopYard", "write", "(II)I"⟩
abbrev b_X_count : ByteArray := prog_1_method_47_code
def y_X_count : MethodName := ⟨"TopYard", "count", "(I)I"⟩
abbrev b_X_digest : ByteArray := prog_1_method_48_code
def y_X_digest : MethodName := ⟨"TopYard", "digest", "()J"⟩
abbrev b_M_in : ByteArray := prog_13_method_3_code
def y_M_in : MethodName := ⟨"TopYardModel", "in", "(JJJ)Z"⟩
abbrev b_M_c : ByteArray := prog_13_method_4_code
def y_M_c : MethodName := ⟨"TopYardModel", "c", "(I)I"⟩
abbrev b_M_s : ByteArray := prog_13_method_5_code
def y_M_s : MethodName := ⟨"TopYardModel", "s", "(I)I"⟩
abbrev b_M_turn : ByteArray := prog_13_method_6_code
def y_M_turn : MethodName := ⟨"TopYardModel", "turn", "(II)I"⟩
abbrev b_M_isTop : ByteArray := prog_13_method_7_code
def y_M_isTop : MethodName := ⟨"TopYardModel", "isTop", "(I)Z"⟩
abbrev b_M_isOwner : ByteArray := prog_13_method_8_code
def y_M_isOwner : MethodName := ⟨"TopYardModel", "isOwner", "(I)Z"⟩
abbrev b_M_top : ByteArray := prog_13_method_9_code
def y_M_top : MethodName := ⟨"TopYardModel", "top", "(IIIII)I"⟩
abbrev b_M_about : ByteArray := prog_13_method_10_code
def y_M_about : MethodName := ⟨"TopYardModel", "about", "(II)I"⟩
abbrev b_M_wear : ByteArray := prog_13_method_11_code
def y_M_wear : MethodName := ⟨"TopYardModel", "wear", "(II)I"⟩
abbrev b_M_give : ByteArray := prog_13_method_12_code
def y_M_give : MethodName := ⟨"TopYardModel", "give", "(II)I"⟩
abbrev b_M_bowl : ByteArray := prog_13_method_13_code
def y_M_bowl : MethodName := ⟨"TopYardModel", "bowl", "(II)I"⟩
abbrev b_M_dent : ByteArray := prog_13_method_14_code
def y_M_dent : MethodName := ⟨"TopYardModel", "dent", "(III)I"⟩
abbrev b_M_smooth : ByteArray := prog_13_method_15_code
def y_M_smooth : MethodName := ⟨"TopYardModel", "smooth", "()I"⟩
abbrev b_M_heightOf : ByteArray := prog_13_method_16_code
def y_M_heightOf : MethodName := ⟨"TopYardModel", "heightOf", "(II)I"⟩
abbrev b_M_slopeX : ByteArray := prog_13_method_17_code
def y_M_slopeX : MethodName := ⟨"TopYardModel", "slopeX", "(II)I"⟩
abbrev b_M_slopeY : ByteArray := prog_13_method_18_code
def y_M_slopeY : MethodName := ⟨"TopYardModel", "slopeY", "(II)I"⟩
abbrev b_M_height : ByteArray := prog_13_method_19_code
def y_M_height : MethodName := ⟨"TopYardModel", "height", "(III)I"⟩
abbrev b_M_string : ByteArray := prog_13_method_20_code
def y_M_string : MethodName := ⟨"TopYardModel", "string", "(II)I"⟩
abbrev b_M_enter : ByteArray := prog_13_method_21_code
def y_M_enter : MethodName := ⟨"TopYardModel", "enter", "(IIIII)I"⟩
abbrev b_M_clear : ByteArray := prog_13_method_22_code
def y_M_clear : MethodName := ⟨"TopYardModel", "clear", "()I"⟩
abbrev b_M_whip : ByteArray := prog_13_method_23_code
def y_M_whip : MethodName := ⟨"TopYardModel", "whip", "(III)I"⟩
abbrev b_M_begins : ByteArray := prog_13_method_24_code
def y_M_begins : MethodName := ⟨"TopYardModel", "begins", "(IIIIII)V"⟩
abbrev b_M_standing : ByteArray := prog_13_method_25_code
def y_M_standing : MethodName := ⟨"TopYardModel", "standing", "()I"⟩
abbrev b_M_floor65 : ByteArray := prog_13_method_26_code
def y_M_floor65 : MethodName := ⟨"TopYardModel", "floor65", "(J)I"⟩
abbrev b_M_moves : ByteArray := prog_13_method_27_code
def y_M_moves : MethodName := ⟨"TopYardModel", "moves", "()V"⟩
abbrev b_M_knock : ByteArray := prog_13_method_28_code
def y_M_knock : MethodName := ⟨"TopYardModel", "knock", "(II)V"⟩
abbrev b_M_ticks : ByteArray := prog_13_method_29_code
def y_M_ticks : MethodName := ⟨"TopYardModel", "ticks", "(IIZ)V"⟩
abbrev b_M_runsTo : ByteArray := prog_13_method_30_code
def y_M_runsTo : MethodName := ⟨"TopYardModel", "runsTo", "(IIZ)I"⟩
abbrev b_M_runsBout : ByteArray := prog_13_method_31_code
def y_M_runsBout : MethodName := ⟨"TopYardModel", "runsBout", "(I)I"⟩
abbrev b_M_alone : ByteArray := prog_13_method_32_code
def y_M_alone : MethodName := ⟨"TopYardModel", "alone", "()I"⟩
abbrev b_M_run : ByteArray := prog_13_method_33_code
def y_M_run : MethodName := ⟨"TopYardModel", "run", "()I"⟩
abbrev b_M_winner : ByteArray := prog_13_method_34_code
def y_M_winner : MethodName := ⟨"TopYardModel", "winner", "()I"⟩
abbrev b_M_knocks : ByteArray := prog_13_method_35_code
def y_M_knocks : MethodName := ⟨"TopYardModel", "knocks", "(I)I"⟩
abbrev b_M_stateOf : ByteArray := prog_13_method_36_code
def y_M_stateOf : MethodName := ⟨"TopYardModel", "stateOf", "(II)I"⟩
abbrev b_M_state : ByteArray := prog_13_method_37_code
def y_M_state : MethodName := ⟨"TopYardModel", "state", "(III)I"⟩
abbrev b_M_comesTo : ByteArray := prog_13_method_38_code
def y_M_comesTo : MethodName := ⟨"TopYardModel", "comesTo", "(IIII)I"⟩
abbrev b_M_expectedOf : ByteArray := prog_13_method_39_code
def y_M_expectedOf : MethodName := ⟨"TopYardModel", "expectedOf", "(II)I"⟩
abbrev b_M_expected : ByteArray := prog_13_method_40_code
def y_M_expected : MethodName := ⟨"TopYardModel", "expected", "(II)I"⟩
abbrev b_M_choose : ByteArray := prog_13_method_41_code
def y_M_choose : MethodName := ⟨"TopYardModel", "choose", "()I"⟩
abbrev b_M_among : ByteArray := prog_13_method_42_code
def y_M_among : MethodName := ⟨"TopYardModel", "among", "(II)I"⟩
abbrev b_M_isPay : ByteArray := prog_13_method_43_code
def y_M_isPay : MethodName := ⟨"TopYardModel", "isPay", "(II)Z"⟩
abbrev b_M_pay : ByteArray := prog_13_method_44_code
def y_M_pay : MethodName := ⟨"TopYardModel", "pay", "(III)I"⟩
abbrev b_M_pays : ByteArray := prog_13_method_45_code
def y_M_pays : MethodName := ⟨"TopYardModel", "pays", "(II)I"⟩
abbrev b_M_fill : ByteArray := prog_13_method_46_code
def y_M_fill : MethodName := ⟨"TopYardModel", "fill", "()I"⟩
abbrev b_M_ones : ByteArray := prog_13_method_47_code
def y_M_ones : MethodName := ⟨"TopYardModel", "ones", "(I)I"⟩
abbrev b_M_det2 : ByteArray := prog_13_method_48_code
def y_M_det2 : MethodName := ⟨"TopYardModel", "det2", "(IIII)J"⟩
abbrev b_M_det3 : ByteArray := prog_13_method_49_code
def y_M_det3 : MethodName := ⟨"TopYardModel", "det3", "(IIIIII)J"⟩
abbrev b_M_without : ByteArray := prog_13_method_50_code
def y_M_without : MethodName := ⟨"TopYardModel", "without", "(II)I"⟩
abbrev b_M_minor : ByteArray := prog_13_method_51_code
def y_M_minor : MethodName := ⟨"TopYardModel", "minor", "(III)J"⟩
abbrev b_M_takesPart : ByteArray := prog_13_method_52_code
def y_M_takesPart : MethodName := ⟨"TopYardModel", "takesPart", "(II)V"⟩
abbrev b_M_isMix : ByteArray := prog_13_method_53_code
def y_M_isMix : MethodName := ⟨"TopYardModel", "isMix", "()Z"⟩
abbrev b_M_findMix : ByteArray := prog_13_method_54_code
def y_M_findMix : MethodName := ⟨"TopYardModel", "findMix", "()Z"⟩
abbrev b_M_value : ByteArray := prog_13_method_55_code
def y_M_value : MethodName := ⟨"TopYardModel", "value", "()I"⟩
abbrev b_M_mix : ByteArray := prog_13_method_56_code
def y_M_mix : MethodName := ⟨"TopYardModel", "mix", "(II)I"⟩
abbrev b_M_was : ByteArray := prog_13_method_57_code
def y_M_was : MethodName := ⟨"TopYardModel", "was", "(III)I"⟩
abbrev b_M_forget : ByteArray := prog_13_method_58_code
def y_M_forget : MethodName := ⟨"TopYardModel", "forget", "()I"⟩
abbrev b_M_isSheet : ByteArray := prog_13_method_84_code
def y_M_isSheet : MethodName := ⟨"TopYardModel", "isSheet", "(I)Z"⟩
abbrev b_M_met2 : ByteArray := prog_13_method_83_code
def y_M_met2 : MethodName := ⟨"TopYardModel", "met", "(I)I"⟩
abbrev b_M_read : ByteArray := prog_13_method_59_code
def y_M_read : MethodName := ⟨"TopYardModel", "read", "(I)I"⟩
abbrev b_M_isOf : ByteArray := prog_13_method_60_code
def y_M_isOf : MethodName := ⟨"TopYardModel", "isOf", "(II)Z"⟩
abbrev b_M_findWorn : ByteArray := prog_13_method_61_code
def y_M_findWorn : MethodName := ⟨"TopYardModel", "findWorn", "(I)V"⟩
abbrev b_M_doubt : ByteArray := prog_13_method_62_code
def y_M_doubt : MethodName := ⟨"TopYardModel", "doubt", "()I"⟩
abbrev b_M_worn : ByteArray := prog_13_method_63_code
def y_M_worn : MethodName := ⟨"TopYardModel", "worn", "(II)I"⟩
abbrev b_M_most : ByteArray := prog_13_method_64_code
def y_M_most : MethodName := ⟨"TopYardModel", "most", "()I"⟩
abbrev b_M_explained : ByteArray := prog_13_method_65_code
def y_M_explained : MethodName := ⟨"TopYardModel", "explained", "(II)I"⟩
abbrev b_M_type : ByteArray := prog_13_method_66_code
def y_M_type : MethodName := ⟨"TopYardModel", "type", "(I)I"⟩
abbrev b_M_wipe : ByteArray := prog_13_method_67_code
def y_M_wipe : MethodName := ⟨"TopYardModel", "wipe", "()I"⟩
abbrev b_M_ruleOf : ByteArray := prog_13_method_68_code
def y_M_ruleOf : MethodName := ⟨"TopYardModel", "ruleOf", "(I)I"⟩
abbrev b_M_isRule : ByteArray := prog_13_method_69_code
def y_M_isRule : MethodName := ⟨"TopYardModel", "isRule", "(II)Z"⟩
abbrev b_M_isFigure : ByteArray := prog_13_method_70_code
def y_M_isFigure : MethodName := ⟨"TopYardModel", "isFigure", "(I)Z"⟩
abbrev b_M_reads : ByteArray := prog_13_method_71_code
def y_M_reads : MethodName := ⟨"TopYardModel", "reads", "()V"⟩
abbrev b_M_fault : ByteArray := prog_13_method_72_code
def y_M_fault : MethodName := ⟨"TopYardModel", "fault", "()I"⟩
abbrev b_M_topsOf : ByteArray := prog_13_method_73_code
def y_M_topsOf : MethodName := ⟨"TopYardModel", "topsOf", "(I)I"⟩
abbrev b_M_topOf : ByteArray := prog_13_method_74_code
def y_M_topOf : MethodName := ⟨"TopYardModel", "topOf", "(II)I"⟩
abbrev b_M_play : ByteArray := prog_13_method_75_code
def y_M_play : MethodName := ⟨"TopYardModel", "play", "(II)I"⟩
abbrev b_M_played : ByteArray := prog_13_method_76_code
def y_M_played : MethodName := ⟨"TopYardModel", "played", "(I)I"⟩
abbrev b_M_met1 : ByteArray := prog_13_method_77_code
def y_M_met1 : MethodName := ⟨"TopYardModel", "met", "(II)I"⟩
abbrev b_M_first : ByteArray := prog_13_method_78_code
def y_M_first : MethodName := ⟨"TopYardModel", "first", "(I)I"⟩
abbrev b_M_costs : ByteArray := prog_13_method_79_code
def y_M_costs : MethodName := ⟨"TopYardModel", "costs", "(II)I"⟩
abbrev b_M_findPairs : ByteArray := prog_13_method_80_code
def y_M_findPairs : MethodName := ⟨"TopYardModel", "findPairs", "()V"⟩
abbrev b_M_pairing : ByteArray := prog_13_method_81_code
def y_M_pairing : MethodName := ⟨"TopYardModel", "pairing", "(II)I"⟩
abbrev b_M_bag : ByteArray := prog_13_method_82_code
def y_M_bag : MethodName := ⟨"TopYardModel", "bag", "(III)I"⟩
abbrev b_M_sheet : ByteArray := prog_13_method_85_code
def y_M_sheet : MethodName := ⟨"TopYardModel", "sheet", "(III)I"⟩
abbrev b_M_lose : ByteArray := prog_13_method_86_code
def y_M_lose : MethodName := ⟨"TopYardModel", "lose", "(I)I"⟩
abbrev b_M_lacks : ByteArray := prog_13_method_87_code
def y_M_lacks : MethodName := ⟨"TopYardModel", "lacks", "(III)I"⟩
abbrev b_M_cut : ByteArray := prog_13_method_88_code
def y_M_cut : MethodName := ⟨"TopYardModel", "cut", "(II)I"⟩
abbrev b_M_put : ByteArray := prog_13_method_89_code
def y_M_put : MethodName := ⟨"TopYardModel", "put", "(IIII)I"⟩
abbrev b_M_get : ByteArray := prog_13_method_90_code
def y_M_get : MethodName := ⟨"TopYardModel", "get", "(III)I"⟩
abbrev b_M_copy : ByteArray := prog_13_method_91_code
def y_M_copy : MethodName := ⟨"TopYardModel", "copy", "(IIIII)I"⟩
abbrev b_M_write : ByteArray := prog_13_method_92_code
def y_M_write : MethodName := ⟨"TopYardModel", "write", "(II)I"⟩
abbrev b_M_count : ByteArray := prog_13_method_93_code
def y_M_count : MethodName := ⟨"TopYardModel", "count", "(I)I"⟩
abbrev b_M_digest : ByteArray := prog_13_method_94_code
def y_M_digest : MethodName := ⟨"TopYardModel", "digest", "()J"⟩
theorem wd_0 : (Jvm.Cond.fieldLink "TopYard$Headings" (9 : Nat) "TopYard$Headings" "QUARTER" "[I") ∈ TT := mt (i := 349) (by decide +kernel) (by decide +kernel)
theorem wd_1 : (Jvm.Cond.fieldLink "TopYard" (15 : Nat) "TopYard" "topCount" "I") ∈ TT := mt (i := 297) (by decide +kernel) (by decide +kernel)
theorem wd_2 : (Jvm.Cond.fieldLink "TopYard" (11 : Nat) "TopYard" "tops" "[LTopYard$Top;") ∈ TT := mt (i := 296) (by decide +kernel) (by decide +kernel)
theorem wd_3 : (Jvm.Cond.fieldLink "TopYard" (114 : Nat) "TopYard$Top" "weight" "I") ∈ TT := mt (i := 369) (by decide +kernel) (by decide +kernel)
theorem wd_4 : (Jvm.Cond.fieldLink "TopYard" (117 : Nat) "TopYard$Top" "rim" "I") ∈ TT := mt (i := 372) (by decide +kernel) (by decide +kernel)
theorem wd_5 : (Jvm.Cond.fieldLink "TopYard" (120 : Nat) "TopYard$Top" "peg" "I") ∈ TT := mt (i := 375) (by decide +kernel) (by decide +kernel)
theorem wd_6 : (Jvm.Cond.fieldLink "TopYard" (123 : Nat) "TopYard$Top" "sense" "I") ∈ TT := mt (i := 378) (by decide +kernel) (by decide +kernel)
theorem wd_7 : (Jvm.Cond.fieldLink "TopYard" (126 : Nat) "TopYard$Top" "owner" "I") ∈ TT := mt (i := 380) (by decide +kernel) (by decide +kernel)
theorem wd_8 : (Jvm.Cond.fieldLink "TopYard" (129 : Nat) "TopYard$Top" "wear" "I") ∈ TT := mt (i := 384) (by decide +kernel) (by decide +kernel)
theorem wd_9 : (Jvm.Cond.fieldLink "TopYard" (22 : Nat) "TopYard" "bowl" "LTopYard$Bowl;") ∈ TT := mt (i := 298) (by decide +kernel) (by decide +kernel)
theorem wd_10 : (Jvm.Cond.fieldLink "TopYard" (132 : Nat) "TopYard$Bowl" "radius" "I") ∈ TT := mt (i := 34) (by decide +kernel) (by decide +kernel)
theorem wd_11 : (Jvm.Cond.fieldLink "TopYard" (135 : Nat) "TopYard$Bowl" "ring" "I") ∈ TT := mt (i := 37) (by decide +kernel) (by decide +kernel)
theorem wd_12 : (Jvm.Cond.fieldLink "TopYard$Bowl" (16 : Nat) "TopYard$Bowl" "dents" "I") ∈ TT := mt (i := 38) (by decide +kernel) (by decide +kernel)
theorem wd_13 : (Jvm.Cond.fieldLink "TopYard$Bowl" (19 : Nat) "TopYard$Bowl" "raised" "[I") ∈ TT := mt (i := 40) (by decide +kernel) (by decide +kernel)
theorem wd_14 : (Jvm.Cond.fieldLink "TopYard" (145 : Nat) "TopYard$Bowl" "dents" "I") ∈ TT := mt (i := 39) (by decide +kernel) (by decide +kernel)
theorem wd_15 : (Jvm.Cond.constant "TopYard" (151 : Nat) (-2147483648 : Int32)) ∈ TT := mt (i := 443) (by decide +kernel) (by decide +kernel)
theorem wd_16 : (Jvm.Cond.fieldLink "TopYard" (26 : Nat) "TopYard" "strengths" "[I") ∈ TT := mt (i := 299) (by decide +kernel) (by decide +kernel)
theorem wd_17 : (Jvm.Cond.fieldLink "TopYard$Bout" (17 : Nat) "TopYard$Bout" "size" "I") ∈ TT := mt (i := 130) (by decide +kernel) (by decide +kernel)
theorem wd_18 : (Jvm.Cond.fieldLink "TopYard$Bout" (13 : Nat) "TopYard$Bout" "spinners" "[LTopYard$Spinner;") ∈ TT := mt (i := 129) (by decide +kernel) (by decide +kernel)
theorem wd_19 : (Jvm.Cond.fieldLink "TopYard$Bout" (41 : Nat) "TopYard$Spinner" "number" "I") ∈ TT := mt (i := 67) (by decide +kernel) (by decide +kernel)
theorem wd_20 : (Jvm.Cond.fieldLink "TopYard$Bout" (44 : Nat) "TopYard$Spinner" "top" "LTopYard$Top;") ∈ TT := mt (i := 65) (by decide +kernel) (by decide +kernel)
theorem wd_21 : (Jvm.Cond.fieldLink "TopYard$Spinner" (22 : Nat) "TopYard$Spinner" "cellX" "I") ∈ TT := mt (i := 68) (by decide +kernel) (by decide +kernel)
theorem wd_22 : (Jvm.Cond.fieldLink "TopYard$Spinner" (25 : Nat) "TopYard$Spinner" "cellY" "I") ∈ TT := mt (i := 69) (by decide +kernel) (by decide +kernel)
theorem wd_23 : (Jvm.Cond.fieldLink "TopYard$Spinner" (28 : Nat) "TopYard$Spinner" "firstHeading" "I") ∈ TT := mt (i := 70) (by decide +kernel) (by decide +kernel)
theorem wd_24 : (Jvm.Cond.fieldLink "TopYard$Spinner" (31 : Nat) "TopYard$Spinner" "turns" "I") ∈ TT := mt (i := 71) (by decide +kernel) (by decide +kernel)
theorem wd_25 : (Jvm.Cond.fieldLink "TopYard" (33 : Nat) "TopYard" "bout" "LTopYard$Bout;") ∈ TT := mt (i := 300) (by decide +kernel) (by decide +kernel)
theorem wd_26 : (Jvm.Cond.fieldLink "TopYard" (175 : Nat) "TopYard$Bout" "size" "I") ∈ TT := mt (i := 131) (by decide +kernel) (by decide +kernel)
theorem wd_27 : (Jvm.Cond.fieldLink "TopYard$Bout" (31 : Nat) "TopYard$Bout" "whips" "I") ∈ TT := mt (i := 135) (by decide +kernel) (by decide +kernel)
theorem wd_28 : (Jvm.Cond.fieldLink "TopYard$Bout" (21 : Nat) "TopYard$Bout" "whipPlaces" "[I") ∈ TT := mt (i := 132) (by decide +kernel) (by decide +kernel)
theorem wd_29 : (Jvm.Cond.fieldLink "TopYard$Bout" (25 : Nat) "TopYard$Bout" "whipTicks" "[I") ∈ TT := mt (i := 133) (by decide +kernel) (by decide +kernel)
theorem wd_30 : (Jvm.Cond.fieldLink "TopYard$Bout" (28 : Nat) "TopYard$Bout" "whipSpins" "[I") ∈ TT := mt (i := 134) (by decide +kernel) (by decide +kernel)
theorem wd_31 : (Jvm.Cond.fieldLink "TopYard" (184 : Nat) "TopYard$Bout" "whips" "I") ∈ TT := mt (i := 136) (by decide +kernel) (by decide +kernel)
theorem wd_32 : (Jvm.Cond.fieldLink "TopYard$Spinner" (9 : Nat) "TopYard$Spinner" "top" "LTopYard$Top;") ∈ TT := mt (i := 64) (by decide +kernel) (by decide +kernel)
theorem wd_33 : (Jvm.Cond.fieldLink "TopYard$Spinner" (34 : Nat) "TopYard$Spinner" "fate" "I") ∈ TT := mt (i := 91) (by decide +kernel) (by decide +kernel)
theorem wd_34 : (Jvm.Cond.fieldLink "TopYard$Spinner" (37 : Nat) "TopYard$Top" "weight" "I") ∈ TT := mt (i := 368) (by decide +kernel) (by decide +kernel)
theorem wd_35 : (Jvm.Cond.fieldLink "TopYard$Spinner" (19 : Nat) "TopYard$Spinner" "weight" "I") ∈ TT := mt (i := 72) (by decide +kernel) (by decide +kernel)
theorem wd_36 : (Jvm.Cond.fieldLink "TopYard$Spinner" (46 : Nat) "TopYard$Top" "rim" "I") ∈ TT := mt (i := 371) (by decide +kernel) (by decide +kernel)
theorem wd_37 : (Jvm.Cond.fieldLink "TopYard$Spinner" (49 : Nat) "TopYard$Spinner" "rim" "I") ∈ TT := mt (i := 74) (by decide +kernel) (by decide +kernel)
theorem wd_38 : (Jvm.Cond.fieldLink "TopYard$Spinner" (50 : Nat) "TopYard$Top" "sense" "I") ∈ TT := mt (i := 377) (by decide +kernel) (by decide +kernel)
theorem wd_39 : (Jvm.Cond.fieldLink "TopYard$Spinner" (53 : Nat) "TopYard$Spinner" "sense" "I") ∈ TT := mt (i := 76) (by decide +kernel) (by decide +kernel)
theorem wd_40 : (Jvm.Cond.fieldLink "TopYard$Spinner" (54 : Nat) "TopYard$Top" "peg" "I") ∈ TT := mt (i := 374) (by decide +kernel) (by decide +kernel)
theorem wd_41 : (Jvm.Cond.fieldLink "TopYard$Spinner" (57 : Nat) "TopYard$Top" "wear" "I") ∈ TT := mt (i := 383) (by decide +kernel) (by decide +kernel)
theorem wd_42 : (Jvm.Cond.fieldLink "TopYard$Spinner" (60 : Nat) "TopYard$Spinner" "drag" "I") ∈ TT := mt (i := 78) (by decide +kernel) (by decide +kernel)
theorem wd_43 : (Jvm.Cond.fieldLink "TopYard$Spinner" (63 : Nat) "TopYard$Spinner" "x" "J") ∈ TT := mt (i := 79) (by decide +kernel) (by decide +kernel)
theorem wd_44 : (Jvm.Cond.fieldLink "TopYard$Spinner" (67 : Nat) "TopYard$Spinner" "y" "J") ∈ TT := mt (i := 81) (by decide +kernel) (by decide +kernel)
theorem wd_45 : (Jvm.Cond.fieldLink "TopYard$Spinner" (70 : Nat) "TopYard$Spinner" "heading" "I") ∈ TT := mt (i := 87) (by decide +kernel) (by decide +kernel)
theorem wd_46 : (Jvm.Cond.fieldLink "TopYard$Spinner" (79 : Nat) "TopYard$Spinner" "p" "J") ∈ TT := mt (i := 83) (by decide +kernel) (by decide +kernel)
theorem wd_47 : (Jvm.Cond.fieldLink "TopYard$Spinner" (85 : Nat) "TopYard$Spinner" "q" "J") ∈ TT := mt (i := 85) (by decide +kernel) (by decide +kernel)
theorem wd_48 : (Jvm.Cond.fieldLink "TopYard$Spinner" (91 : Nat) "TopYard$Spinner" "spin" "I") ∈ TT := mt (i := 88) (by decide +kernel) (by decide +kernel)
theorem wd_49 : (Jvm.Cond.fieldLink "TopYard$Spinner" (94 : Nat) "TopYard$Spinner" "lean" "I") ∈ TT := mt (i := 90) (by decide +kernel) (by decide +kernel)
theorem wd_50 : (Jvm.Cond.fieldLink "TopYard$Bout" (34 : Nat) "TopYard$Bout" "knockCount" "I") ∈ TT := mt (i := 137) (by decide +kernel) (by decide +kernel)
theorem wd_51 : (Jvm.Cond.fieldLink "TopYard$Bout" (37 : Nat) "TopYard$Bout" "lockCount" "I") ∈ TT := mt (i := 139) (by decide +kernel) (by decide +kernel)
theorem wd_52 : (Jvm.Cond.fieldLink "TopYard$Bout" (64 : Nat) "TopYard$Top" "owner" "I") ∈ TT := mt (i := 381) (by decide +kernel) (by decide +kernel)
theorem wd_53 : (Jvm.Cond.fieldLink "TopYard$Bout" (107 : Nat) "TopYard$Spinner" "spin" "I") ∈ TT := mt (i := 89) (by decide +kernel) (by decide +kernel)
theorem wd_54 : (Jvm.Cond.constantLong "TopYard$Spinner" (97 : Nat) (65 : Int64)) ∈ TT := mt (i := 549) (by decide +kernel) (by decide +kernel)
theorem wd_55 : (Jvm.Cond.constantLong "TopYard$Spinner" (103 : Nat) (2 : Int64)) ∈ TT := mt (i := 553) (by decide +kernel) (by decide +kernel)
theorem wd_56 : (Jvm.Cond.constantLong "TopYard$Spinner" (116 : Nat) (16 : Int64)) ∈ TT := mt (i := 563) (by decide +kernel) (by decide +kernel)
theorem wd_57 : (Jvm.Cond.fieldLink "TopYard$Bout" (124 : Nat) "TopYard$Spinner" "p" "J") ∈ TT := mt (i := 84) (by decide +kernel) (by decide +kernel)
theorem wd_58 : (Jvm.Cond.fieldLink "TopYard$Bout" (130 : Nat) "TopYard$Spinner" "q" "J") ∈ TT := mt (i := 86) (by decide +kernel) (by decide +kernel)
theorem wd_59 : (Jvm.Cond.fieldLink "TopYard$Bout" (127 : Nat) "TopYard$Spinner" "weight" "I") ∈ TT := mt (i := 73) (by decide +kernel) (by decide +kernel)
theorem wd_60 : (Jvm.Cond.fieldLink "TopYard$Bout" (145 : Nat) "TopYard$Spinner" "sense" "I") ∈ TT := mt (i := 77) (by decide +kernel) (by decide +kernel)
theorem wd_61 : (Jvm.Cond.fieldLink "TopYard$Bout" (110 : Nat) "TopYard$Spinner" "x" "J") ∈ TT := mt (i := 80) (by decide +kernel) (by decide +kernel)
theorem wd_62 : (Jvm.Cond.fieldLink "TopYard$Bout" (114 : Nat) "TopYard$Spinner" "y" "J") ∈ TT := mt (i := 82) (by decide +kernel) (by decide +kernel)
theorem wd_63 : (Jvm.Cond.constantLong "TopYard$Bout" (117 : Nat) (65 : Int64)) ∈ TT := mt (i := 576) (by decide +kernel) (by decide +kernel)
theorem wd_64 : (Jvm.Cond.constantLong "TopYard$Bout" (119 : Nat) (13 : Int64)) ∈ TT := mt (i := 577) (by decide +kernel) (by decide +kernel)
theorem wd_65 : (Jvm.Cond.fieldLink "TopYard$Bout" (121 : Nat) "TopYard$Spinner" "rim" "I") ∈ TT := mt (i := 75) (by decide +kernel) (by decide +kernel)
theorem wd_66 : (Jvm.Cond.constantLong "TopYard$Bout" (136 : Nat) (2 : Int64)) ∈ TT := mt (i := 581) (by decide +kernel) (by decide +kernel)
theorem wd_67 : (Jvm.Cond.fieldLink "TopYard$Bout" (88 : Nat) "TopYard$Bowl" "radius" "I") ∈ TT := mt (i := 35) (by decide +kernel) (by decide +kernel)
theorem wd_68 : (Jvm.Cond.fieldLink "TopYard" (197 : Nat) "TopYard$Bout" "lockCount" "I") ∈ TT := mt (i := 140) (by decide +kernel) (by decide +kernel)
theorem wd_69 : (Jvm.Cond.fieldLink "TopYard" (194 : Nat) "TopYard$Bout" "knockCount" "I") ∈ TT := mt (i := 138) (by decide +kernel) (by decide +kernel)
theorem wd_70 : (Jvm.Cond.fieldLink "TopYard$Choice" (11 : Nat) "TopYard$Choice" "rowCount" "I") ∈ TT := mt (i := 166) (by decide +kernel) (by decide +kernel)
theorem wd_71 : (Jvm.Cond.fieldLink "TopYard$Choice" (15 : Nat) "TopYard$Choice" "columnCount" "I") ∈ TT := mt (i := 168) (by decide +kernel) (by decide +kernel)
theorem wd_72 : (Jvm.Cond.fieldLink "TopYard$Choice" (27 : Nat) "TopYard$Choice" "pay" "[[I") ∈ TT := mt (i := 174) (by decide +kernel) (by decide +kernel)
theorem wd_73 : (Jvm.Cond.fieldLink "TopYard" (43 : Nat) "TopYard" "choice" "LTopYard$Choice;") ∈ TT := mt (i := 302) (by decide +kernel) (by decide +kernel)
theorem wd_74 : (Jvm.Cond.fieldLink "TopYard" (207 : Nat) "TopYard$Choice" "rowCount" "I") ∈ TT := mt (i := 167) (by decide +kernel) (by decide +kernel)
theorem wd_75 : (Jvm.Cond.fieldLink "TopYard" (210 : Nat) "TopYard$Choice" "columnCount" "I") ∈ TT := mt (i := 169) (by decide +kernel) (by decide +kernel)
theorem wd_76 : (Jvm.Cond.fieldLink "TopYard$Choice" (18 : Nat) "TopYard$Choice" "rowTops" "[I") ∈ TT := mt (i := 170) (by decide +kernel) (by decide +kernel)
theorem wd_77 : (Jvm.Cond.fieldLink "TopYard$Choice" (22 : Nat) "TopYard$Choice" "columnTops" "[I") ∈ TT := mt (i := 172) (by decide +kernel) (by decide +kernel)
theorem wd_78 : (Jvm.Cond.fieldLink "TopYard" (225 : Nat) "TopYard$Choice" "pay" "[[I") ∈ TT := mt (i := 175) (by decide +kernel) (by decide +kernel)
theorem wd_79 : (Jvm.Cond.fieldLink "TopYard" (37 : Nat) "TopYard" "pair" "LTopYard$Bout;") ∈ TT := mt (i := 301) (by decide +kernel) (by decide +kernel)
theorem wd_80 : (Jvm.Cond.fieldLink "TopYard" (233 : Nat) "TopYard$Choice" "rowTops" "[I") ∈ TT := mt (i := 171) (by decide +kernel) (by decide +kernel)
theorem wd_81 : (Jvm.Cond.fieldLink "TopYard" (236 : Nat) "TopYard$Choice" "columnTops" "[I") ∈ TT := mt (i := 173) (by decide +kernel) (by decide +kernel)
theorem wd_82 : (Jvm.Cond.constant "java/lang/Integer" (265 : Nat) (1431655765 : Int32)) ∈ TT := mt (i := 682) (by decide +kernel) (by decide +kernel)
theorem wd_83 : (Jvm.Cond.constant "java/lang/Integer" (266 : Nat) (858993459 : Int32)) ∈ TT := mt (i := 683) (by decide +kernel) (by decide +kernel)
theorem wd_84 : (Jvm.Cond.constant "java/lang/Integer" (267 : Nat) (252645135 : Int32)) ∈ TT := mt (i := 684) (by decide +kernel) (by decide +kernel)
theorem wd_85 : (Jvm.Cond.constant "java/lang/Integer" (264 : Nat) (65536 : Int32)) ∈ TT := mt (i := 692) (by decide +kernel) (by decide +kernel)
theorem wd_86 : (Jvm.Cond.fieldLink "TopYard$Choice" (37 : Nat) "TopYard$Choice" "determinants" "[J") ∈ TT := mt (i := 180) (by decide +kernel) (by decide +kernel)
theorem wd_87 : (Jvm.Cond.fieldLink "TopYard$Choice" (40 : Nat) "TopYard$Choice" "total" "J") ∈ TT := mt (i := 181) (by decide +kernel) (by decide +kernel)
theorem wd_88 : (Jvm.Cond.fieldLink "TopYard$Choice" (44 : Nat) "TopYard$Choice" "determinant" "J") ∈ TT := mt (i := 182) (by decide +kernel) (by decide +kernel)
theorem wd_89 : (Jvm.Cond.fieldLink "TopYard$Choice" (30 : Nat) "TopYard$Choice" "rowShares" "[J") ∈ TT := mt (i := 176) (by decide +kernel) (by decide +kernel)
theorem wd_90 : (Jvm.Cond.fieldLink "TopYard$Choice" (34 : Nat) "TopYard$Choice" "columnShares" "[J") ∈ TT := mt (i := 178) (by decide +kernel) (by decide +kernel)
theorem wd_91 : (Jvm.Cond.constantLong "TopYard$Choice" (59 : Nat) (1000000 : Int64)) ∈ TT := mt (i := 734) (by decide +kernel) (by decide +kernel)
theorem wd_92 : (Jvm.Cond.constantLong "TopYard$Choice" (53 : Nat) (20 : Int64)) ∈ TT := mt (i := 729) (by decide +kernel) (by decide +kernel)
theorem wd_93 : (Jvm.Cond.fieldLink "TopYard" (253 : Nat) "TopYard$Choice" "columnShares" "[J") ∈ TT := mt (i := 179) (by decide +kernel) (by decide +kernel)
theorem wd_94 : (Jvm.Cond.fieldLink "TopYard" (249 : Nat) "TopYard$Choice" "rowShares" "[J") ∈ TT := mt (i := 177) (by decide +kernel) (by decide +kernel)
theorem wd_95 : (Jvm.Cond.fieldLink "TopYard$Past" (9 : Nat) "TopYard$Past" "size" "I") ∈ TT := mt (i := 211) (by decide +kernel) (by decide +kernel)
theorem wd_96 : (Jvm.Cond.fieldLink "TopYard$Past" (15 : Nat) "TopYard$Past" "firsts" "[I") ∈ TT := mt (i := 213) (by decide +kernel) (by decide +kernel)
theorem wd_97 : (Jvm.Cond.fieldLink "TopYard$Past" (19 : Nat) "TopYard$Past" "seconds" "[I") ∈ TT := mt (i := 215) (by decide +kernel) (by decide +kernel)
theorem wd_98 : (Jvm.Cond.fieldLink "TopYard$Past" (22 : Nat) "TopYard$Past" "outcomes" "[I") ∈ TT := mt (i := 217) (by decide +kernel) (by decide +kernel)
theorem wd_99 : (Jvm.Cond.fieldLink "TopYard" (50 : Nat) "TopYard" "past" "LTopYard$Past;") ∈ TT := mt (i := 303) (by decide +kernel) (by decide +kernel)
theorem wd_100 : (Jvm.Cond.fieldLink "TopYard" (266 : Nat) "TopYard$Past" "size" "I") ∈ TT := mt (i := 212) (by decide +kernel) (by decide +kernel)
theorem wd_101 : (Jvm.Cond.fieldLink "TopYard" (76 : Nat) "TopYard" "sheets" "[LTopYard$Sheet;") ∈ TT := mt (i := 308) (by decide +kernel) (by decide +kernel)
theorem wd_102 : (Jvm.Cond.fieldLink "TopYard" (80 : Nat) "TopYard" "latestFinding" "I") ∈ TT := mt (i := 309) (by decide +kernel) (by decide +kernel)
theorem wd_103 : (Jvm.Cond.fieldLink "TopYard$Sheet" (19 : Nat) "TopYard$Sheet" "length" "I") ∈ TT := mt (i := 283) (by decide +kernel) (by decide +kernel)
theorem wd_104 : (Jvm.Cond.fieldLink "TopYard$Sheet" (22 : Nat) "TopYard$Sheet" "items" "[I") ∈ TT := mt (i := 285) (by decide +kernel) (by decide +kernel)
theorem wd_105 : (Jvm.Cond.fieldLink "TopYard" (271 : Nat) "TopYard$Sheet" "lost" "Z") ∈ TT := mt (i := 280) (by decide +kernel) (by decide +kernel)
theorem wd_106 : (Jvm.Cond.fieldLink "TopYard" (278 : Nat) "TopYard$Sheet" "length" "I") ∈ TT := mt (i := 284) (by decide +kernel) (by decide +kernel)
theorem wd_107 : (Jvm.Cond.fieldLink "TopYard" (406 : Nat) "TopYard$Past" "expectations" "[I") ∈ TT := mt (i := 219) (by decide +kernel) (by decide +kernel)
theorem wd_108 : (Jvm.Cond.fieldLink "TopYard" (409 : Nat) "TopYard$Past" "firsts" "[I") ∈ TT := mt (i := 214) (by decide +kernel) (by decide +kernel)
theorem wd_109 : (Jvm.Cond.fieldLink "TopYard" (412 : Nat) "TopYard$Past" "seconds" "[I") ∈ TT := mt (i := 216) (by decide +kernel) (by decide +kernel)
theorem wd_110 : (Jvm.Cond.fieldLink "TopYard$Past" (25 : Nat) "TopYard$Past" "expectations" "[I") ∈ TT := mt (i := 218) (by decide +kernel) (by decide +kernel)
theorem wd_111 : (Jvm.Cond.constantLong "TopYard$Past" (43 : Nat) (1000000 : Int64)) ∈ TT := mt (i := 812) (by decide +kernel) (by decide +kernel)
theorem wd_112 : (Jvm.Cond.constant "TopYard" (297 : Nat) (1000001 : Int32)) ∈ TT := mt (i := 817) (by decide +kernel) (by decide +kernel)
theorem wd_113 : (Jvm.Cond.fieldLink "TopYard$Game" (9 : Nat) "TopYard$Game" "length" "I") ∈ TT := mt (i := 237) (by decide +kernel) (by decide +kernel)
theorem wd_114 : (Jvm.Cond.fieldLink "TopYard$Game" (15 : Nat) "TopYard$Game" "bytes" "[I") ∈ TT := mt (i := 239) (by decide +kernel) (by decide +kernel)
theorem wd_115 : (Jvm.Cond.fieldLink "TopYard" (57 : Nat) "TopYard" "game" "LTopYard$Game;") ∈ TT := mt (i := 304) (by decide +kernel) (by decide +kernel)
theorem wd_116 : (Jvm.Cond.fieldLink "TopYard" (304 : Nat) "TopYard$Game" "length" "I") ∈ TT := mt (i := 238) (by decide +kernel) (by decide +kernel)
theorem wd_117 : (Jvm.Cond.fieldLink "TopYard$Game" (51 : Nat) "TopYard$Game" "LETTERS" "[C") ∈ TT := mt (i := 859) (by decide +kernel) (by decide +kernel)
theorem wd_118 : (Jvm.Cond.fieldLink "TopYard$Game" (22 : Nat) "TopYard$Game" "USUAL_NUMBERS" "[I") ∈ TT := mt (i := 846) (by decide +kernel) (by decide +kernel)
theorem wd_119 : (Jvm.Cond.fieldLink "TopYard$Game" (19 : Nat) "TopYard$Game" "numbers" "[I") ∈ TT := mt (i := 240) (by decide +kernel) (by decide +kernel)
theorem wd_120 : (Jvm.Cond.methodLink "TopYard$Game" (25 : Nat) ({ cls := "java/lang/System", name := "arraycopy", desc := "(Ljava/lang/Object;ILjava/lang/Object;II)V" } : Jvm.MethodName)) ∈ TT := mt (i := 848) (by decide +kernel) (by decide +kernel)
theorem wd_121 : (Jvm.Cond.fieldLink "TopYard$Game" (42 : Nat) "TopYard$Game" "LEAST_NUMBERS" "[I") ∈ TT := mt (i := 872) (by decide +kernel) (by decide +kernel)
theorem wd_122 : (Jvm.Cond.fieldLink "TopYard$Game" (45 : Nat) "TopYard$Game" "MOST_NUMBERS" "[I") ∈ TT := mt (i := 874) (by decide +kernel) (by decide +kernel)
theorem wd_123 : (Jvm.Cond.fieldLink "TopYard" (61 : Nat) "TopYard" "lastGame" "[I") ∈ TT := mt (i := 305) (by decide +kernel) (by decide +kernel)
theorem wd_124 : (Jvm.Cond.fieldLink "TopYard" (64 : Nat) "TopYard" "meetings" "[I") ∈ TT := mt (i := 306) (by decide +kernel) (by decide +kernel)
theorem wd_125 : (Jvm.Cond.constantLong "TopYard" (452 : Nat) (-1 : Int64)) ∈ TT := mt (i := 949) (by decide +kernel) (by decide +kernel)
theorem wd_126 : (Jvm.Cond.fieldLink "TopYard$Pack" (18 : Nat) "TopYard$Pack" "limit" "I") ∈ TT := mt (i := 258) (by decide +kernel) (by decide +kernel)
theorem wd_127 : (Jvm.Cond.fieldLink "TopYard$Pack" (22 : Nat) "TopYard$Pack" "offers" "I") ∈ TT := mt (i := 259) (by decide +kernel) (by decide +kernel)
theorem wd_128 : (Jvm.Cond.fieldLink "TopYard$Pack" (11 : Nat) "TopYard$Pack" "worths" "[I") ∈ TT := mt (i := 254) (by decide +kernel) (by decide +kernel)
theorem wd_129 : (Jvm.Cond.constant "TopYard$Pack" (34 : Nat) (-2147483648 : Int32)) ∈ TT := mt (i := 963) (by decide +kernel) (by decide +kernel)
theorem wd_130 : (Jvm.Cond.fieldLink "TopYard$Pack" (15 : Nat) "TopYard$Pack" "bits" "[I") ∈ TT := mt (i := 256) (by decide +kernel) (by decide +kernel)
theorem wd_131 : (Jvm.Cond.fieldLink "TopYard$Top" (16 : Nat) "TopYard$Top" "rim" "I") ∈ TT := mt (i := 370) (by decide +kernel) (by decide +kernel)
theorem wd_132 : (Jvm.Cond.fieldLink "TopYard$Top" (19 : Nat) "TopYard$Top" "peg" "I") ∈ TT := mt (i := 373) (by decide +kernel) (by decide +kernel)
theorem wd_133 : (Jvm.Cond.fieldLink "TopYard$Top" (7 : Nat) "TopYard$Top" "wear" "I") ∈ TT := mt (i := 382) (by decide +kernel) (by decide +kernel)
theorem wd_134 : (Jvm.Cond.fieldLink "TopYard" (70 : Nat) "TopYard" "pack" "LTopYard$Pack;") ∈ TT := mt (i := 307) (by decide +kernel) (by decide +kernel)
theorem wd_135 : (Jvm.Cond.fieldLink "TopYard" (337 : Nat) "TopYard$Pack" "bits" "[I") ∈ TT := mt (i := 257) (by decide +kernel) (by decide +kernel)
theorem wd_136 : (Jvm.Cond.fieldLink "TopYard" (340 : Nat) "TopYard$Pack" "worths" "[I") ∈ TT := mt (i := 255) (by decide +kernel) (by decide +kernel)
theorem wd_137 : (Jvm.Cond.fieldLink "TopYard$Sheet" (9 : Nat) "TopYard$Sheet" "lost" "Z") ∈ TT := mt (i := 279) (by decide +kernel) (by decide +kernel)
theorem wd_138 : (Jvm.Cond.fieldLink "TopYard$Sheet" (15 : Nat) "TopYard$Sheet" "form" "I") ∈ TT := mt (i := 281) (by decide +kernel) (by decide +kernel)
theorem wd_139 : (Jvm.Cond.fieldLink "TopYard" (354 : Nat) "TopYard$Sheet" "form" "I") ∈ TT := mt (i := 282) (by decide +kernel) (by decide +kernel)
theorem wd_140 : (Jvm.Cond.fieldLink "TopYard" (360 : Nat) "TopYard$Sheet" "items" "[I") ∈ TT := mt (i := 286) (by decide +kernel) (by decide +kernel)
theorem wd_141 : (Jvm.Cond.methodLink "TopYard" (363 : Nat) ({ cls := "java/lang/System", name := "arraycopy", desc := "(Ljava/lang/Object;ILjava/lang/Object;II)V" } : Jvm.MethodName)) ∈ TT := mt (i := 1023) (by decide +kernel) (by decide +kernel)
theorem wd_142 : (Jvm.Cond.constantLong "TopYard" (374 : Nat) (17 : Int64)) ∈ TT := mt (i := 1037) (by decide +kernel) (by decide +kernel)
theorem wd_143 : (Jvm.Cond.constantLong "TopYard" (376 : Nat) (31 : Int64)) ∈ TT := mt (i := 1038) (by decide +kernel) (by decide +kernel)
theorem wd_144 : (Jvm.Cond.fieldLink "TopYardModel" (7 : Nat) "TopYardModel" "cs" "[I") ∈ TT := mt (i := 1050) (by decide +kernel) (by decide +kernel)
theorem wd_145 : (Jvm.Cond.constantLong "TopYardModel" (162 : Nat) (35 : Int64)) ∈ TT := mt (i := 1256) (by decide +kernel) (by decide +kernel)
theorem wd_146 : (Jvm.Cond.fieldLink "TopYardModel" (175 : Nat) "TopYardModel" "tops" "I") ∈ TT := mt (i := 1051) (by decide +kernel) (by decide +kernel)
theorem wd_147 : (Jvm.Cond.constantLong "TopYardModel" (178 : Nat) (7 : Int64)) ∈ TT := mt (i := 1278) (by decide +kernel) (by decide +kernel)
theorem wd_148 : (Jvm.Cond.constantLong "TopYardModel" (180 : Nat) (50 : Int64)) ∈ TT := mt (i := 1272) (by decide +kernel) (by decide +kernel)
theorem wd_149 : (Jvm.Cond.constantLong "TopYardModel" (182 : Nat) (12 : Int64)) ∈ TT := mt (i := 1273) (by decide +kernel) (by decide +kernel)
theorem wd_150 : (Jvm.Cond.constantLong "TopYardModel" (184 : Nat) (9 : Int64)) ∈ TT := mt (i := 1274) (by decide +kernel) (by decide +kernel)
theorem wd_151 : (Jvm.Cond.fieldLink "TopYardModel" (13 : Nat) "TopYardModel" "weights" "[I") ∈ TT := mt (i := 1052) (by decide +kernel) (by decide +kernel)
theorem wd_152 : (Jvm.Cond.fieldLink "TopYardModel" (16 : Nat) "TopYardModel" "rims" "[I") ∈ TT := mt (i := 1053) (by decide +kernel) (by decide +kernel)
theorem wd_153 : (Jvm.Cond.fieldLink "TopYardModel" (19 : Nat) "TopYardModel" "pegs" "[I") ∈ TT := mt (i := 1054) (by decide +kernel) (by decide +kernel)
theorem wd_154 : (Jvm.Cond.fieldLink "TopYardModel" (22 : Nat) "TopYardModel" "senses" "[I") ∈ TT := mt (i := 1055) (by decide +kernel) (by decide +kernel)
theorem wd_155 : (Jvm.Cond.fieldLink "TopYardModel" (25 : Nat) "TopYardModel" "owners" "[I") ∈ TT := mt (i := 1056) (by decide +kernel) (by decide +kernel)
theorem wd_156 : (Jvm.Cond.fieldLink "TopYardModel" (28 : Nat) "TopYardModel" "wears" "[I") ∈ TT := mt (i := 1057) (by decide +kernel) (by decide +kernel)
theorem wd_157 : (Jvm.Cond.constantLong "TopYardModel" (193 : Nat) (5 : Int64)) ∈ TT := mt (i := 1299) (by decide +kernel) (by decide +kernel)
theorem wd_158 : (Jvm.Cond.constantLong "TopYardModel" (195 : Nat) (30 : Int64)) ∈ TT := mt (i := 1300) (by decide +kernel) (by decide +kernel)
theorem wd_159 : (Jvm.Cond.fieldLink "TopYardModel" (34 : Nat) "TopYardModel" "radius" "I") ∈ TT := mt (i := 1059) (by decide +kernel) (by decide +kernel)
theorem wd_160 : (Jvm.Cond.fieldLink "TopYardModel" (38 : Nat) "TopYardModel" "ring" "I") ∈ TT := mt (i := 1060) (by decide +kernel) (by decide +kernel)
theorem wd_161 : (Jvm.Cond.constantLong "TopYardModel" (197 : Nat) (-31 : Int64)) ∈ TT := mt (i := 1305) (by decide +kernel) (by decide +kernel)
theorem wd_162 : (Jvm.Cond.constantLong "TopYardModel" (199 : Nat) (31 : Int64)) ∈ TT := mt (i := 1306) (by decide +kernel) (by decide +kernel)
theorem wd_163 : (Jvm.Cond.constantLong "TopYardModel" (201 : Nat) (-20 : Int64)) ∈ TT := mt (i := 1307) (by decide +kernel) (by decide +kernel)
theorem wd_164 : (Jvm.Cond.constantLong "TopYardModel" (203 : Nat) (20 : Int64)) ∈ TT := mt (i := 1308) (by decide +kernel) (by decide +kernel)
theorem wd_165 : (Jvm.Cond.fieldLink "TopYardModel" (205 : Nat) "TopYardModel" "dents" "I") ∈ TT := mt (i := 1061) (by decide +kernel) (by decide +kernel)
theorem wd_166 : (Jvm.Cond.fieldLink "TopYardModel" (41 : Nat) "TopYardModel" "dentX" "[I") ∈ TT := mt (i := 1062) (by decide +kernel) (by decide +kernel)
theorem wd_167 : (Jvm.Cond.fieldLink "TopYardModel" (44 : Nat) "TopYardModel" "dentY" "[I") ∈ TT := mt (i := 1063) (by decide +kernel) (by decide +kernel)
theorem wd_168 : (Jvm.Cond.fieldLink "TopYardModel" (47 : Nat) "TopYardModel" "dentHigh" "[I") ∈ TT := mt (i := 1064) (by decide +kernel) (by decide +kernel)
theorem wd_169 : (Jvm.Cond.constantLong "TopYardModel" (212 : Nat) (-32 : Int64)) ∈ TT := mt (i := 1317) (by decide +kernel) (by decide +kernel)
theorem wd_170 : (Jvm.Cond.constantLong "TopYardModel" (214 : Nat) (32 : Int64)) ∈ TT := mt (i := 1318) (by decide +kernel) (by decide +kernel)
theorem wd_171 : (Jvm.Cond.constant "TopYardModel" (218 : Nat) (-2147483648 : Int32)) ∈ TT := mt (i := 1320) (by decide +kernel) (by decide +kernel)
theorem wd_172 : (Jvm.Cond.constantLong "TopYardModel" (216 : Nat) (2 : Int64)) ∈ TT := mt (i := 1319) (by decide +kernel) (by decide +kernel)
theorem wd_173 : (Jvm.Cond.constantLong "TopYardModel" (225 : Nat) (200 : Int64)) ∈ TT := mt (i := 1337) (by decide +kernel) (by decide +kernel)
theorem wd_174 : (Jvm.Cond.fieldLink "TopYardModel" (31 : Nat) "TopYardModel" "strengths" "[I") ∈ TT := mt (i := 1058) (by decide +kernel) (by decide +kernel)
theorem wd_175 : (Jvm.Cond.constantLong "TopYardModel" (227 : Nat) (-30 : Int64)) ∈ TT := mt (i := 1342) (by decide +kernel) (by decide +kernel)
theorem wd_176 : (Jvm.Cond.constantLong "TopYardModel" (229 : Nat) (60 : Int64)) ∈ TT := mt (i := 1343) (by decide +kernel) (by decide +kernel)
theorem wd_177 : (Jvm.Cond.fieldLink "TopYardModel" (231 : Nat) "TopYardModel" "puts" "I") ∈ TT := mt (i := 1065) (by decide +kernel) (by decide +kernel)
theorem wd_178 : (Jvm.Cond.fieldLink "TopYardModel" (50 : Nat) "TopYardModel" "putTop" "[I") ∈ TT := mt (i := 1066) (by decide +kernel) (by decide +kernel)
theorem wd_179 : (Jvm.Cond.fieldLink "TopYardModel" (53 : Nat) "TopYardModel" "putX" "[I") ∈ TT := mt (i := 1067) (by decide +kernel) (by decide +kernel)
theorem wd_180 : (Jvm.Cond.fieldLink "TopYardModel" (56 : Nat) "TopYardModel" "putY" "[I") ∈ TT := mt (i := 1068) (by decide +kernel) (by decide +kernel)
theorem wd_181 : (Jvm.Cond.fieldLink "TopYardModel" (59 : Nat) "TopYardModel" "putHeading" "[I") ∈ TT := mt (i := 1069) (by decide +kernel) (by decide +kernel)
theorem wd_182 : (Jvm.Cond.fieldLink "TopYardModel" (62 : Nat) "TopYardModel" "putTurns" "[I") ∈ TT := mt (i := 1070) (by decide +kernel) (by decide +kernel)
theorem wd_183 : (Jvm.Cond.fieldLink "TopYardModel" (234 : Nat) "TopYardModel" "whips" "I") ∈ TT := mt (i := 1071) (by decide +kernel) (by decide +kernel)
theorem wd_184 : (Jvm.Cond.constantLong "TopYardModel" (237 : Nat) (3 : Int64)) ∈ TT := mt (i := 1352) (by decide +kernel) (by decide +kernel)
theorem wd_185 : (Jvm.Cond.constantLong "TopYardModel" (239 : Nat) (400 : Int64)) ∈ TT := mt (i := 1353) (by decide +kernel) (by decide +kernel)
theorem wd_186 : (Jvm.Cond.constantLong "TopYardModel" (241 : Nat) (100 : Int64)) ∈ TT := mt (i := 1354) (by decide +kernel) (by decide +kernel)
theorem wd_187 : (Jvm.Cond.fieldLink "TopYardModel" (65 : Nat) "TopYardModel" "whipPlace" "[I") ∈ TT := mt (i := 1072) (by decide +kernel) (by decide +kernel)
theorem wd_188 : (Jvm.Cond.fieldLink "TopYardModel" (68 : Nat) "TopYardModel" "whipTick" "[I") ∈ TT := mt (i := 1073) (by decide +kernel) (by decide +kernel)
theorem wd_189 : (Jvm.Cond.fieldLink "TopYardModel" (71 : Nat) "TopYardModel" "whipSpin" "[I") ∈ TT := mt (i := 1074) (by decide +kernel) (by decide +kernel)
theorem wd_190 : (Jvm.Cond.fieldLink "TopYardModel" (74 : Nat) "TopYardModel" "who" "[I") ∈ TT := mt (i := 1076) (by decide +kernel) (by decide +kernel)
theorem wd_191 : (Jvm.Cond.fieldLink "TopYardModel" (77 : Nat) "TopYardModel" "xs" "[J") ∈ TT := mt (i := 1077) (by decide +kernel) (by decide +kernel)
theorem wd_192 : (Jvm.Cond.constantLong "TopYardModel" (243 : Nat) (65 : Int64)) ∈ TT := mt (i := 1367) (by decide +kernel) (by decide +kernel)
theorem wd_193 : (Jvm.Cond.fieldLink "TopYardModel" (81 : Nat) "TopYardModel" "ys" "[J") ∈ TT := mt (i := 1078) (by decide +kernel) (by decide +kernel)
theorem wd_194 : (Jvm.Cond.fieldLink "TopYardModel" (84 : Nat) "TopYardModel" "headings" "[I") ∈ TT := mt (i := 1079) (by decide +kernel) (by decide +kernel)
theorem wd_195 : (Jvm.Cond.fieldLink "TopYardModel" (87 : Nat) "TopYardModel" "ps" "[J") ∈ TT := mt (i := 1080) (by decide +kernel) (by decide +kernel)
theorem wd_196 : (Jvm.Cond.fieldLink "TopYardModel" (90 : Nat) "TopYardModel" "qs" "[J") ∈ TT := mt (i := 1081) (by decide +kernel) (by decide +kernel)
theorem wd_197 : (Jvm.Cond.fieldLink "TopYardModel" (93 : Nat) "TopYardModel" "spins" "[I") ∈ TT := mt (i := 1082) (by decide +kernel) (by decide +kernel)
theorem wd_198 : (Jvm.Cond.fieldLink "TopYardModel" (96 : Nat) "TopYardModel" "leans" "[I") ∈ TT := mt (i := 1083) (by decide +kernel) (by decide +kernel)
theorem wd_199 : (Jvm.Cond.fieldLink "TopYardModel" (99 : Nat) "TopYardModel" "hows" "[I") ∈ TT := mt (i := 1084) (by decide +kernel) (by decide +kernel)
theorem wd_200 : (Jvm.Cond.fieldLink "TopYardModel" (245 : Nat) "TopYardModel" "places" "I") ∈ TT := mt (i := 1075) (by decide +kernel) (by decide +kernel)
theorem wd_201 : (Jvm.Cond.constantLong "TopYardModel" (248 : Nat) (64 : Int64)) ∈ TT := mt (i := 1387) (by decide +kernel) (by decide +kernel)
theorem wd_202 : (Jvm.Cond.constantLong "TopYardModel" (254 : Nat) (16 : Int64)) ∈ TT := mt (i := 1388) (by decide +kernel) (by decide +kernel)
theorem wd_203 : (Jvm.Cond.constantLong "TopYardModel" (256 : Nat) (4225 : Int64)) ∈ TT := mt (i := 1389) (by decide +kernel) (by decide +kernel)
theorem wd_204 : (Jvm.Cond.constantLong "TopYardModel" (258 : Nat) (13 : Int64)) ∈ TT := mt (i := 1394) (by decide +kernel) (by decide +kernel)
theorem wd_205 : (Jvm.Cond.fieldLink "TopYardModel" (260 : Nat) "TopYardModel" "knockMany" "I") ∈ TT := mt (i := 1085) (by decide +kernel) (by decide +kernel)
theorem wd_206 : (Jvm.Cond.fieldLink "TopYardModel" (263 : Nat) "TopYardModel" "lockMany" "I") ∈ TT := mt (i := 1086) (by decide +kernel) (by decide +kernel)
theorem wd_207 : (Jvm.Cond.fieldLink "TopYardModel" (305 : Nat) "TopYardModel" "rowMany" "I") ∈ TT := mt (i := 1087) (by decide +kernel) (by decide +kernel)
theorem wd_208 : (Jvm.Cond.fieldLink "TopYardModel" (308 : Nat) "TopYardModel" "columnMany" "I") ∈ TT := mt (i := 1088) (by decide +kernel) (by decide +kernel)
theorem wd_209 : (Jvm.Cond.fieldLink "TopYardModel" (105 : Nat) "TopYardModel" "columnTop" "[I") ∈ TT := mt (i := 1090) (by decide +kernel) (by decide +kernel)
theorem wd_210 : (Jvm.Cond.fieldLink "TopYardModel" (102 : Nat) "TopYardModel" "rowTop" "[I") ∈ TT := mt (i := 1089) (by decide +kernel) (by decide +kernel)
theorem wd_211 : (Jvm.Cond.fieldLink "TopYardModel" (108 : Nat) "TopYardModel" "pays" "[I") ∈ TT := mt (i := 1091) (by decide +kernel) (by decide +kernel)
theorem wd_212 : (Jvm.Cond.constantLong "TopYardModel" (315 : Nat) (-9 : Int64)) ∈ TT := mt (i := 1443) (by decide +kernel) (by decide +kernel)
theorem wd_213 : (Jvm.Cond.fieldLink "TopYardModel" (111 : Nat) "TopYardModel" "part" "[J") ∈ TT := mt (i := 1092) (by decide +kernel) (by decide +kernel)
theorem wd_214 : (Jvm.Cond.fieldLink "TopYardModel" (328 : Nat) "TopYardModel" "total" "J") ∈ TT := mt (i := 1096) (by decide +kernel) (by decide +kernel)
theorem wd_215 : (Jvm.Cond.fieldLink "TopYardModel" (332 : Nat) "TopYardModel" "determinant" "J") ∈ TT := mt (i := 1097) (by decide +kernel) (by decide +kernel)
theorem wd_216 : (Jvm.Cond.fieldLink "TopYardModel" (114 : Nat) "TopYardModel" "adjoint" "[J") ∈ TT := mt (i := 1093) (by decide +kernel) (by decide +kernel)
theorem wd_217 : (Jvm.Cond.fieldLink "TopYardModel" (117 : Nat) "TopYardModel" "rowShare" "[J") ∈ TT := mt (i := 1094) (by decide +kernel) (by decide +kernel)
theorem wd_218 : (Jvm.Cond.fieldLink "TopYardModel" (120 : Nat) "TopYardModel" "columnShare" "[J") ∈ TT := mt (i := 1095) (by decide +kernel) (by decide +kernel)
theorem wd_219 : (Jvm.Cond.constantLong "TopYardModel" (352 : Nat) (1000000 : Int64)) ∈ TT := mt (i := 1486) (by decide +kernel) (by decide +kernel)
theorem wd_220 : (Jvm.Cond.constantLong "TopYardModel" (354 : Nat) (-1 : Int64)) ∈ TT := mt (i := 1495) (by decide +kernel) (by decide +kernel)
theorem wd_221 : (Jvm.Cond.fieldLink "TopYardModel" (356 : Nat) "TopYardModel" "wasMany" "I") ∈ TT := mt (i := 1098) (by decide +kernel) (by decide +kernel)
theorem wd_222 : (Jvm.Cond.fieldLink "TopYardModel" (123 : Nat) "TopYardModel" "wasA" "[I") ∈ TT := mt (i := 1099) (by decide +kernel) (by decide +kernel)
theorem wd_223 : (Jvm.Cond.fieldLink "TopYardModel" (126 : Nat) "TopYardModel" "wasB" "[I") ∈ TT := mt (i := 1100) (by decide +kernel) (by decide +kernel)
theorem wd_224 : (Jvm.Cond.fieldLink "TopYardModel" (129 : Nat) "TopYardModel" "came" "[I") ∈ TT := mt (i := 1101) (by decide +kernel) (by decide +kernel)
theorem wd_225 : (Jvm.Cond.fieldLink "TopYardModel" (426 : Nat) "TopYardModel" "latest" "I") ∈ TT := mt (i := 1116) (by decide +kernel) (by decide +kernel)
theorem wd_226 : (Jvm.Cond.fieldLink "TopYardModel" (150 : Nat) "TopYardModel" "forms" "[I") ∈ TT := mt (i := 1112) (by decide +kernel) (by decide +kernel)
theorem wd_227 : (Jvm.Cond.fieldLink "TopYardModel" (153 : Nat) "TopYardModel" "sizes" "[I") ∈ TT := mt (i := 1113) (by decide +kernel) (by decide +kernel)
theorem wd_228 : (Jvm.Cond.fieldLink "TopYardModel" (156 : Nat) "TopYardModel" "items" "[I") ∈ TT := mt (i := 1114) (by decide +kernel) (by decide +kernel)
theorem wd_229 : (Jvm.Cond.fieldLink "TopYardModel" (369 : Nat) "TopYardModel" "surprises" "I") ∈ TT := mt (i := 1102) (by decide +kernel) (by decide +kernel)
theorem wd_230 : (Jvm.Cond.fieldLink "TopYardModel" (372 : Nat) "TopYardModel" "chances" "I") ∈ TT := mt (i := 1103) (by decide +kernel) (by decide +kernel)
theorem wd_231 : (Jvm.Cond.constantLong "TopYardModel" (385 : Nat) (255 : Int64)) ∈ TT := mt (i := 1540) (by decide +kernel) (by decide +kernel)
theorem wd_232 : (Jvm.Cond.fieldLink "TopYardModel" (387 : Nat) "TopYardModel" "typed" "I") ∈ TT := mt (i := 1105) (by decide +kernel) (by decide +kernel)
theorem wd_233 : (Jvm.Cond.fieldLink "TopYardModel" (132 : Nat) "TopYardModel" "text" "[I") ∈ TT := mt (i := 1104) (by decide +kernel) (by decide +kernel)
theorem wd_234 : (Jvm.Cond.constantLong "TopYardModel" (390 : Nat) (48 : Int64)) ∈ TT := mt (i := 1560) (by decide +kernel) (by decide +kernel)
theorem wd_235 : (Jvm.Cond.constantLong "TopYardModel" (392 : Nat) (57 : Int64)) ∈ TT := mt (i := 1561) (by decide +kernel) (by decide +kernel)
theorem wd_236 : (Jvm.Cond.fieldLink "TopYardModel" (135 : Nat) "TopYardModel" "rules" "[I") ∈ TT := mt (i := 1107) (by decide +kernel) (by decide +kernel)
theorem wd_237 : (Jvm.Cond.fieldLink "TopYardModel" (394 : Nat) "TopYardModel" "fault" "I") ∈ TT := mt (i := 1106) (by decide +kernel) (by decide +kernel)
theorem wd_238 : (Jvm.Cond.fieldLink "TopYardModel" (138 : Nat) "TopYardModel" "playedOf" "[I") ∈ TT := mt (i := 1108) (by decide +kernel) (by decide +kernel)
theorem wd_239 : (Jvm.Cond.fieldLink "TopYardModel" (141 : Nat) "TopYardModel" "mets" "[I") ∈ TT := mt (i := 1109) (by decide +kernel) (by decide +kernel)
theorem wd_240 : (Jvm.Cond.fieldLink "TopYardModel" (144 : Nat) "TopYardModel" "leastOf" "[I") ∈ TT := mt (i := 1110) (by decide +kernel) (by decide +kernel)
theorem wd_241 : (Jvm.Cond.constantLong "TopYardModel" (424 : Nat) (500 : Int64)) ∈ TT := mt (i := 1604) (by decide +kernel) (by decide +kernel)
theorem wd_242 : (Jvm.Cond.fieldLink "TopYardModel" (147 : Nat) "TopYardModel" "bagTop" "[I") ∈ TT := mt (i := 1111) (by decide +kernel) (by decide +kernel)
theorem wd_243 : (Jvm.Cond.fieldLink "TopYardModel" (159 : Nat) "TopYardModel" "moved" "[I") ∈ TT := mt (i := 1115) (by decide +kernel) (by decide +kernel)
theorem wd_244 : (Jvm.Cond.constantLong "TopYardModel" (435 : Nat) (17 : Int64)) ∈ TT := mt (i := 1644) (by decide +kernel) (by decide +kernel)
theorem wd_245 : (Jvm.Cond.methodLink "TopYard$Bout" (100 : Nat) ({ cls := "TopYard$Spinner", name := "fall", desc := "(I)V" } : Jvm.MethodName)) ∈ TT := mt (i := 589) (by decide +kernel) (by decide +kernel)
theorem wd_246 : (Jvm.Cond.instanceMethod ({ cls := "TopYard$Spinner", name := "fall", desc := "(I)V" } : Jvm.MethodName)) ∈ TT := mt (i := 590) (by decide +kernel) (by decide +kernel)
theorem wd_247 : (Jvm.Cond.selects "TopYard$Spinner" ({ cls := "TopYard$Spinner", name := "fall", desc := "(I)V" } : Jvm.MethodName) ({ cls := "TopYard$Spinner", name := "fall", desc := "(I)V" } : Jvm.MethodName)) ∈ TT := mt (i := 591) (by decide +kernel) (by decide +kernel)
theorem wd_248 : (Jvm.Cond.initialized "TopYard$Spinner") ∈ TT := mt (i := 4) (by decide +kernel) (by decide +kernel)
theorem wd_249 : (Jvm.Cond.code ({ cls := "TopYard$Spinner", name := "fall", desc := "(I)V" } : Jvm.MethodName) prog_10_method_11_code (2 : Nat) (Option.none : Option Jvm.ClassFile.FieldType)) ∈ TT := mt (i := 592) (by decide +kernel) (by decide +kernel)
theorem wd_250 : (Jvm.Cond.methodLink "TopYard$Bout" (103 : Nat) ({ cls := "TopYard$Bout", name := "at", desc := "(I)LTopYard$Spinner;" } : Jvm.MethodName)) ∈ TT := mt (i := 529) (by decide +kernel) (by decide +kernel)
theorem wd_251 : (Jvm.Cond.instanceMethod ({ cls := "TopYard$Bout", name := "at", desc := "(I)LTopYard$Spinner;" } : Jvm.MethodName)) ∈ TT := mt (i := 530) (by decide +kernel) (by decide +kernel)
theorem wd_252 : (Jvm.Cond.selects "TopYard$Bout" ({ cls := "TopYard$Bout", name := "at", desc := "(I)LTopYard$Spinner;" } : Jvm.MethodName) ({ cls := "TopYard$Bout", name := "at", desc := "(I)LTopYard$Spinner;" } : Jvm.MethodName)) ∈ TT := mt (i := 531) (by decide +kernel) (by decide +kernel)
theorem wd_253 : (Jvm.Cond.initialized "TopYard$Bout") ∈ TT := mt (i := 3) (by decide +kernel) (by decide +kernel)
theorem wd_254 : (Jvm.Cond.code ({ cls := "TopYard$Bout", name := "at", desc := "(I)LTopYard$Spinner;" } : Jvm.MethodName) prog_2_method_3_code (2 : Nat) (Option.some (Jvm.ClassFile.FieldType.object "TopYard$Spinner"))) ∈ TT := mt (i := 532) (by decide +kernel) (by decide +kernel)
theorem wd_255 : (Jvm.Cond.methodLink "TopYard$Bout" (133 : Nat) ({ cls := "TopYard$Bout", name := "lock", desc := "(LTopYard$Spinner;LTopYard$Spinner;)V" } : Jvm.MethodName)) ∈ TT := mt (i := 578) (by decide +kernel) (by decide +kernel)
theorem wd_256 : (Jvm.Cond.static ({ cls := "TopYard$Bout", name := "lock", desc := "(LTopYard$Spinner;LTopYard$Spinner;)V" } : Jvm.MethodName)) ∈ TT := mt (i := 579) (by decide +kernel) (by decide +kernel)
theorem wd_257 : (Jvm.Cond.code ({ cls := "TopYard$Bout", name := "lock", desc := "(LTopYard$Spinner;LTopYard$Spinner;)V" } : Jvm.MethodName) prog_2_method_14_code (8 : Nat) (Option.none : Option Jvm.ClassFile.FieldType)) ∈ TT := mt (i := 580) (by decide +kernel) (by decide +kernel)
theorem wd_258 : (Jvm.Cond.methodLink "TopYard$Bout" (138 : Nat) ({ cls := "TopYard$Bout", name := "bounce", desc := "(LTopYard$Spinner;LTopYard$Spinner;JJJ)V" } : Jvm.MethodName)) ∈ TT := mt (i := 582) (by decide +kernel) (by decide +kernel)
theorem wd_259 : (Jvm.Cond.static ({ cls := "TopYard$Bout", name := "bounce", desc := "(LTopYard$Spinner;LTopYard$Spinner;JJJ)V" } : Jvm.MethodName)) ∈ TT := mt (i := 583) (by decide +kernel) (by decide +kernel)
theorem wd_260 : (Jvm.Cond.code ({ cls := "TopYard$Bout", name := "bounce", desc := "(LTopYard$Spinner;LTopYard$Spinner;JJJ)V" } : Jvm.MethodName) prog_2_method_15_code (14 : Nat) (Option.none : Option Jvm.ClassFile.FieldType)) ∈ TT := mt (i := 584) (by decide +kernel) (by decide +kernel)
theorem wd_261 : (Jvm.Cond.methodLink "TopYard$Bout" (142 : Nat) ({ cls := "TopYard$Bout", name := "passSpin", desc := "(LTopYard$Spinner;LTopYard$Spinner;)V" } : Jvm.MethodName)) ∈ TT := mt (i := 585) (by decide +kernel) (by decide +kernel)
theorem wd_262 : (Jvm.Cond.static ({ cls := "TopYard$Bout", name := "passSpin", desc := "(LTopYard$Spinner;LTopYard$Spinner;)V" } : Jvm.MethodName)) ∈ TT := mt (i := 586) (by decide +kernel) (by decide +kernel)
theorem wd_263 : (Jvm.Cond.code ({ cls := "TopYard$Bout", name := "passSpin", desc := "(LTopYard$Spinner;LTopYard$Spinner;)V" } : Jvm.MethodName) prog_2_method_16_code (4 : Nat) (Option.none : Option Jvm.ClassFile.FieldType)) ∈ TT := mt (i := 587) (by decide +kernel) (by decide +kernel)
theorem wd_264 : (Jvm.Cond.methodLink "TopYard$Bout" (148 : Nat) ({ cls := "java/lang/Math", name := "max", desc := "(II)I" } : Jvm.MethodName)) ∈ TT := mt (i := 588) (by decide +kernel) (by decide +kernel)
theorem wd_265 : (Jvm.Cond.static ({ cls := "java/lang/Math", name := "max", desc := "(II)I" } : Jvm.MethodName)) ∈ TT := mt (i := 514) (by decide +kernel) (by decide +kernel)
theorem wd_266 : (Jvm.Cond.initialized "java/lang/Math") ∈ TT := mt (i := 14) (by decide +kernel) (by decide +kernel)
theorem wd_267 : (Jvm.Cond.code ({ cls := "java/lang/Math", name := "max", desc := "(II)I" } : Jvm.MethodName) prog_15_method_65_code (2 : Nat) (Option.some Jvm.ClassFile.FieldType.int)) ∈ TT := mt (i := 515) (by decide +kernel) (by decide +kernel)
theorem wd_268 : (Jvm.Cond.methodLink "TopYard$Bout" (48 : Nat) ({ cls := "TopYard$Bout", name := "begin", desc := "([I)V" } : Jvm.MethodName)) ∈ TT := mt (i := 505) (by decide +kernel) (by decide +kernel)
theorem wd_269 : (Jvm.Cond.instanceMethod ({ cls := "TopYard$Bout", name := "begin", desc := "([I)V" } : Jvm.MethodName)) ∈ TT := mt (i := 507) (by decide +kernel) (by decide +kernel)
theorem wd_270 : (Jvm.Cond.code ({ cls := "TopYard$Bout", name := "begin", desc := "([I)V" } : Jvm.MethodName) prog_2_method_9_code (5 : Nat) (Option.none : Option Jvm.ClassFile.FieldType)) ∈ TT := mt (i := 508) (by decide +kernel) (by decide +kernel)
theorem wd_271 : (Jvm.Cond.methodLink "TopYard$Bout" (52 : Nat) ({ cls := "TopYard$Bout", name := "step", desc := "(LTopYard$Bowl;II)V" } : Jvm.MethodName)) ∈ TT := mt (i := 521) (by decide +kernel) (by decide +kernel)
theorem wd_272 : (Jvm.Cond.instanceMethod ({ cls := "TopYard$Bout", name := "step", desc := "(LTopYard$Bowl;II)V" } : Jvm.MethodName)) ∈ TT := mt (i := 523) (by decide +kernel) (by decide +kernel)
theorem wd_273 : (Jvm.Cond.code ({ cls := "TopYard$Bout", name := "step", desc := "(LTopYard$Bowl;II)V" } : Jvm.MethodName) prog_2_method_11_code (6 : Nat) (Option.none : Option Jvm.ClassFile.FieldType)) ∈ TT := mt (i := 524) (by decide +kernel) (by decide +kernel)
theorem wd_274 : (Jvm.Cond.methodLink "TopYard$Bout" (56 : Nat) ({ cls := "TopYard$Bout", name := "standing", desc := "()I" } : Jvm.MethodName)) ∈ TT := mt (i := 593) (by decide +kernel) (by decide +kernel)
theorem wd_275 : (Jvm.Cond.instanceMethod ({ cls := "TopYard$Bout", name := "standing", desc := "()I" } : Jvm.MethodName)) ∈ TT := mt (i := 595) (by decide +kernel) (by decide +kernel)
theorem wd_276 : (Jvm.Cond.code ({ cls := "TopYard$Bout", name := "standing", desc := "()I" } : Jvm.MethodName) prog_2_method_10_code (3 : Nat) (Option.some Jvm.ClassFile.FieldType.int)) ∈ TT := mt (i := 596) (by decide +kernel) (by decide +kernel)
theorem wd_277 : (Jvm.Cond.methodLink "TopYard$Bout" (60 : Nat) ({ cls := "TopYard$Spinner", name := "stands", desc := "()Z" } : Jvm.MethodName)) ∈ TT := mt (i := 533) (by decide +kernel) (by decide +kernel)
theorem wd_278 : (Jvm.Cond.instanceMethod ({ cls := "TopYard$Spinner", name := "stands", desc := "()Z" } : Jvm.MethodName)) ∈ TT := mt (i := 534) (by decide +kernel) (by decide +kernel)
theorem wd_279 : (Jvm.Cond.selects "TopYard$Spinner" ({ cls := "TopYard$Spinner", name := "stands", desc := "()Z" } : Jvm.MethodName) ({ cls := "TopYard$Spinner", name := "stands", desc := "()Z" } : Jvm.MethodName)) ∈ TT := mt (i := 535) (by decide +kernel) (by decide +kernel)
theorem wd_280 : (Jvm.Cond.code ({ cls := "TopYard$Spinner", name := "stands", desc := "()Z" } : Jvm.MethodName) prog_10_method_4_code (1 : Nat) (Option.some Jvm.ClassFile.FieldType.boolean)) ∈ TT := mt (i := 536) (by decide +kernel) (by decide +kernel)
theorem wd_281 : (Jvm.Cond.methodLink "TopYard$Bout" (69 : Nat) ({ cls := "TopYard$Spinner", name := "begin", desc := "(I)V" } : Jvm.MethodName)) ∈ TT := mt (i := 509) (by decide +kernel) (by decide +kernel)
theorem wd_282 : (Jvm.Cond.instanceMethod ({ cls := "TopYard$Spinner", name := "begin", desc := "(I)V" } : Jvm.MethodName)) ∈ TT := mt (i := 510) (by decide +kernel) (by decide +kernel)
theorem wd_283 : (Jvm.Cond.selects "TopYard$Spinner" ({ cls := "TopYard$Spinner", name := "begin", desc := "(I)V" } : Jvm.MethodName) ({ cls := "TopYard$Spinner", name := "begin", desc := "(I)V" } : Jvm.MethodName)) ∈ TT := mt (i := 511) (by decide +kernel) (by decide +kernel)
theorem wd_284 : (Jvm.Cond.code ({ cls := "TopYard$Spinner", name := "begin", desc := "(I)V" } : Jvm.MethodName) prog_10_method_3_code (2 : Nat) (Option.none : Option Jvm.ClassFile.FieldType)) ∈ TT := mt (i := 512) (by decide +kernel) (by decide +kernel)
theorem wd_285 : (Jvm.Cond.methodLink "TopYard$Bout" (72 : Nat) ({ cls := "TopYard$Bout", name := "lash", desc := "(I)V" } : Jvm.MethodName)) ∈ TT := mt (i := 525) (by decide +kernel) (by decide +kernel)
theorem wd_286 : (Jvm.Cond.instanceMethod ({ cls := "TopYard$Bout", name := "lash", desc := "(I)V" } : Jvm.MethodName)) ∈ TT := mt (i := 527) (by decide +kernel) (by decide +kernel)
theorem wd_287 : (Jvm.Cond.code ({ cls := "TopYard$Bout", name := "lash", desc := "(I)V" } : Jvm.MethodName) prog_2_method_12_code (4 : Nat) (Option.none : Option Jvm.ClassFile.FieldType)) ∈ TT := mt (i := 528) (by decide +kernel) (by decide +kernel)
theorem wd_288 : (Jvm.Cond.methodLink "TopYard$Bout" (75 : Nat) ({ cls := "TopYard$Spinner", name := "slow", desc := "()V" } : Jvm.MethodName)) ∈ TT := mt (i := 537) (by decide +kernel) (by decide +kernel)
theorem wd_289 : (Jvm.Cond.instanceMethod ({ cls := "TopYard$Spinner", name := "slow", desc := "()V" } : Jvm.MethodName)) ∈ TT := mt (i := 538) (by decide +kernel) (by decide +kernel)
theorem wd_290 : (Jvm.Cond.selects "TopYard$Spinner" ({ cls := "TopYard$Spinner", name := "slow", desc := "()V" } : Jvm.MethodName) ({ cls := "TopYard$Spinner", name := "slow", desc := "()V" } : Jvm.MethodName)) ∈ TT := mt (i := 539) (by decide +kernel) (by decide +kernel)
theorem wd_291 : (Jvm.Cond.code ({ cls := "TopYard$Spinner", name := "slow", desc := "()V" } : Jvm.MethodName) prog_10_method_6_code (1 : Nat) (Option.none : Option Jvm.ClassFile.FieldType)) ∈ TT := mt (i := 540) (by decide +kernel) (by decide +kernel)
theorem wd_292 : (Jvm.Cond.methodLink "TopYard$Bout" (78 : Nat) ({ cls := "TopYard$Spinner", name := "tilt", desc := "()V" } : Jvm.MethodName)) ∈ TT := mt (i := 541) (by decide +kernel) (by decide +kernel)
theorem wd_293 : (Jvm.Cond.instanceMethod ({ cls := "TopYard$Spinner", name := "tilt", desc := "()V" } : Jvm.MethodName)) ∈ TT := mt (i := 542) (by decide +kernel) (by decide +kernel)
theorem wd_294 : (Jvm.Cond.selects "TopYard$Spinner" ({ cls := "TopYard$Spinner", name := "tilt", desc := "()V" } : Jvm.MethodName) ({ cls := "TopYard$Spinner", name := "tilt", desc := "()V" } : Jvm.MethodName)) ∈ TT := mt (i := 543) (by decide +kernel) (by decide +kernel)
theorem wd_295 : (Jvm.Cond.code ({ cls := "TopYard$Spinner", name := "tilt", desc := "()V" } : Jvm.MethodName) prog_10_method_7_code (1 : Nat) (Option.none : Option Jvm.ClassFile.FieldType)) ∈ TT := mt (i := 544) (by decide +kernel) (by decide +kernel)
theorem wd_296 : (Jvm.Cond.methodLink "TopYard$Bout" (81 : Nat) ({ cls := "TopYard$Spinner", name := "push", desc := "(LTopYard$Bowl;)V" } : Jvm.MethodName)) ∈ TT := mt (i := 545) (by decide +kernel) (by decide +kernel)
theorem wd_297 : (Jvm.Cond.instanceMethod ({ cls := "TopYard$Spinner", name := "push", desc := "(LTopYard$Bowl;)V" } : Jvm.MethodName)) ∈ TT := mt (i := 546) (by decide +kernel) (by decide +kernel)
theorem wd_298 : (Jvm.Cond.selects "TopYard$Spinner" ({ cls := "TopYard$Spinner", name := "push", desc := "(LTopYard$Bowl;)V" } : Jvm.MethodName) ({ cls := "TopYard$Spinner", name := "push", desc := "(LTopYard$Bowl;)V" } : Jvm.MethodName)) ∈ TT := mt (i := 547) (by decide +kernel) (by decide +kernel)
theorem wd_299 : (Jvm.Cond.code ({ cls := "TopYard$Spinner", name := "push", desc := "(LTopYard$Bowl;)V" } : Jvm.MethodName) prog_10_method_8_code (4 : Nat) (Option.none : Option Jvm.ClassFile.FieldType)) ∈ TT := mt (i := 548) (by decide +kernel) (by decide +kernel)
theorem wd_300 : (Jvm.Cond.methodLink "TopYard$Bout" (85 : Nat) ({ cls := "TopYard$Spinner", name := "move", desc := "()V" } : Jvm.MethodName)) ∈ TT := mt (i := 559) (by decide +kernel) (by decide +kernel)
theorem wd_301 : (Jvm.Cond.instanceMethod ({ cls := "TopYard$Spinner", name := "move", desc := "()V" } : Jvm.MethodName)) ∈ TT := mt (i := 560) (by decide +kernel) (by decide +kernel)
theorem wd_302 : (Jvm.Cond.selects "TopYard$Spinner" ({ cls := "TopYard$Spinner", name := "move", desc := "()V" } : Jvm.MethodName) ({ cls := "TopYard$Spinner", name := "move", desc := "()V" } : Jvm.MethodName)) ∈ TT := mt (i := 561) (by decide +kernel) (by decide +kernel)
theorem wd_303 : (Jvm.Cond.code ({ cls := "TopYard$Spinner", name := "move", desc := "()V" } : Jvm.MethodName) prog_10_method_9_code (1 : Nat) (Option.none : Option Jvm.ClassFile.FieldType)) ∈ TT := mt (i := 562) (by decide +kernel) (by decide +kernel)
theorem wd_304 : (Jvm.Cond.methodLink "TopYard$Bout" (93 : Nat) ({ cls := "TopYard$Spinner", name := "leave", desc := "(I)V" } : Jvm.MethodName)) ∈ TT := mt (i := 564) (by decide +kernel) (by decide +kernel)
theorem wd_305 : (Jvm.Cond.instanceMethod ({ cls := "TopYard$Spinner", name := "leave", desc := "(I)V" } : Jvm.MethodName)) ∈ TT := mt (i := 565) (by decide +kernel) (by decide +kernel)
theorem wd_306 : (Jvm.Cond.selects "TopYard$Spinner" ({ cls := "TopYard$Spinner", name := "leave", desc := "(I)V" } : Jvm.MethodName) ({ cls := "TopYard$Spinner", name := "leave", desc := "(I)V" } : Jvm.MethodName)) ∈ TT := mt (i := 566) (by decide +kernel) (by decide +kernel)
theorem wd_307 : (Jvm.Cond.code ({ cls := "TopYard$Spinner", name := "leave", desc := "(I)V" } : Jvm.MethodName) prog_10_method_10_code (2 : Nat) (Option.none : Option Jvm.ClassFile.FieldType)) ∈ TT := mt (i := 567) (by decide +kernel) (by decide +kernel)
theorem wd_308 : (Jvm.Cond.methodLink "TopYard$Bout" (96 : Nat) ({ cls := "TopYard$Bout", name := "collide", desc := "(LTopYard$Spinner;LTopYard$Spinner;)V" } : Jvm.MethodName)) ∈ TT := mt (i := 572) (by decide +kernel) (by decide +kernel)
theorem wd_309 : (Jvm.Cond.instanceMethod ({ cls := "TopYard$Bout", name := "collide", desc := "(LTopYard$Spinner;LTopYard$Spinner;)V" } : Jvm.MethodName)) ∈ TT := mt (i := 574) (by decide +kernel) (by decide +kernel)
theorem wd_310 : (Jvm.Cond.code ({ cls := "TopYard$Bout", name := "collide", desc := "(LTopYard$Spinner;LTopYard$Spinner;)V" } : Jvm.MethodName) prog_2_method_13_code (13 : Nat) (Option.none : Option Jvm.ClassFile.FieldType)) ∈ TT := mt (i := 575) (by decide +kernel) (by decide +kernel)
theorem wd_311 : (Jvm.Cond.methodLink "TopYard$Bowl" (23 : Nat) ({ cls := "TopYard$Bowl", name := "mayDent", desc := "(II)Z" } : Jvm.MethodName)) ∈ TT := mt (i := 429) (by decide +kernel) (by decide +kernel)
theorem wd_312 : (Jvm.Cond.static ({ cls := "TopYard$Bowl", name := "mayDent", desc := "(II)Z" } : Jvm.MethodName)) ∈ TT := mt (i := 423) (by decide +kernel) (by decide +kernel)
theorem wd_313 : (Jvm.Cond.initialized "TopYard$Bowl") ∈ TT := mt (i := 2) (by decide +kernel) (by decide +kernel)
theorem wd_314 : (Jvm.Cond.code ({ cls := "TopYard$Bowl", name := "mayDent", desc := "(II)Z" } : Jvm.MethodName) prog_3_method_2_code (2 : Nat) (Option.some Jvm.ClassFile.FieldType.boolean)) ∈ TT := mt (i := 424) (by decide +kernel) (by decide +kernel)
theorem wd_315 : (Jvm.Cond.methodLink "TopYard$Bowl" (27 : Nat) ({ cls := "java/util/Arrays", name := "fill", desc := "([II)V" } : Jvm.MethodName)) ∈ TT := mt (i := 438) (by decide +kernel) (by decide +kernel)
theorem wd_316 : (Jvm.Cond.static ({ cls := "java/util/Arrays", name := "fill", desc := "([II)V" } : Jvm.MethodName)) ∈ TT := mt (i := 272) (by decide +kernel) (by decide +kernel)
theorem wd_317 : (Jvm.Cond.initialized "java/util/Arrays") ∈ TT := mt (i := 9) (by decide +kernel) (by decide +kernel)
theorem wd_318 : (Jvm.Cond.code ({ cls := "java/util/Arrays", name := "fill", desc := "([II)V" } : Jvm.MethodName) prog_17_method_103_code (4 : Nat) (Option.none : Option Jvm.ClassFile.FieldType)) ∈ TT := mt (i := 273) (by decide +kernel) (by decide +kernel)
theorem wd_319 : (Jvm.Cond.methodLink "TopYard$Bowl" (33 : Nat) ({ cls := "TopYard$Bowl", name := "heightAt", desc := "(II)I" } : Jvm.MethodName)) ∈ TT := mt (i := 452) (by decide +kernel) (by decide +kernel)
theorem wd_320 : (Jvm.Cond.instanceMethod ({ cls := "TopYard$Bowl", name := "heightAt", desc := "(II)I" } : Jvm.MethodName)) ∈ TT := mt (i := 445) (by decide +kernel) (by decide +kernel)
theorem wd_321 : (Jvm.Cond.selects "TopYard$Bowl" ({ cls := "TopYard$Bowl", name := "heightAt", desc := "(II)I" } : Jvm.MethodName) ({ cls := "TopYard$Bowl", name := "heightAt", desc := "(II)I" } : Jvm.MethodName)) ∈ TT := mt (i := 446) (by decide +kernel) (by decide +kernel)
theorem wd_322 : (Jvm.Cond.code ({ cls := "TopYard$Bowl", name := "heightAt", desc := "(II)I" } : Jvm.MethodName) prog_3_method_5_code (4 : Nat) (Option.some Jvm.ClassFile.FieldType.int)) ∈ TT := mt (i := 447) (by decide +kernel) (by decide +kernel)
theorem wd_323 : (Jvm.Cond.methodLink "TopYard$Choice" (101 : Nat) ({ cls := "TopYard$Choice", name := "noShareIsNegative", desc := "()Z" } : Jvm.MethodName)) ∈ TT := mt (i := 713) (by decide +kernel) (by decide +kernel)
theorem wd_324 : (Jvm.Cond.instanceMethod ({ cls := "TopYard$Choice", name := "noShareIsNegative", desc := "()Z" } : Jvm.MethodName)) ∈ TT := mt (i := 715) (by decide +kernel) (by decide +kernel)
theorem wd_325 : (Jvm.Cond.initialized "TopYard$Choice") ∈ TT := mt (i := 5) (by decide +kernel) (by decide +kernel)
theorem wd_326 : (Jvm.Cond.code ({ cls := "TopYard$Choice", name := "noShareIsNegative", desc := "()Z" } : Jvm.MethodName) prog_4_method_17_code (2 : Nat) (Option.some Jvm.ClassFile.FieldType.boolean)) ∈ TT := mt (i := 716) (by decide +kernel) (by decide +kernel)
theorem wd_327 : (Jvm.Cond.methodLink "TopYard$Choice" (105 : Nat) ({ cls := "TopYard$Choice", name := "holdsForRows", desc := "()Z" } : Jvm.MethodName)) ∈ TT := mt (i := 717) (by decide +kernel) (by decide +kernel)
theorem wd_328 : (Jvm.Cond.instanceMethod ({ cls := "TopYard$Choice", name := "holdsForRows", desc := "()Z" } : Jvm.MethodName)) ∈ TT := mt (i := 719) (by decide +kernel) (by decide +kernel)
theorem wd_329 : (Jvm.Cond.code ({ cls := "TopYard$Choice", name := "holdsForRows", desc := "()Z" } : Jvm.MethodName) prog_4_method_19_code (5 : Nat) (Option.some Jvm.ClassFile.FieldType.boolean)) ∈ TT := mt (i := 720) (by decide +kernel) (by decide +kernel)
theorem wd_330 : (Jvm.Cond.methodLink "TopYard$Choice" (108 : Nat) ({ cls := "TopYard$Choice", name := "holdsForColumns", desc := "()Z" } : Jvm.MethodName)) ∈ TT := mt (i := 721) (by decide +kernel) (by decide +kernel)
theorem wd_331 : (Jvm.Cond.instanceMethod ({ cls := "TopYard$Choice", name := "holdsForColumns", desc := "()Z" } : Jvm.MethodName)) ∈ TT := mt (i := 723) (by decide +kernel) (by decide +kernel)
theorem wd_332 : (Jvm.Cond.code ({ cls := "TopYard$Choice", name := "holdsForColumns", desc := "()Z" } : Jvm.MethodName) prog_4_method_18_code (5 : Nat) (Option.some Jvm.ClassFile.FieldType.boolean)) ∈ TT := mt (i := 724) (by decide +kernel) (by decide +kernel)
theorem wd_333 : (Jvm.Cond.methodLink "TopYard$Choice" (47 : Nat) ({ cls := "java/util/Arrays", name := "fill", desc := "([II)V" } : Jvm.MethodName)) ∈ TT := mt (i := 626) (by decide +kernel) (by decide +kernel)
theorem wd_334 : (Jvm.Cond.methodLink "TopYard$Choice" (55 : Nat) ({ cls := "TopYard$Choice", name := "inMillionths", desc := "(J)I" } : Jvm.MethodName)) ∈ TT := mt (i := 730) (by decide +kernel) (by decide +kernel)
theorem wd_335 : (Jvm.Cond.instanceMethod ({ cls := "TopYard$Choice", name := "inMillionths", desc := "(J)I" } : Jvm.MethodName)) ∈ TT := mt (i := 731) (by decide +kernel) (by decide +kernel)
theorem wd_336 : (Jvm.Cond.selects "TopYard$Choice" ({ cls := "TopYard$Choice", name := "inMillionths", desc := "(J)I" } : Jvm.MethodName) ({ cls := "TopYard$Choice", name := "inMillionths", desc := "(J)I" } : Jvm.MethodName)) ∈ TT := mt (i := 732) (by decide +kernel) (by decide +kernel)
theorem wd_337 : (Jvm.Cond.code ({ cls := "TopYard$Choice", name := "inMillionths", desc := "(J)I" } : Jvm.MethodName) prog_4_method_8_code (3 : Nat) (Option.some Jvm.ClassFile.FieldType.int)) ∈ TT := mt (i := 733) (by decide +kernel) (by decide +kernel)
theorem wd_338 : (Jvm.Cond.methodLink "TopYard$Choice" (61 : Nat) ({ cls := "java/lang/Math", name := "floorDiv", desc := "(JJ)J" } : Jvm.MethodName)) ∈ TT := mt (i := 735) (by decide +kernel) (by decide +kernel)
theorem wd_339 : (Jvm.Cond.static ({ cls := "java/lang/Math", name := "floorDiv", desc := "(JJ)J" } : Jvm.MethodName)) ∈ TT := mt (i := 551) (by decide +kernel) (by decide +kernel)
theorem wd_340 : (Jvm.Cond.code ({ cls := "java/lang/Math", name := "floorDiv", desc := "(JJ)J" } : Jvm.MethodName) prog_15_method_49_code (6 : Nat) (Option.some Jvm.ClassFile.FieldType.long)) ∈ TT := mt (i := 552) (by decide +kernel) (by decide +kernel)
theorem wd_341 : (Jvm.Cond.methodLink "TopYard$Choice" (67 : Nat) ({ cls := "TopYard$Choice", name := "findDeterminants", desc := "()V" } : Jvm.MethodName)) ∈ TT := mt (i := 675) (by decide +kernel) (by decide +kernel)
theorem wd_342 : (Jvm.Cond.instanceMethod ({ cls := "TopYard$Choice", name := "findDeterminants", desc := "()V" } : Jvm.MethodName)) ∈ TT := mt (i := 677) (by decide +kernel) (by decide +kernel)
theorem wd_343 : (Jvm.Cond.code ({ cls := "TopYard$Choice", name := "findDeterminants", desc := "()V" } : Jvm.MethodName) prog_4_method_10_code (3 : Nat) (Option.none : Option Jvm.ClassFile.FieldType)) ∈ TT := mt (i := 678) (by decide +kernel) (by decide +kernel)
theorem wd_344 : (Jvm.Cond.methodLink "TopYard$Choice" (70 : Nat) ({ cls := "TopYard$Choice", name := "solveBySize", desc := "(I)Z" } : Jvm.MethodName)) ∈ TT := mt (i := 697) (by decide +kernel) (by decide +kernel)
theorem wd_345 : (Jvm.Cond.instanceMethod ({ cls := "TopYard$Choice", name := "solveBySize", desc := "(I)Z" } : Jvm.MethodName)) ∈ TT := mt (i := 699) (by decide +kernel) (by decide +kernel)
theorem wd_346 : (Jvm.Cond.code ({ cls := "TopYard$Choice", name := "solveBySize", desc := "(I)Z" } : Jvm.MethodName) prog_4_method_13_code (5 : Nat) (Option.some Jvm.ClassFile.FieldType.boolean)) ∈ TT := mt (i := 700) (by decide +kernel) (by decide +kernel)
theorem wd_347 : (Jvm.Cond.methodLink "TopYard$Choice" (74 : Nat) ({ cls := "java/lang/Integer", name := "bitCount", desc := "(I)I" } : Jvm.MethodName)) ∈ TT := mt (i := 679) (by decide +kernel) (by decide +kernel)
theorem wd_348 : (Jvm.Cond.static ({ cls := "java/lang/Integer", name := "bitCount", desc := "(I)I" } : Jvm.MethodName)) ∈ TT := mt (i := 680) (by decide +kernel) (by decide +kernel)
theorem wd_349 : (Jvm.Cond.initialized "java/lang/Integer") ∈ TT := mt (i := 15) (by decide +kernel) (by decide +kernel)
theorem wd_350 : (Jvm.Cond.code ({ cls := "java/lang/Integer", name := "bitCount", desc := "(I)I" } : Jvm.MethodName) prog_14_method_49_code (1 : Nat) (Option.some Jvm.ClassFile.FieldType.int)) ∈ TT := mt (i := 681) (by decide +kernel) (by decide +kernel)
theorem wd_351 : (Jvm.Cond.methodLink "TopYard$Choice" (80 : Nat) ({ cls := "TopYard$Choice", name := "expand", desc := "(II)J" } : Jvm.MethodName)) ∈ TT := mt (i := 685) (by decide +kernel) (by decide +kernel)
theorem wd_352 : (Jvm.Cond.instanceMethod ({ cls := "TopYard$Choice", name := "expand", desc := "(II)J" } : Jvm.MethodName)) ∈ TT := mt (i := 687) (by decide +kernel) (by decide +kernel)
theorem wd_353 : (Jvm.Cond.code ({ cls := "TopYard$Choice", name := "expand", desc := "(II)J" } : Jvm.MethodName) prog_4_method_11_code (9 : Nat) (Option.some Jvm.ClassFile.FieldType.long)) ∈ TT := mt (i := 688) (by decide +kernel) (by decide +kernel)
theorem wd_354 : (Jvm.Cond.methodLink "TopYard$Choice" (84 : Nat) ({ cls := "java/lang/Integer", name := "numberOfTrailingZeros", desc := "(I)I" } : Jvm.MethodName)) ∈ TT := mt (i := 689) (by decide +kernel) (by decide +kernel)
theorem wd_355 : (Jvm.Cond.static ({ cls := "java/lang/Integer", name := "numberOfTrailingZeros", desc := "(I)I" } : Jvm.MethodName)) ∈ TT := mt (i := 690) (by decide +kernel) (by decide +kernel)
theorem wd_356 : (Jvm.Cond.code ({ cls := "java/lang/Integer", name := "numberOfTrailingZeros", desc := "(I)I" } : Jvm.MethodName) prog_14_method_48_code (2 : Nat) (Option.some Jvm.ClassFile.FieldType.int)) ∈ TT := mt (i := 691) (by decide +kernel) (by decide +kernel)
theorem wd_357 : (Jvm.Cond.methodLink "TopYard$Choice" (87 : Nat) ({ cls := "TopYard$Choice", name := "minor", desc := "(IIII)J" } : Jvm.MethodName)) ∈ TT := mt (i := 693) (by decide +kernel) (by decide +kernel)
theorem wd_358 : (Jvm.Cond.instanceMethod ({ cls := "TopYard$Choice", name := "minor", desc := "(IIII)J" } : Jvm.MethodName)) ∈ TT := mt (i := 695) (by decide +kernel) (by decide +kernel)
theorem wd_359 : (Jvm.Cond.code ({ cls := "TopYard$Choice", name := "minor", desc := "(IIII)J" } : Jvm.MethodName) prog_4_method_12_code (6 : Nat) (Option.some Jvm.ClassFile.FieldType.long)) ∈ TT := mt (i := 696) (by decide +kernel) (by decide +kernel)
theorem wd_360 : (Jvm.Cond.methodLink "TopYard$Choice" (91 : Nat) ({ cls := "TopYard$Choice", name := "solveByPart", desc := "(II)Z" } : Jvm.MethodName)) ∈ TT := mt (i := 701) (by decide +kernel) (by decide +kernel)
theorem wd_361 : (Jvm.Cond.instanceMethod ({ cls := "TopYard$Choice", name := "solveByPart", desc := "(II)Z" } : Jvm.MethodName)) ∈ TT := mt (i := 703) (by decide +kernel) (by decide +kernel)
theorem wd_362 : (Jvm.Cond.code ({ cls := "TopYard$Choice", name := "solveByPart", desc := "(II)Z" } : Jvm.MethodName) prog_4_method_14_code (5 : Nat) (Option.some Jvm.ClassFile.FieldType.boolean)) ∈ TT := mt (i := 704) (by decide +kernel) (by decide +kernel)
theorem wd_363 : (Jvm.Cond.methodLink "TopYard$Choice" (95 : Nat) ({ cls := "TopYard$Choice", name := "cofactor", desc := "(IIII)J" } : Jvm.MethodName)) ∈ TT := mt (i := 705) (by decide +kernel) (by decide +kernel)
theorem wd_364 : (Jvm.Cond.instanceMethod ({ cls := "TopYard$Choice", name := "cofactor", desc := "(IIII)J" } : Jvm.MethodName)) ∈ TT := mt (i := 707) (by decide +kernel) (by decide +kernel)
theorem wd_365 : (Jvm.Cond.code ({ cls := "TopYard$Choice", name := "cofactor", desc := "(IIII)J" } : Jvm.MethodName) prog_4_method_15_code (9 : Nat) (Option.some Jvm.ClassFile.FieldType.long)) ∈ TT := mt (i := 708) (by decide +kernel) (by decide +kernel)
theorem wd_366 : (Jvm.Cond.methodLink "TopYard$Choice" (98 : Nat) ({ cls := "TopYard$Choice", name := "changeSigns", desc := "()V" } : Jvm.MethodName)) ∈ TT := mt (i := 709) (by decide +kernel) (by decide +kernel)
theorem wd_367 : (Jvm.Cond.instanceMethod ({ cls := "TopYard$Choice", name := "changeSigns", desc := "()V" } : Jvm.MethodName)) ∈ TT := mt (i := 711) (by decide +kernel) (by decide +kernel)
theorem wd_368 : (Jvm.Cond.code ({ cls := "TopYard$Choice", name := "changeSigns", desc := "()V" } : Jvm.MethodName) prog_4_method_16_code (2 : Nat) (Option.none : Option Jvm.ClassFile.FieldType)) ∈ TT := mt (i := 712) (by decide +kernel) (by decide +kernel)
theorem wd_369 : (Jvm.Cond.methodLink "TopYard$Game" (31 : Nat) ({ cls := "TopYard$Game", name := "letterAt", desc := "(I)I" } : Jvm.MethodName)) ∈ TT := mt (i := 851) (by decide +kernel) (by decide +kernel)
theorem wd_370 : (Jvm.Cond.instanceMethod ({ cls := "TopYard$Game", name := "letterAt", desc := "(I)I" } : Jvm.MethodName)) ∈ TT := mt (i := 853) (by decide +kernel) (by decide +kernel)
theorem wd_371 : (Jvm.Cond.initialized "TopYard$Game") ∈ TT := mt (i := 7) (by decide +kernel) (by decide +kernel)
theorem wd_372 : (Jvm.Cond.code ({ cls := "TopYard$Game", name := "letterAt", desc := "(I)I" } : Jvm.MethodName) prog_5_method_10_code (3 : Nat) (Option.some Jvm.ClassFile.FieldType.int)) ∈ TT := mt (i := 854) (by decide +kernel) (by decide +kernel)
theorem wd_373 : (Jvm.Cond.methodLink "TopYard$Game" (35 : Nat) ({ cls := "TopYard$Game", name := "figuresAt", desc := "(I)I" } : Jvm.MethodName)) ∈ TT := mt (i := 861) (by decide +kernel) (by decide +kernel)
theorem wd_374 : (Jvm.Cond.instanceMethod ({ cls := "TopYard$Game", name := "figuresAt", desc := "(I)I" } : Jvm.MethodName)) ∈ TT := mt (i := 863) (by decide +kernel) (by decide +kernel)
theorem wd_375 : (Jvm.Cond.code ({ cls := "TopYard$Game", name := "figuresAt", desc := "(I)I" } : Jvm.MethodName) prog_5_method_11_code (2 : Nat) (Option.some Jvm.ClassFile.FieldType.int)) ∈ TT := mt (i := 864) (by decide +kernel) (by decide +kernel)
theorem wd_376 : (Jvm.Cond.methodLink "TopYard$Game" (38 : Nat) ({ cls := "TopYard$Game", name := "numberAt", desc := "(II)I" } : Jvm.MethodName)) ∈ TT := mt (i := 868) (by decide +kernel) (by decide +kernel)
theorem wd_377 : (Jvm.Cond.instanceMethod ({ cls := "TopYard$Game", name := "numberAt", desc := "(II)I" } : Jvm.MethodName)) ∈ TT := mt (i := 870) (by decide +kernel) (by decide +kernel)
theorem wd_378 : (Jvm.Cond.code ({ cls := "TopYard$Game", name := "numberAt", desc := "(II)I" } : Jvm.MethodName) prog_5_method_12_code (5 : Nat) (Option.some Jvm.ClassFile.FieldType.int)) ∈ TT := mt (i := 871) (by decide +kernel) (by decide +kernel)
theorem wd_379 : (Jvm.Cond.methodLink "TopYard$Game" (48 : Nat) ({ cls := "TopYard$Game", name := "byteAt", desc := "(I)I" } : Jvm.MethodName)) ∈ TT := mt (i := 855) (by decide +kernel) (by decide +kernel)
theorem wd_380 : (Jvm.Cond.instanceMethod ({ cls := "TopYard$Game", name := "byteAt", desc := "(I)I" } : Jvm.MethodName)) ∈ TT := mt (i := 857) (by decide +kernel) (by decide +kernel)
theorem wd_381 : (Jvm.Cond.code ({ cls := "TopYard$Game", name := "byteAt", desc := "(I)I" } : Jvm.MethodName) prog_5_method_9_code (2 : Nat) (Option.some Jvm.ClassFile.FieldType.int)) ∈ TT := mt (i := 858) (by decide +kernel) (by decide +kernel)
theorem wd_382 : (Jvm.Cond.methodLink "TopYard$Game" (55 : Nat) ({ cls := "TopYard$Game", name := "isFigure", desc := "(I)Z" } : Jvm.MethodName)) ∈ TT := mt (i := 865) (by decide +kernel) (by decide +kernel)
theorem wd_383 : (Jvm.Cond.static ({ cls := "TopYard$Game", name := "isFigure", desc := "(I)Z" } : Jvm.MethodName)) ∈ TT := mt (i := 866) (by decide +kernel) (by decide +kernel)
theorem wd_384 : (Jvm.Cond.code ({ cls := "TopYard$Game", name := "isFigure", desc := "(I)Z" } : Jvm.MethodName) prog_5_method_13_code (1 : Nat) (Option.some Jvm.ClassFile.FieldType.boolean)) ∈ TT := mt (i := 867) (by decide +kernel) (by decide +kernel)
theorem wd_385 : (Jvm.Cond.methodLink "TopYard$Headings" (13 : Nat) ({ cls := "TopYard$Headings", name := "alongX", desc := "(I)I" } : Jvm.MethodName)) ∈ TT := mt (i := 354) (by decide +kernel) (by decide +kernel)
theorem wd_386 : (Jvm.Cond.static ({ cls := "TopYard$Headings", name := "alongX", desc := "(I)I" } : Jvm.MethodName)) ∈ TT := mt (i := 347) (by decide +kernel) (by decide +kernel)
theorem wd_387 : (Jvm.Cond.initialized "TopYard$Headings") ∈ TT := mt (i := 12) (by decide +kernel) (by decide +kernel)
theorem wd_388 : (Jvm.Cond.code ({ cls := "TopYard$Headings", name := "alongX", desc := "(I)I" } : Jvm.MethodName) prog_6_method_2_code (2 : Nat) (Option.some Jvm.ClassFile.FieldType.int)) ∈ TT := mt (i := 348) (by decide +kernel) (by decide +kernel)
theorem wd_389 : (Jvm.Cond.methodLink "TopYardModel" (164 : Nat) ({ cls := "TopYardModel", name := "in", desc := "(JJJ)Z" } : Jvm.MethodName)) ∈ TT := mt (i := 1257) (by decide +kernel) (by decide +kernel)
theorem wd_390 : (Jvm.Cond.static ({ cls := "TopYardModel", name := "in", desc := "(JJJ)Z" } : Jvm.MethodName)) ∈ TT := mt (i := 1258) (by decide +kernel) (by decide +kernel)
theorem wd_391 : (Jvm.Cond.initialized "TopYardModel") ∈ TT := mt (i := 11) (by decide +kernel) (by decide +kernel)
theorem wd_392 : (Jvm.Cond.code ({ cls := "TopYardModel", name := "in", desc := "(JJJ)Z" } : Jvm.MethodName) prog_13_method_3_code (6 : Nat) (Option.some Jvm.ClassFile.FieldType.boolean)) ∈ TT := mt (i := 1259) (by decide +kernel) (by decide +kernel)
theorem wd_393 : (Jvm.Cond.methodLink "TopYardModel" (168 : Nat) ({ cls := "TopYardModel", name := "c", desc := "(I)I" } : Jvm.MethodName)) ∈ TT := mt (i := 1260) (by decide +kernel) (by decide +kernel)
theorem wd_394 : (Jvm.Cond.instanceMethod ({ cls := "TopYardModel", name := "c", desc := "(I)I" } : Jvm.MethodName)) ∈ TT := mt (i := 1262) (by decide +kernel) (by decide +kernel)
theorem wd_395 : (Jvm.Cond.code ({ cls := "TopYardModel", name := "c", desc := "(I)I" } : Jvm.MethodName) prog_13_method_4_code (2 : Nat) (Option.some Jvm.ClassFile.FieldType.int)) ∈ TT := mt (i := 1263) (by decide +kernel) (by decide +kernel)
theorem wd_396 : (Jvm.Cond.methodLink "TopYardModel" (172 : Nat) ({ cls := "TopYardModel", name := "s", desc := "(I)I" } : Jvm.MethodName)) ∈ TT := mt (i := 1264) (by decide +kernel) (by decide +kernel)
theorem wd_397 : (Jvm.Cond.instanceMethod ({ cls := "TopYardModel", name := "s", desc := "(I)I" } : Jvm.MethodName)) ∈ TT := mt (i := 1266) (by decide +kernel) (by decide +kernel)
theorem wd_398 : (Jvm.Cond.code ({ cls := "TopYardModel", name := "s", desc := "(I)I" } : Jvm.MethodName) prog_13_method_5_code (2 : Nat) (Option.some Jvm.ClassFile.FieldType.int)) ∈ TT := mt (i := 1267) (by decide +kernel) (by decide +kernel)
theorem wd_399 : (Jvm.Cond.methodLink "TopYardModel" (186 : Nat) ({ cls := "TopYardModel", name := "isOwner", desc := "(I)Z" } : Jvm.MethodName)) ∈ TT := mt (i := 1275) (by decide +kernel) (by decide +kernel)
theorem wd_400 : (Jvm.Cond.static ({ cls := "TopYardModel", name := "isOwner", desc := "(I)Z" } : Jvm.MethodName)) ∈ TT := mt (i := 1276) (by decide +kernel) (by decide +kernel)
theorem wd_401 : (Jvm.Cond.code ({ cls := "TopYardModel", name := "isOwner", desc := "(I)Z" } : Jvm.MethodName) prog_13_method_8_code (1 : Nat) (Option.some Jvm.ClassFile.FieldType.boolean)) ∈ TT := mt (i := 1277) (by decide +kernel) (by decide +kernel)
theorem wd_402 : (Jvm.Cond.methodLink "TopYardModel" (190 : Nat) ({ cls := "TopYardModel", name := "isTop", desc := "(I)Z" } : Jvm.MethodName)) ∈ TT := mt (i := 1283) (by decide +kernel) (by decide +kernel)
theorem wd_403 : (Jvm.Cond.instanceMethod ({ cls := "TopYardModel", name := "isTop", desc := "(I)Z" } : Jvm.MethodName)) ∈ TT := mt (i := 1285) (by decide +kernel) (by decide +kernel)
theorem wd_404 : (Jvm.Cond.code ({ cls := "TopYardModel", name := "isTop", desc := "(I)Z" } : Jvm.MethodName) prog_13_method_7_code (2 : Nat) (Option.some Jvm.ClassFile.FieldType.boolean)) ∈ TT := mt (i := 1286) (by decide +kernel) (by decide +kernel)
theorem wd_405 : (Jvm.Cond.methodLink "TopYardModel" (208 : Nat) ({ cls := "TopYardModel", name := "heightOf", desc := "(II)I" } : Jvm.MethodName)) ∈ TT := mt (i := 1321) (by decide +kernel) (by decide +kernel)
theorem wd_406 : (Jvm.Cond.instanceMethod ({ cls := "TopYardModel", name := "heightOf", desc := "(II)I" } : Jvm.MethodName)) ∈ TT := mt (i := 1323) (by decide +kernel) (by decide +kernel)
theorem wd_407 : (Jvm.Cond.code ({ cls := "TopYardModel", name := "heightOf", desc := "(II)I" } : Jvm.MethodName) prog_13_method_16_code (5 : Nat) (Option.some Jvm.ClassFile.FieldType.int)) ∈ TT := mt (i := 1324) (by decide +kernel) (by decide +kernel)
theorem wd_408 : (Jvm.Cond.methodLink "TopYardModel" (219 : Nat) ({ cls := "TopYardModel", name := "slopeX", desc := "(II)I" } : Jvm.MethodName)) ∈ TT := mt (i := 1325) (by decide +kernel) (by decide +kernel)
theorem wd_409 : (Jvm.Cond.instanceMethod ({ cls := "TopYardModel", name := "slopeX", desc := "(II)I" } : Jvm.MethodName)) ∈ TT := mt (i := 1327) (by decide +kernel) (by decide +kernel)
theorem wd_410 : (Jvm.Cond.code ({ cls := "TopYardModel", name := "slopeX", desc := "(II)I" } : Jvm.MethodName) prog_13_method_17_code (3 : Nat) (Option.some Jvm.ClassFile.FieldType.int)) ∈ TT := mt (i := 1328) (by decide +kernel) (by decide +kernel)
theorem wd_411 : (Jvm.Cond.methodLink "TopYardModel" (222 : Nat) ({ cls := "TopYardModel", name := "slopeY", desc := "(II)I" } : Jvm.MethodName)) ∈ TT := mt (i := 1329) (by decide +kernel) (by decide +kernel)
theorem wd_412 : (Jvm.Cond.instanceMethod ({ cls := "TopYardModel", name := "slopeY", desc := "(II)I" } : Jvm.MethodName)) ∈ TT := mt (i := 1331) (by decide +kernel) (by decide +kernel)
theorem wd_413 : (Jvm.Cond.code ({ cls := "TopYardModel", name := "slopeY", desc := "(II)I" } : Jvm.MethodName) prog_13_method_18_code (3 : Nat) (Option.some Jvm.ClassFile.FieldType.int)) ∈ TT := mt (i := 1332) (by decide +kernel) (by decide +kernel)
theorem wd_414 : (Jvm.Cond.methodLink "TopYardModel" (250 : Nat) ({ cls := "TopYardModel", name := "floor65", desc := "(J)I" } : Jvm.MethodName)) ∈ TT := mt (i := 1384) (by decide +kernel) (by decide +kernel)
theorem wd_415 : (Jvm.Cond.static ({ cls := "TopYardModel", name := "floor65", desc := "(J)I" } : Jvm.MethodName)) ∈ TT := mt (i := 1385) (by decide +kernel) (by decide +kernel)
theorem wd_416 : (Jvm.Cond.code ({ cls := "TopYardModel", name := "floor65", desc := "(J)I" } : Jvm.MethodName) prog_13_method_26_code (2 : Nat) (Option.some Jvm.ClassFile.FieldType.int)) ∈ TT := mt (i := 1386) (by decide +kernel) (by decide +kernel)
theorem wd_417 : (Jvm.Cond.methodLink "TopYardModel" (266 : Nat) ({ cls := "TopYardModel", name := "moves", desc := "()V" } : Jvm.MethodName)) ∈ TT := mt (i := 1380) (by decide +kernel) (by decide +kernel)
theorem wd_418 : (Jvm.Cond.instanceMethod ({ cls := "TopYardModel", name := "moves", desc := "()V" } : Jvm.MethodName)) ∈ TT := mt (i := 1382) (by decide +kernel) (by decide +kernel)
theorem wd_419 : (Jvm.Cond.code ({ cls := "TopYardModel", name := "moves", desc := "()V" } : Jvm.MethodName) prog_13_method_27_code (5 : Nat) (Option.none : Option Jvm.ClassFile.FieldType)) ∈ TT := mt (i := 1383) (by decide +kernel) (by decide +kernel)
theorem wd_420 : (Jvm.Cond.methodLink "TopYardModel" (269 : Nat) ({ cls := "TopYardModel", name := "knock", desc := "(II)V" } : Jvm.MethodName)) ∈ TT := mt (i := 1390) (by decide +kernel) (by decide +kernel)
theorem wd_421 : (Jvm.Cond.instanceMethod ({ cls := "TopYardModel", name := "knock", desc := "(II)V" } : Jvm.MethodName)) ∈ TT := mt (i := 1392) (by decide +kernel) (by decide +kernel)
theorem wd_422 : (Jvm.Cond.code ({ cls := "TopYardModel", name := "knock", desc := "(II)V" } : Jvm.MethodName) prog_13_method_28_code (21 : Nat) (Option.none : Option Jvm.ClassFile.FieldType)) ∈ TT := mt (i := 1393) (by decide +kernel) (by decide +kernel)
theorem wd_423 : (Jvm.Cond.methodLink "TopYardModel" (273 : Nat) ({ cls := "TopYardModel", name := "standing", desc := "()I" } : Jvm.MethodName)) ∈ TT := mt (i := 1372) (by decide +kernel) (by decide +kernel)
theorem wd_424 : (Jvm.Cond.instanceMethod ({ cls := "TopYardModel", name := "standing", desc := "()I" } : Jvm.MethodName)) ∈ TT := mt (i := 1374) (by decide +kernel) (by decide +kernel)
theorem wd_425 : (Jvm.Cond.code ({ cls := "TopYardModel", name := "standing", desc := "()I" } : Jvm.MethodName) prog_13_method_25_code (3 : Nat) (Option.some Jvm.ClassFile.FieldType.int)) ∈ TT := mt (i := 1375) (by decide +kernel) (by decide +kernel)
theorem wd_426 : (Jvm.Cond.methodLink "TopYardModel" (277 : Nat) ({ cls := "TopYardModel", name := "ticks", desc := "(IIZ)V" } : Jvm.MethodName)) ∈ TT := mt (i := 1376) (by decide +kernel) (by decide +kernel)
theorem wd_427 : (Jvm.Cond.instanceMethod ({ cls := "TopYardModel", name := "ticks", desc := "(IIZ)V" } : Jvm.MethodName)) ∈ TT := mt (i := 1378) (by decide +kernel) (by decide +kernel)
theorem wd_428 : (Jvm.Cond.code ({ cls := "TopYardModel", name := "ticks", desc := "(IIZ)V" } : Jvm.MethodName) prog_13_method_29_code (6 : Nat) (Option.none : Option Jvm.ClassFile.FieldType)) ∈ TT := mt (i := 1379) (by decide +kernel) (by decide +kernel)
theorem wd_429 : (Jvm.Cond.methodLink "TopYardModel" (281 : Nat) ({ cls := "TopYardModel", name := "begins", desc := "(IIIIII)V" } : Jvm.MethodName)) ∈ TT := mt (i := 1363) (by decide +kernel) (by decide +kernel)
theorem wd_430 : (Jvm.Cond.instanceMethod ({ cls := "TopYardModel", name := "begins", desc := "(IIIIII)V" } : Jvm.MethodName)) ∈ TT := mt (i := 1365) (by decide +kernel) (by decide +kernel)
theorem wd_431 : (Jvm.Cond.code ({ cls := "TopYardModel", name := "begins", desc := "(IIIIII)V" } : Jvm.MethodName) prog_13_method_24_code (8 : Nat) (Option.none : Option Jvm.ClassFile.FieldType)) ∈ TT := mt (i := 1366) (by decide +kernel) (by decide +kernel)
theorem wd_432 : (Jvm.Cond.methodLink "TopYardModel" (285 : Nat) ({ cls := "TopYardModel", name := "runsTo", desc := "(IIZ)I" } : Jvm.MethodName)) ∈ TT := mt (i := 1368) (by decide +kernel) (by decide +kernel)
theorem wd_433 : (Jvm.Cond.instanceMethod ({ cls := "TopYardModel", name := "runsTo", desc := "(IIZ)I" } : Jvm.MethodName)) ∈ TT := mt (i := 1370) (by decide +kernel) (by decide +kernel)
theorem wd_434 : (Jvm.Cond.code ({ cls := "TopYardModel", name := "runsTo", desc := "(IIZ)I" } : Jvm.MethodName) prog_13_method_30_code (5 : Nat) (Option.some Jvm.ClassFile.FieldType.int)) ∈ TT := mt (i := 1371) (by decide +kernel) (by decide +kernel)
theorem wd_435 : (Jvm.Cond.methodLink "TopYardModel" (289 : Nat) ({ cls := "TopYardModel", name := "runsBout", desc := "(I)I" } : Jvm.MethodName)) ∈ TT := mt (i := 1359) (by decide +kernel) (by decide +kernel)
theorem wd_436 : (Jvm.Cond.instanceMethod ({ cls := "TopYardModel", name := "runsBout", desc := "(I)I" } : Jvm.MethodName)) ∈ TT := mt (i := 1361) (by decide +kernel) (by decide +kernel)
theorem wd_437 : (Jvm.Cond.code ({ cls := "TopYardModel", name := "runsBout", desc := "(I)I" } : Jvm.MethodName) prog_13_method_31_code (3 : Nat) (Option.some Jvm.ClassFile.FieldType.int)) ∈ TT := mt (i := 1362) (by decide +kernel) (by decide +kernel)
theorem wd_438 : (Jvm.Cond.methodLink "TopYardModel" (292 : Nat) ({ cls := "TopYardModel", name := "alone", desc := "()I" } : Jvm.MethodName)) ∈ TT := mt (i := 1399) (by decide +kernel) (by decide +kernel)
theorem wd_439 : (Jvm.Cond.instanceMethod ({ cls := "TopYardModel", name := "alone", desc := "()I" } : Jvm.MethodName)) ∈ TT := mt (i := 1401) (by decide +kernel) (by decide +kernel)
theorem wd_440 : (Jvm.Cond.code ({ cls := "TopYardModel", name := "alone", desc := "()I" } : Jvm.MethodName) prog_13_method_32_code (3 : Nat) (Option.some Jvm.ClassFile.FieldType.int)) ∈ TT := mt (i := 1402) (by decide +kernel) (by decide +kernel)
theorem wd_441 : (Jvm.Cond.methodLink "TopYardModel" (295 : Nat) ({ cls := "TopYardModel", name := "stateOf", desc := "(II)I" } : Jvm.MethodName)) ∈ TT := mt (i := 1411) (by decide +kernel) (by decide +kernel)
theorem wd_442 : (Jvm.Cond.instanceMethod ({ cls := "TopYardModel", name := "stateOf", desc := "(II)I" } : Jvm.MethodName)) ∈ TT := mt (i := 1413) (by decide +kernel) (by decide +kernel)
theorem wd_443 : (Jvm.Cond.code ({ cls := "TopYardModel", name := "stateOf", desc := "(II)I" } : Jvm.MethodName) prog_13_method_36_code (3 : Nat) (Option.some Jvm.ClassFile.FieldType.int)) ∈ TT := mt (i := 1414) (by decide +kernel) (by decide +kernel)
theorem wd_444 : (Jvm.Cond.methodLink "TopYardModel" (298 : Nat) ({ cls := "TopYardModel", name := "comesTo", desc := "(IIII)I" } : Jvm.MethodName)) ∈ TT := mt (i := 1423) (by decide +kernel) (by decide +kernel)
theorem wd_445 : (Jvm.Cond.instanceMethod ({ cls := "TopYardModel", name := "comesTo", desc := "(IIII)I" } : Jvm.MethodName)) ∈ TT := mt (i := 1425) (by decide +kernel) (by decide +kernel)
theorem wd_446 : (Jvm.Cond.code ({ cls := "TopYardModel", name := "comesTo", desc := "(IIII)I" } : Jvm.MethodName) prog_13_method_38_code (7 : Nat) (Option.some Jvm.ClassFile.FieldType.int)) ∈ TT := mt (i := 1426) (by decide +kernel) (by decide +kernel)
theorem wd_447 : (Jvm.Cond.methodLink "TopYardModel" (302 : Nat) ({ cls := "TopYardModel", name := "expectedOf", desc := "(II)I" } : Jvm.MethodName)) ∈ TT := mt (i := 1419) (by decide +kernel) (by decide +kernel)
theorem wd_448 : (Jvm.Cond.instanceMethod ({ cls := "TopYardModel", name := "expectedOf", desc := "(II)I" } : Jvm.MethodName)) ∈ TT := mt (i := 1421) (by decide +kernel) (by decide +kernel)
theorem wd_449 : (Jvm.Cond.code ({ cls := "TopYardModel", name := "expectedOf", desc := "(II)I" } : Jvm.MethodName) prog_13_method_39_code (3 : Nat) (Option.some Jvm.ClassFile.FieldType.int)) ∈ TT := mt (i := 1422) (by decide +kernel) (by decide +kernel)
theorem wd_450 : (Jvm.Cond.methodLink "TopYardModel" (311 : Nat) ({ cls := "TopYardModel", name := "isPay", desc := "(II)Z" } : Jvm.MethodName)) ∈ TT := mt (i := 1439) (by decide +kernel) (by decide +kernel)
theorem wd_451 : (Jvm.Cond.instanceMethod ({ cls := "TopYardModel", name := "isPay", desc := "(II)Z" } : Jvm.MethodName)) ∈ TT := mt (i := 1441) (by decide +kernel) (by decide +kernel)
theorem wd_452 : (Jvm.Cond.code ({ cls := "TopYardModel", name := "isPay", desc := "(II)Z" } : Jvm.MethodName) prog_13_method_43_code (3 : Nat) (Option.some Jvm.ClassFile.FieldType.boolean)) ∈ TT := mt (i := 1442) (by decide +kernel) (by decide +kernel)
theorem wd_453 : (Jvm.Cond.methodLink "TopYardModel" (317 : Nat) ({ cls := "TopYardModel", name := "det2", desc := "(IIII)J" } : Jvm.MethodName)) ∈ TT := mt (i := 1474) (by decide +kernel) (by decide +kernel)
theorem wd_454 : (Jvm.Cond.instanceMethod ({ cls := "TopYardModel", name := "det2", desc := "(IIII)J" } : Jvm.MethodName)) ∈ TT := mt (i := 1476) (by decide +kernel) (by decide +kernel)
theorem wd_455 : (Jvm.Cond.code ({ cls := "TopYardModel", name := "det2", desc := "(IIII)J" } : Jvm.MethodName) prog_13_method_48_code (5 : Nat) (Option.some Jvm.ClassFile.FieldType.long)) ∈ TT := mt (i := 1477) (by decide +kernel) (by decide +kernel)
theorem wd_456 : (Jvm.Cond.methodLink "TopYardModel" (321 : Nat) ({ cls := "TopYardModel", name := "without", desc := "(II)I" } : Jvm.MethodName)) ∈ TT := mt (i := 1471) (by decide +kernel) (by decide +kernel)
theorem wd_457 : (Jvm.Cond.static ({ cls := "TopYardModel", name := "without", desc := "(II)I" } : Jvm.MethodName)) ∈ TT := mt (i := 1472) (by decide +kernel) (by decide +kernel)
theorem wd_458 : (Jvm.Cond.code ({ cls := "TopYardModel", name := "without", desc := "(II)I" } : Jvm.MethodName) prog_13_method_50_code (2 : Nat) (Option.some Jvm.ClassFile.FieldType.int)) ∈ TT := mt (i := 1473) (by decide +kernel) (by decide +kernel)
theorem wd_459 : (Jvm.Cond.methodLink "TopYardModel" (324 : Nat) ({ cls := "TopYardModel", name := "det3", desc := "(IIIIII)J" } : Jvm.MethodName)) ∈ TT := mt (i := 1478) (by decide +kernel) (by decide +kernel)
theorem wd_460 : (Jvm.Cond.instanceMethod ({ cls := "TopYardModel", name := "det3", desc := "(IIIIII)J" } : Jvm.MethodName)) ∈ TT := mt (i := 1480) (by decide +kernel) (by decide +kernel)
theorem wd_461 : (Jvm.Cond.code ({ cls := "TopYardModel", name := "det3", desc := "(IIIIII)J" } : Jvm.MethodName) prog_13_method_49_code (7 : Nat) (Option.some Jvm.ClassFile.FieldType.long)) ∈ TT := mt (i := 1481) (by decide +kernel) (by decide +kernel)
theorem wd_462 : (Jvm.Cond.methodLink "TopYardModel" (335 : Nat) ({ cls := "TopYardModel", name := "minor", desc := "(III)J" } : Jvm.MethodName)) ∈ TT := mt (i := 1467) (by decide +kernel) (by decide +kernel)
theorem wd_463 : (Jvm.Cond.instanceMethod ({ cls := "TopYardModel", name := "minor", desc := "(III)J" } : Jvm.MethodName)) ∈ TT := mt (i := 1469) (by decide +kernel) (by decide +kernel)
theorem wd_464 : (Jvm.Cond.code ({ cls := "TopYardModel", name := "minor", desc := "(III)J" } : Jvm.MethodName) prog_13_method_51_code (8 : Nat) (Option.some Jvm.ClassFile.FieldType.long)) ∈ TT := mt (i := 1470) (by decide +kernel) (by decide +kernel)
theorem wd_465 : (Jvm.Cond.methodLink "TopYardModel" (339 : Nat) ({ cls := "TopYardModel", name := "ones", desc := "(I)I" } : Jvm.MethodName)) ∈ TT := mt (i := 1460) (by decide +kernel) (by decide +kernel)
theorem wd_466 : (Jvm.Cond.static ({ cls := "TopYardModel", name := "ones", desc := "(I)I" } : Jvm.MethodName)) ∈ TT := mt (i := 1461) (by decide +kernel) (by decide +kernel)
theorem wd_467 : (Jvm.Cond.code ({ cls := "TopYardModel", name := "ones", desc := "(I)I" } : Jvm.MethodName) prog_13_method_47_code (3 : Nat) (Option.some Jvm.ClassFile.FieldType.int)) ∈ TT := mt (i := 1462) (by decide +kernel) (by decide +kernel)
theorem wd_468 : (Jvm.Cond.methodLink "TopYardModel" (342 : Nat) ({ cls := "TopYardModel", name := "takesPart", desc := "(II)V" } : Jvm.MethodName)) ∈ TT := mt (i := 1463) (by decide +kernel) (by decide +kernel)
theorem wd_469 : (Jvm.Cond.instanceMethod ({ cls := "TopYardModel", name := "takesPart", desc := "(II)V" } : Jvm.MethodName)) ∈ TT := mt (i := 1465) (by decide +kernel) (by decide +kernel)
theorem wd_470 : (Jvm.Cond.code ({ cls := "TopYardModel", name := "takesPart", desc := "(II)V" } : Jvm.MethodName) prog_13_method_52_code (8 : Nat) (Option.none : Option Jvm.ClassFile.FieldType)) ∈ TT := mt (i := 1466) (by decide +kernel) (by decide +kernel)
theorem wd_471 : (Jvm.Cond.methodLink "TopYardModel" (345 : Nat) ({ cls := "TopYardModel", name := "isMix", desc := "()Z" } : Jvm.MethodName)) ∈ TT := mt (i := 1482) (by decide +kernel) (by decide +kernel)
theorem wd_472 : (Jvm.Cond.instanceMethod ({ cls := "TopYardModel", name := "isMix", desc := "()Z" } : Jvm.MethodName)) ∈ TT := mt (i := 1484) (by decide +kernel) (by decide +kernel)
theorem wd_473 : (Jvm.Cond.code ({ cls := "TopYardModel", name := "isMix", desc := "()Z" } : Jvm.MethodName) prog_13_method_53_code (6 : Nat) (Option.some Jvm.ClassFile.FieldType.boolean)) ∈ TT := mt (i := 1485) (by decide +kernel) (by decide +kernel)
theorem wd_474 : (Jvm.Cond.methodLink "TopYardModel" (349 : Nat) ({ cls := "TopYardModel", name := "findMix", desc := "()Z" } : Jvm.MethodName)) ∈ TT := mt (i := 1456) (by decide +kernel) (by decide +kernel)
theorem wd_475 : (Jvm.Cond.instanceMethod ({ cls := "TopYardModel", name := "findMix", desc := "()Z" } : Jvm.MethodName)) ∈ TT := mt (i := 1458) (by decide +kernel) (by decide +kernel)
theorem wd_476 : (Jvm.Cond.code ({ cls := "TopYardModel", name := "findMix", desc := "()Z" } : Jvm.MethodName) prog_13_method_54_code (4 : Nat) (Option.some Jvm.ClassFile.FieldType.boolean)) ∈ TT := mt (i := 1459) (by decide +kernel) (by decide +kernel)
theorem wd_477 : (Jvm.Cond.methodLink "TopYardModel" (359 : Nat) ({ cls := "TopYardModel", name := "isSheet", desc := "(I)Z" } : Jvm.MethodName)) ∈ TT := mt (i := 1504) (by decide +kernel) (by decide +kernel)
theorem wd_478 : (Jvm.Cond.static ({ cls := "TopYardModel", name := "isSheet", desc := "(I)Z" } : Jvm.MethodName)) ∈ TT := mt (i := 1505) (by decide +kernel) (by decide +kernel)
theorem wd_479 : (Jvm.Cond.code ({ cls := "TopYardModel", name := "isSheet", desc := "(I)Z" } : Jvm.MethodName) prog_13_method_84_code (1 : Nat) (Option.some Jvm.ClassFile.FieldType.boolean)) ∈ TT := mt (i := 1506) (by decide +kernel) (by decide +kernel)
theorem wd_480 : (Jvm.Cond.methodLink "TopYardModel" (362 : Nat) ({ cls := "TopYardModel", name := "met", desc := "(I)I" } : Jvm.MethodName)) ∈ TT := mt (i := 1507) (by decide +kernel) (by decide +kernel)
theorem wd_481 : (Jvm.Cond.instanceMethod ({ cls := "TopYardModel", name := "met", desc := "(I)I" } : Jvm.MethodName)) ∈ TT := mt (i := 1509) (by decide +kernel) (by decide +kernel)
theorem wd_482 : (Jvm.Cond.code ({ cls := "TopYardModel", name := "met", desc := "(I)I" } : Jvm.MethodName) prog_13_method_83_code (2 : Nat) (Option.some Jvm.ClassFile.FieldType.int)) ∈ TT := mt (i := 1510) (by decide +kernel) (by decide +kernel)
theorem wd_483 : (Jvm.Cond.methodLink "TopYardModel" (365 : Nat) ({ cls := "TopYardModel", name := "was", desc := "(III)I" } : Jvm.MethodName)) ∈ TT := mt (i := 1511) (by decide +kernel) (by decide +kernel)
theorem wd_484 : (Jvm.Cond.instanceMethod ({ cls := "TopYardModel", name := "was", desc := "(III)I" } : Jvm.MethodName)) ∈ TT := mt (i := 1492) (by decide +kernel) (by decide +kernel)
theorem wd_485 : (Jvm.Cond.selects "TopYardModel" ({ cls := "TopYardModel", name := "was", desc := "(III)I" } : Jvm.MethodName) ({ cls := "TopYardModel", name := "was", desc := "(III)I" } : Jvm.MethodName)) ∈ TT := mt (i := 1493) (by decide +kernel) (by decide +kernel)
theorem wd_486 : (Jvm.Cond.code ({ cls := "TopYardModel", name := "was", desc := "(III)I" } : Jvm.MethodName) prog_13_method_57_code (4 : Nat) (Option.some Jvm.ClassFile.FieldType.int)) ∈ TT := mt (i := 1494) (by decide +kernel) (by decide +kernel)
theorem wd_487 : (Jvm.Cond.methodLink "TopYardModel" (375 : Nat) ({ cls := "TopYardModel", name := "isOf", desc := "(II)Z" } : Jvm.MethodName)) ∈ TT := mt (i := 1520) (by decide +kernel) (by decide +kernel)
theorem wd_488 : (Jvm.Cond.instanceMethod ({ cls := "TopYardModel", name := "isOf", desc := "(II)Z" } : Jvm.MethodName)) ∈ TT := mt (i := 1522) (by decide +kernel) (by decide +kernel)
theorem wd_489 : (Jvm.Cond.code ({ cls := "TopYardModel", name := "isOf", desc := "(II)Z" } : Jvm.MethodName) prog_13_method_60_code (3 : Nat) (Option.some Jvm.ClassFile.FieldType.boolean)) ∈ TT := mt (i := 1523) (by decide +kernel) (by decide +kernel)
theorem wd_490 : (Jvm.Cond.methodLink "TopYardModel" (378 : Nat) ({ cls := "TopYardModel", name := "findWorn", desc := "(I)V" } : Jvm.MethodName)) ∈ TT := mt (i := 1516) (by decide +kernel) (by decide +kernel)
theorem wd_491 : (Jvm.Cond.instanceMethod ({ cls := "TopYardModel", name := "findWorn", desc := "(I)V" } : Jvm.MethodName)) ∈ TT := mt (i := 1518) (by decide +kernel) (by decide +kernel)
theorem wd_492 : (Jvm.Cond.code ({ cls := "TopYardModel", name := "findWorn", desc := "(I)V" } : Jvm.MethodName) prog_13_method_61_code (5 : Nat) (Option.none : Option Jvm.ClassFile.FieldType)) ∈ TT := mt (i := 1519) (by decide +kernel) (by decide +kernel)
theorem wd_493 : (Jvm.Cond.methodLink "TopYardModel" (382 : Nat) ({ cls := "TopYardModel", name := "doubt", desc := "()I" } : Jvm.MethodName)) ∈ TT := mt (i := 1524) (by decide +kernel) (by decide +kernel)
theorem wd_494 : (Jvm.Cond.instanceMethod ({ cls := "TopYardModel", name := "doubt", desc := "()I" } : Jvm.MethodName)) ∈ TT := mt (i := 1526) (by decide +kernel) (by decide +kernel)
theorem wd_495 : (Jvm.Cond.code ({ cls := "TopYardModel", name := "doubt", desc := "()I" } : Jvm.MethodName) prog_13_method_62_code (6 : Nat) (Option.some Jvm.ClassFile.FieldType.int)) ∈ TT := mt (i := 1527) (by decide +kernel) (by decide +kernel)
theorem wd_496 : (Jvm.Cond.methodLink "TopYardModel" (397 : Nat) ({ cls := "TopYardModel", name := "ruleOf", desc := "(I)I" } : Jvm.MethodName)) ∈ TT := mt (i := 1553) (by decide +kernel) (by decide +kernel)
theorem wd_497 : (Jvm.Cond.static ({ cls := "TopYardModel", name := "ruleOf", desc := "(I)I" } : Jvm.MethodName)) ∈ TT := mt (i := 1554) (by decide +kernel) (by decide +kernel)
theorem wd_498 : (Jvm.Cond.code ({ cls := "TopYardModel", name := "ruleOf", desc := "(I)I" } : Jvm.MethodName) prog_13_method_68_code (1 : Nat) (Option.some Jvm.ClassFile.FieldType.int)) ∈ TT := mt (i := 1555) (by decide +kernel) (by decide +kernel)
theorem wd_499 : (Jvm.Cond.methodLink "TopYardModel" (400 : Nat) ({ cls := "TopYardModel", name := "isFigure", desc := "(I)Z" } : Jvm.MethodName)) ∈ TT := mt (i := 1556) (by decide +kernel) (by decide +kernel)
theorem wd_500 : (Jvm.Cond.instanceMethod ({ cls := "TopYardModel", name := "isFigure", desc := "(I)Z" } : Jvm.MethodName)) ∈ TT := mt (i := 1558) (by decide +kernel) (by decide +kernel)
theorem wd_501 : (Jvm.Cond.code ({ cls := "TopYardModel", name := "isFigure", desc := "(I)Z" } : Jvm.MethodName) prog_13_method_70_code (2 : Nat) (Option.some Jvm.ClassFile.FieldType.boolean)) ∈ TT := mt (i := 1559) (by decide +kernel) (by decide +kernel)
theorem wd_502 : (Jvm.Cond.methodLink "TopYardModel" (403 : Nat) ({ cls := "TopYardModel", name := "isRule", desc := "(II)Z" } : Jvm.MethodName)) ∈ TT := mt (i := 1562) (by decide +kernel) (by decide +kernel)
theorem wd_503 : (Jvm.Cond.static ({ cls := "TopYardModel", name := "isRule", desc := "(II)Z" } : Jvm.MethodName)) ∈ TT := mt (i := 1563) (by decide +kernel) (by decide +kernel)
theorem wd_504 : (Jvm.Cond.code ({ cls := "TopYardModel", name := "isRule", desc := "(II)Z" } : Jvm.MethodName) prog_13_method_69_code (2 : Nat) (Option.some Jvm.ClassFile.FieldType.boolean)) ∈ TT := mt (i := 1564) (by decide +kernel) (by decide +kernel)
theorem wd_505 : (Jvm.Cond.methodLink "TopYardModel" (406 : Nat) ({ cls := "TopYardModel", name := "reads", desc := "()V" } : Jvm.MethodName)) ∈ TT := mt (i := 1549) (by decide +kernel) (by decide +kernel)
theorem wd_506 : (Jvm.Cond.instanceMethod ({ cls := "TopYardModel", name := "reads", desc := "()V" } : Jvm.MethodName)) ∈ TT := mt (i := 1551) (by decide +kernel) (by decide +kernel)
theorem wd_507 : (Jvm.Cond.code ({ cls := "TopYardModel", name := "reads", desc := "()V" } : Jvm.MethodName) prog_13_method_71_code (7 : Nat) (Option.none : Option Jvm.ClassFile.FieldType)) ∈ TT := mt (i := 1552) (by decide +kernel) (by decide +kernel)
theorem wd_508 : (Jvm.Cond.methodLink "TopYardModel" (409 : Nat) ({ cls := "TopYardModel", name := "topsOf", desc := "(I)I" } : Jvm.MethodName)) ∈ TT := mt (i := 1569) (by decide +kernel) (by decide +kernel)
theorem wd_509 : (Jvm.Cond.instanceMethod ({ cls := "TopYardModel", name := "topsOf", desc := "(I)I" } : Jvm.MethodName)) ∈ TT := mt (i := 1571) (by decide +kernel) (by decide +kernel)
theorem wd_510 : (Jvm.Cond.code ({ cls := "TopYardModel", name := "topsOf", desc := "(I)I" } : Jvm.MethodName) prog_13_method_73_code (4 : Nat) (Option.some Jvm.ClassFile.FieldType.int)) ∈ TT := mt (i := 1572) (by decide +kernel) (by decide +kernel)
theorem wd_511 : (Jvm.Cond.methodLink "TopYardModel" (412 : Nat) ({ cls := "TopYardModel", name := "topOf", desc := "(II)I" } : Jvm.MethodName)) ∈ TT := mt (i := 1573) (by decide +kernel) (by decide +kernel)
theorem wd_512 : (Jvm.Cond.instanceMethod ({ cls := "TopYardModel", name := "topOf", desc := "(II)I" } : Jvm.MethodName)) ∈ TT := mt (i := 1575) (by decide +kernel) (by decide +kernel)
theorem wd_513 : (Jvm.Cond.code ({ cls := "TopYardModel", name := "topOf", desc := "(II)I" } : Jvm.MethodName) prog_13_method_74_code (5 : Nat) (Option.some Jvm.ClassFile.FieldType.int)) ∈ TT := mt (i := 1576) (by decide +kernel) (by decide +kernel)
theorem wd_514 : (Jvm.Cond.methodLink "TopYardModel" (415 : Nat) ({ cls := "TopYardModel", name := "first", desc := "(I)I" } : Jvm.MethodName)) ∈ TT := mt (i := 1593) (by decide +kernel) (by decide +kernel)
theorem wd_515 : (Jvm.Cond.static ({ cls := "TopYardModel", name := "first", desc := "(I)I" } : Jvm.MethodName)) ∈ TT := mt (i := 1594) (by decide +kernel) (by decide +kernel)
theorem wd_516 : (Jvm.Cond.code ({ cls := "TopYardModel", name := "first", desc := "(I)I" } : Jvm.MethodName) prog_13_method_78_code (2 : Nat) (Option.some Jvm.ClassFile.FieldType.int)) ∈ TT := mt (i := 1595) (by decide +kernel) (by decide +kernel)
theorem wd_517 : (Jvm.Cond.methodLink "TopYardModel" (418 : Nat) ({ cls := "TopYardModel", name := "costs", desc := "(II)I" } : Jvm.MethodName)) ∈ TT := mt (i := 1596) (by decide +kernel) (by decide +kernel)
theorem wd_518 : (Jvm.Cond.instanceMethod ({ cls := "TopYardModel", name := "costs", desc := "(II)I" } : Jvm.MethodName)) ∈ TT := mt (i := 1598) (by decide +kernel) (by decide +kernel)
theorem wd_519 : (Jvm.Cond.code ({ cls := "TopYardModel", name := "costs", desc := "(II)I" } : Jvm.MethodName) prog_13_method_79_code (5 : Nat) (Option.some Jvm.ClassFile.FieldType.int)) ∈ TT := mt (i := 1599) (by decide +kernel) (by decide +kernel)
theorem wd_520 : (Jvm.Cond.methodLink "TopYardModel" (421 : Nat) ({ cls := "TopYardModel", name := "findPairs", desc := "()V" } : Jvm.MethodName)) ∈ TT := mt (i := 1589) (by decide +kernel) (by decide +kernel)
theorem wd_521 : (Jvm.Cond.instanceMethod ({ cls := "TopYardModel", name := "findPairs", desc := "()V" } : Jvm.MethodName)) ∈ TT := mt (i := 1591) (by decide +kernel) (by decide +kernel)
theorem wd_522 : (Jvm.Cond.code ({ cls := "TopYardModel", name := "findPairs", desc := "()V" } : Jvm.MethodName) prog_13_method_80_code (3 : Nat) (Option.none : Option Jvm.ClassFile.FieldType)) ∈ TT := mt (i := 1592) (by decide +kernel) (by decide +kernel)
theorem wd_523 : (Jvm.Cond.methodLink "TopYardModel" (429 : Nat) ({ cls := "TopYardModel", name := "lacks", desc := "(III)I" } : Jvm.MethodName)) ∈ TT := mt (i := 1617) (by decide +kernel) (by decide +kernel)
theorem wd_524 : (Jvm.Cond.instanceMethod ({ cls := "TopYardModel", name := "lacks", desc := "(III)I" } : Jvm.MethodName)) ∈ TT := mt (i := 1619) (by decide +kernel) (by decide +kernel)
theorem wd_525 : (Jvm.Cond.code ({ cls := "TopYardModel", name := "lacks", desc := "(III)I" } : Jvm.MethodName) prog_13_method_87_code (4 : Nat) (Option.some Jvm.ClassFile.FieldType.int)) ∈ TT := mt (i := 1620) (by decide +kernel) (by decide +kernel)
theorem wd_526 : (Jvm.Cond.methodLink "TopYardModel" (432 : Nat) ({ cls := "TopYardModel", name := "cut", desc := "(II)I" } : Jvm.MethodName)) ∈ TT := mt (i := 1621) (by decide +kernel) (by decide +kernel)
theorem wd_527 : (Jvm.Cond.static ({ cls := "TopYardModel", name := "cut", desc := "(II)I" } : Jvm.MethodName)) ∈ TT := mt (i := 1622) (by decide +kernel) (by decide +kernel)
theorem wd_528 : (Jvm.Cond.code ({ cls := "TopYardModel", name := "cut", desc := "(II)I" } : Jvm.MethodName) prog_13_method_88_code (2 : Nat) (Option.some Jvm.ClassFile.FieldType.int)) ∈ TT := mt (i := 1623) (by decide +kernel) (by decide +kernel)
theorem wd_529 : (Jvm.Cond.methodLink "TopYardModel" (437 : Nat) ({ cls := "TopYardModel", name := "count", desc := "(I)I" } : Jvm.MethodName)) ∈ TT := mt (i := 1645) (by decide +kernel) (by decide +kernel)
theorem wd_530 : (Jvm.Cond.instanceMethod ({ cls := "TopYardModel", name := "count", desc := "(I)I" } : Jvm.MethodName)) ∈ TT := mt (i := 1637) (by decide +kernel) (by decide +kernel)
theorem wd_531 : (Jvm.Cond.selects "TopYardModel" ({ cls := "TopYardModel", name := "count", desc := "(I)I" } : Jvm.MethodName) ({ cls := "TopYardModel", name := "count", desc := "(I)I" } : Jvm.MethodName)) ∈ TT := mt (i := 1638) (by decide +kernel) (by decide +kernel)
theorem wd_532 : (Jvm.Cond.code ({ cls := "TopYardModel", name := "count", desc := "(I)I" } : Jvm.MethodName) prog_13_method_93_code (2 : Nat) (Option.some Jvm.ClassFile.FieldType.int)) ∈ TT := mt (i := 1639) (by decide +kernel) (by decide +kernel)
theorem wd_533 : (Jvm.Cond.methodLink "TopYardModel" (440 : Nat) ({ cls := "TopYardModel", name := "run", desc := "()I" } : Jvm.MethodName)) ∈ TT := mt (i := 1646) (by decide +kernel) (by decide +kernel)
theorem wd_534 : (Jvm.Cond.instanceMethod ({ cls := "TopYardModel", name := "run", desc := "()I" } : Jvm.MethodName)) ∈ TT := mt (i := 1356) (by decide +kernel) (by decide +kernel)
theorem wd_535 : (Jvm.Cond.selects "TopYardModel" ({ cls := "TopYardModel", name := "run", desc := "()I" } : Jvm.MethodName) ({ cls := "TopYardModel", name := "run", desc := "()I" } : Jvm.MethodName)) ∈ TT := mt (i := 1357) (by decide +kernel) (by decide +kernel)
theorem wd_536 : (Jvm.Cond.code ({ cls := "TopYardModel", name := "run", desc := "()I" } : Jvm.MethodName) prog_13_method_33_code (1 : Nat) (Option.some Jvm.ClassFile.FieldType.int)) ∈ TT := mt (i := 1358) (by decide +kernel) (by decide +kernel)
theorem wd_537 : (Jvm.Cond.methodLink "TopYardModel" (443 : Nat) ({ cls := "TopYardModel", name := "winner", desc := "()I" } : Jvm.MethodName)) ∈ TT := mt (i := 1647) (by decide +kernel) (by decide +kernel)
theorem wd_538 : (Jvm.Cond.instanceMethod ({ cls := "TopYardModel", name := "winner", desc := "()I" } : Jvm.MethodName)) ∈ TT := mt (i := 1396) (by decide +kernel) (by decide +kernel)
theorem wd_539 : (Jvm.Cond.selects "TopYardModel" ({ cls := "TopYardModel", name := "winner", desc := "()I" } : Jvm.MethodName) ({ cls := "TopYardModel", name := "winner", desc := "()I" } : Jvm.MethodName)) ∈ TT := mt (i := 1397) (by decide +kernel) (by decide +kernel)
theorem wd_540 : (Jvm.Cond.code ({ cls := "TopYardModel", name := "winner", desc := "()I" } : Jvm.MethodName) prog_13_method_34_code (2 : Nat) (Option.some Jvm.ClassFile.FieldType.int)) ∈ TT := mt (i := 1398) (by decide +kernel) (by decide +kernel)
theorem wd_541 : (Jvm.Cond.methodLink "TopYardModel" (446 : Nat) ({ cls := "TopYardModel", name := "value", desc := "()I" } : Jvm.MethodName)) ∈ TT := mt (i := 1648) (by decide +kernel) (by decide +kernel)
theorem wd_542 : (Jvm.Cond.instanceMethod ({ cls := "TopYardModel", name := "value", desc := "()I" } : Jvm.MethodName)) ∈ TT := mt (i := 1453) (by decide +kernel) (by decide +kernel)
theorem wd_543 : (Jvm.Cond.selects "TopYardModel" ({ cls := "TopYardModel", name := "value", desc := "()I" } : Jvm.MethodName) ({ cls := "TopYardModel", name := "value", desc := "()I" } : Jvm.MethodName)) ∈ TT := mt (i := 1454) (by decide +kernel) (by decide +kernel)
theorem wd_544 : (Jvm.Cond.code ({ cls := "TopYardModel", name := "value", desc := "()I" } : Jvm.MethodName) prog_13_method_55_code (5 : Nat) (Option.some Jvm.ClassFile.FieldType.int)) ∈ TT := mt (i := 1455) (by decide +kernel) (by decide +kernel)
theorem wd_545 : (Jvm.Cond.methodLink "TopYard$Past" (28 : Nat) ({ cls := "TopYard$Past", name := "speaks", desc := "(II)Z" } : Jvm.MethodName)) ∈ TT := mt (i := 797) (by decide +kernel) (by decide +kernel)
theorem wd_546 : (Jvm.Cond.instanceMethod ({ cls := "TopYard$Past", name := "speaks", desc := "(II)Z" } : Jvm.MethodName)) ∈ TT := mt (i := 786) (by decide +kernel) (by decide +kernel)
theorem wd_547 : (Jvm.Cond.selects "TopYard$Past" ({ cls := "TopYard$Past", name := "speaks", desc := "(II)Z" } : Jvm.MethodName) ({ cls := "TopYard$Past", name := "speaks", desc := "(II)Z" } : Jvm.MethodName)) ∈ TT := mt (i := 787) (by decide +kernel) (by decide +kernel)
theorem wd_548 : (Jvm.Cond.initialized "TopYard$Past") ∈ TT := mt (i := 6) (by decide +kernel) (by decide +kernel)
theorem wd_549 : (Jvm.Cond.code ({ cls := "TopYard$Past", name := "speaks", desc := "(II)Z" } : Jvm.MethodName) prog_8_method_3_code (3 : Nat) (Option.some Jvm.ClassFile.FieldType.boolean)) ∈ TT := mt (i := 788) (by decide +kernel) (by decide +kernel)
theorem wd_550 : (Jvm.Cond.methodLink "TopYard$Past" (32 : Nat) ({ cls := "TopYard$Past", name := "sided", desc := "(III)I" } : Jvm.MethodName)) ∈ TT := mt (i := 798) (by decide +kernel) (by decide +kernel)
theorem wd_551 : (Jvm.Cond.instanceMethod ({ cls := "TopYard$Past", name := "sided", desc := "(III)I" } : Jvm.MethodName)) ∈ TT := mt (i := 800) (by decide +kernel) (by decide +kernel)
theorem wd_552 : (Jvm.Cond.code ({ cls := "TopYard$Past", name := "sided", desc := "(III)I" } : Jvm.MethodName) prog_8_method_9_code (4 : Nat) (Option.some Jvm.ClassFile.FieldType.int)) ∈ TT := mt (i := 801) (by decide +kernel) (by decide +kernel)
theorem wd_553 : (Jvm.Cond.methodLink "TopYard$Past" (36 : Nat) ({ cls := "TopYard$Past", name := "chances", desc := "(I)I" } : Jvm.MethodName)) ∈ TT := mt (i := 810) (by decide +kernel) (by decide +kernel)
theorem wd_554 : (Jvm.Cond.instanceMethod ({ cls := "TopYard$Past", name := "chances", desc := "(I)I" } : Jvm.MethodName)) ∈ TT := mt (i := 803) (by decide +kernel) (by decide +kernel)
theorem wd_555 : (Jvm.Cond.selects "TopYard$Past" ({ cls := "TopYard$Past", name := "chances", desc := "(I)I" } : Jvm.MethodName) ({ cls := "TopYard$Past", name := "chances", desc := "(I)I" } : Jvm.MethodName)) ∈ TT := mt (i := 804) (by decide +kernel) (by decide +kernel)
theorem wd_556 : (Jvm.Cond.code ({ cls := "TopYard$Past", name := "chances", desc := "(I)I" } : Jvm.MethodName) prog_8_method_6_code (4 : Nat) (Option.some Jvm.ClassFile.FieldType.int)) ∈ TT := mt (i := 805) (by decide +kernel) (by decide +kernel)
theorem wd_557 : (Jvm.Cond.methodLink "TopYard$Past" (40 : Nat) ({ cls := "TopYard$Past", name := "surprises", desc := "(I)I" } : Jvm.MethodName)) ∈ TT := mt (i := 811) (by decide +kernel) (by decide +kernel)
theorem wd_558 : (Jvm.Cond.instanceMethod ({ cls := "TopYard$Past", name := "surprises", desc := "(I)I" } : Jvm.MethodName)) ∈ TT := mt (i := 794) (by decide +kernel) (by decide +kernel)
theorem wd_559 : (Jvm.Cond.selects "TopYard$Past" ({ cls := "TopYard$Past", name := "surprises", desc := "(I)I" } : Jvm.MethodName) ({ cls := "TopYard$Past", name := "surprises", desc := "(I)I" } : Jvm.MethodName)) ∈ TT := mt (i := 795) (by decide +kernel) (by decide +kernel)
theorem wd_560 : (Jvm.Cond.code ({ cls := "TopYard$Past", name := "surprises", desc := "(I)I" } : Jvm.MethodName) prog_8_method_5_code (4 : Nat) (Option.some Jvm.ClassFile.FieldType.int)) ∈ TT := mt (i := 796) (by decide +kernel) (by decide +kernel)
theorem wd_561 : (Jvm.Cond.methodLink "TopYard$Pack" (25 : Nat) ({ cls := "java/lang/Math", name := "min", desc := "(II)I" } : Jvm.MethodName)) ∈ TT := mt (i := 961) (by decide +kernel) (by decide +kernel)
theorem wd_562 : (Jvm.Cond.static ({ cls := "java/lang/Math", name := "min", desc := "(II)I" } : Jvm.MethodName)) ∈ TT := mt (i := 519) (by decide +kernel) (by decide +kernel)
theorem wd_563 : (Jvm.Cond.code ({ cls := "java/lang/Math", name := "min", desc := "(II)I" } : Jvm.MethodName) prog_15_method_69_code (2 : Nat) (Option.some Jvm.ClassFile.FieldType.int)) ∈ TT := mt (i := 520) (by decide +kernel) (by decide +kernel)
theorem wd_564 : (Jvm.Cond.methodLink "TopYard$Pack" (31 : Nat) ({ cls := "java/lang/Math", name := "max", desc := "(II)I" } : Jvm.MethodName)) ∈ TT := mt (i := 962) (by decide +kernel) (by decide +kernel)
theorem wd_565 : (Jvm.Cond.methodLink "TopYard$Pack" (35 : Nat) ({ cls := "java/util/Arrays", name := "fill", desc := "([II)V" } : Jvm.MethodName)) ∈ TT := mt (i := 964) (by decide +kernel) (by decide +kernel)
theorem wd_566 : (Jvm.Cond.methodLink "TopYard$Sheet" (26 : Nat) ({ cls := "java/lang/Math", name := "min", desc := "(II)I" } : Jvm.MethodName)) ∈ TT := mt (i := 988) (by decide +kernel) (by decide +kernel)
theorem wd_567 : (Jvm.Cond.methodLink "TopYard$Sheet" (32 : Nat) ({ cls := "java/lang/Math", name := "max", desc := "(II)I" } : Jvm.MethodName)) ∈ TT := mt (i := 989) (by decide +kernel) (by decide +kernel)
theorem wd_568 : (Jvm.Cond.methodLink "TopYard$Sheet" (35 : Nat) ({ cls := "java/util/Arrays", name := "fill", desc := "([II)V" } : Jvm.MethodName)) ∈ TT := mt (i := 990) (by decide +kernel) (by decide +kernel)
theorem wd_569 : (Jvm.Cond.methodLink "TopYard$Sheet" (41 : Nat) ({ cls := "TopYard$Sheet", name := "narrowed", desc := "(I)I" } : Jvm.MethodName)) ∈ TT := mt (i := 1007) (by decide +kernel) (by decide +kernel)
theorem wd_570 : (Jvm.Cond.instanceMethod ({ cls := "TopYard$Sheet", name := "narrowed", desc := "(I)I" } : Jvm.MethodName)) ∈ TT := mt (i := 1009) (by decide +kernel) (by decide +kernel)
theorem wd_571 : (Jvm.Cond.initialized "TopYard$Sheet") ∈ TT := mt (i := 10) (by decide +kernel) (by decide +kernel)
theorem wd_572 : (Jvm.Cond.code ({ cls := "TopYard$Sheet", name := "narrowed", desc := "(I)I" } : Jvm.MethodName) prog_9_method_8_code (2 : Nat) (Option.some Jvm.ClassFile.FieldType.int)) ∈ TT := mt (i := 1010) (by decide +kernel) (by decide +kernel)
theorem wd_573 : (Jvm.Cond.methodLink "TopYard$Spinner" (105 : Nat) ({ cls := "TopYard$Bowl", name := "slopeAlongX", desc := "(II)I" } : Jvm.MethodName)) ∈ TT := mt (i := 554) (by decide +kernel) (by decide +kernel)
theorem wd_574 : (Jvm.Cond.instanceMethod ({ cls := "TopYard$Bowl", name := "slopeAlongX", desc := "(II)I" } : Jvm.MethodName)) ∈ TT := mt (i := 449) (by decide +kernel) (by decide +kernel)
theorem wd_575 : (Jvm.Cond.selects "TopYard$Bowl" ({ cls := "TopYard$Bowl", name := "slopeAlongX", desc := "(II)I" } : Jvm.MethodName) ({ cls := "TopYard$Bowl", name := "slopeAlongX", desc := "(II)I" } : Jvm.MethodName)) ∈ TT := mt (i := 450) (by decide +kernel) (by decide +kernel)
theorem wd_576 : (Jvm.Cond.code ({ cls := "TopYard$Bowl", name := "slopeAlongX", desc := "(II)I" } : Jvm.MethodName) prog_3_method_6_code (3 : Nat) (Option.some Jvm.ClassFile.FieldType.int)) ∈ TT := mt (i := 451) (by decide +kernel) (by decide +kernel)
theorem wd_577 : (Jvm.Cond.methodLink "TopYard$Spinner" (110 : Nat) ({ cls := "TopYard$Bowl", name := "slopeAlongY", desc := "(II)I" } : Jvm.MethodName)) ∈ TT := mt (i := 555) (by decide +kernel) (by decide +kernel)
theorem wd_578 : (Jvm.Cond.instanceMethod ({ cls := "TopYard$Bowl", name := "slopeAlongY", desc := "(II)I" } : Jvm.MethodName)) ∈ TT := mt (i := 454) (by decide +kernel) (by decide +kernel)
theorem wd_579 : (Jvm.Cond.selects "TopYard$Bowl" ({ cls := "TopYard$Bowl", name := "slopeAlongY", desc := "(II)I" } : Jvm.MethodName) ({ cls := "TopYard$Bowl", name := "slopeAlongY", desc := "(II)I" } : Jvm.MethodName)) ∈ TT := mt (i := 455) (by decide +kernel) (by decide +kernel)
theorem wd_580 : (Jvm.Cond.code ({ cls := "TopYard$Bowl", name := "slopeAlongY", desc := "(II)I" } : Jvm.MethodName) prog_3_method_7_code (3 : Nat) (Option.some Jvm.ClassFile.FieldType.int)) ∈ TT := mt (i := 456) (by decide +kernel) (by decide +kernel)
theorem wd_581 : (Jvm.Cond.methodLink "TopYard$Spinner" (113 : Nat) ({ cls := "java/lang/Math", name := "floorMod", desc := "(II)I" } : Jvm.MethodName)) ∈ TT := mt (i := 556) (by decide +kernel) (by decide +kernel)
theorem wd_582 : (Jvm.Cond.static ({ cls := "java/lang/Math", name := "floorMod", desc := "(II)I" } : Jvm.MethodName)) ∈ TT := mt (i := 557) (by decide +kernel) (by decide +kernel)
theorem wd_583 : (Jvm.Cond.code ({ cls := "java/lang/Math", name := "floorMod", desc := "(II)I" } : Jvm.MethodName) prog_15_method_50_code (3 : Nat) (Option.some Jvm.ClassFile.FieldType.int)) ∈ TT := mt (i := 558) (by decide +kernel) (by decide +kernel)
theorem wd_584 : (Jvm.Cond.methodLink "TopYard$Spinner" (118 : Nat) ({ cls := "TopYard$Spinner", name := "isWithin", desc := "(I)Z" } : Jvm.MethodName)) ∈ TT := mt (i := 568) (by decide +kernel) (by decide +kernel)
theorem wd_585 : (Jvm.Cond.instanceMethod ({ cls := "TopYard$Spinner", name := "isWithin", desc := "(I)Z" } : Jvm.MethodName)) ∈ TT := mt (i := 570) (by decide +kernel) (by decide +kernel)
theorem wd_586 : (Jvm.Cond.code ({ cls := "TopYard$Spinner", name := "isWithin", desc := "(I)Z" } : Jvm.MethodName) prog_10_method_12_code (4 : Nat) (Option.some Jvm.ClassFile.FieldType.boolean)) ∈ TT := mt (i := 571) (by decide +kernel) (by decide +kernel)
theorem wd_587 : (Jvm.Cond.methodLink "TopYard$Spinner" (40 : Nat) ({ cls := "java/lang/Math", name := "max", desc := "(II)I" } : Jvm.MethodName)) ∈ TT := mt (i := 513) (by decide +kernel) (by decide +kernel)
theorem wd_588 : (Jvm.Cond.methodLink "TopYard$Spinner" (73 : Nat) ({ cls := "TopYard$Headings", name := "alongX", desc := "(I)I" } : Jvm.MethodName)) ∈ TT := mt (i := 516) (by decide +kernel) (by decide +kernel)
theorem wd_589 : (Jvm.Cond.methodLink "TopYard$Spinner" (82 : Nat) ({ cls := "TopYard$Headings", name := "alongY", desc := "(I)I" } : Jvm.MethodName)) ∈ TT := mt (i := 517) (by decide +kernel) (by decide +kernel)
theorem wd_590 : (Jvm.Cond.static ({ cls := "TopYard$Headings", name := "alongY", desc := "(I)I" } : Jvm.MethodName)) ∈ TT := mt (i := 352) (by decide +kernel) (by decide +kernel)
theorem wd_591 : (Jvm.Cond.code ({ cls := "TopYard$Headings", name := "alongY", desc := "(I)I" } : Jvm.MethodName) prog_6_method_3_code (1 : Nat) (Option.some Jvm.ClassFile.FieldType.int)) ∈ TT := mt (i := 353) (by decide +kernel) (by decide +kernel)
theorem wd_592 : (Jvm.Cond.methodLink "TopYard$Spinner" (88 : Nat) ({ cls := "java/lang/Math", name := "min", desc := "(II)I" } : Jvm.MethodName)) ∈ TT := mt (i := 518) (by decide +kernel) (by decide +kernel)
theorem wd_593 : (Jvm.Cond.methodLink "TopYard$Spinner" (99 : Nat) ({ cls := "java/lang/Math", name := "floorDiv", desc := "(JJ)J" } : Jvm.MethodName)) ∈ TT := mt (i := 550) (by decide +kernel) (by decide +kernel)
theorem wd_594 : (Jvm.Cond.methodLink "TopYard" (100 : Nat) ({ cls := "TopYard$Headings", name := "alongY", desc := "(I)I" } : Jvm.MethodName)) ∈ TT := mt (i := 351) (by decide +kernel) (by decide +kernel)
theorem wd_595 : (Jvm.Cond.methodLink "TopYard" (103 : Nat) ({ cls := "TopYard", name := "isOwner", desc := "(I)Z" } : Jvm.MethodName)) ∈ TT := mt (i := 359) (by decide +kernel) (by decide +kernel)
theorem wd_596 : (Jvm.Cond.static ({ cls := "TopYard", name := "isOwner", desc := "(I)Z" } : Jvm.MethodName)) ∈ TT := mt (i := 360) (by decide +kernel) (by decide +kernel)
theorem wd_597 : (Jvm.Cond.initialized "TopYard") ∈ TT := mt (i := 1) (by decide +kernel) (by decide +kernel)
theorem wd_598 : (Jvm.Cond.code ({ cls := "TopYard", name := "isOwner", desc := "(I)Z" } : Jvm.MethodName) prog_1_method_50_code (1 : Nat) (Option.some Jvm.ClassFile.FieldType.boolean)) ∈ TT := mt (i := 361) (by decide +kernel) (by decide +kernel)
theorem wd_599 : (Jvm.Cond.methodLink "TopYard" (110 : Nat) ({ cls := "TopYard", name := "topAt", desc := "(I)LTopYard$Top;" } : Jvm.MethodName)) ∈ TT := mt (i := 402) (by decide +kernel) (by decide +kernel)
theorem wd_600 : (Jvm.Cond.instanceMethod ({ cls := "TopYard", name := "topAt", desc := "(I)LTopYard$Top;" } : Jvm.MethodName)) ∈ TT := mt (i := 404) (by decide +kernel) (by decide +kernel)
theorem wd_601 : (Jvm.Cond.code ({ cls := "TopYard", name := "topAt", desc := "(I)LTopYard$Top;" } : Jvm.MethodName) prog_1_method_51_code (2 : Nat) (Option.some (Jvm.ClassFile.FieldType.object "TopYard$Top"))) ∈ TT := mt (i := 405) (by decide +kernel) (by decide +kernel)
theorem wd_602 : (Jvm.Cond.methodLink "TopYard" (138 : Nat) ({ cls := "TopYard$Bowl", name := "mayDent", desc := "(II)Z" } : Jvm.MethodName)) ∈ TT := mt (i := 422) (by decide +kernel) (by decide +kernel)
theorem wd_603 : (Jvm.Cond.methodLink "TopYard" (142 : Nat) ({ cls := "TopYard$Bowl", name := "raise", desc := "(III)Z" } : Jvm.MethodName)) ∈ TT := mt (i := 425) (by decide +kernel) (by decide +kernel)
theorem wd_604 : (Jvm.Cond.instanceMethod ({ cls := "TopYard$Bowl", name := "raise", desc := "(III)Z" } : Jvm.MethodName)) ∈ TT := mt (i := 426) (by decide +kernel) (by decide +kernel)
theorem wd_605 : (Jvm.Cond.selects "TopYard$Bowl" ({ cls := "TopYard$Bowl", name := "raise", desc := "(III)Z" } : Jvm.MethodName) ({ cls := "TopYard$Bowl", name := "raise", desc := "(III)Z" } : Jvm.MethodName)) ∈ TT := mt (i := 427) (by decide +kernel) (by decide +kernel)
theorem wd_606 : (Jvm.Cond.code ({ cls := "TopYard$Bowl", name := "raise", desc := "(III)Z" } : Jvm.MethodName) prog_3_method_3_code (4 : Nat) (Option.some Jvm.ClassFile.FieldType.boolean)) ∈ TT := mt (i := 428) (by decide +kernel) (by decide +kernel)
theorem wd_607 : (Jvm.Cond.methodLink "TopYard" (148 : Nat) ({ cls := "TopYard$Bowl", name := "flatten", desc := "()V" } : Jvm.MethodName)) ∈ TT := mt (i := 434) (by decide +kernel) (by decide +kernel)
theorem wd_608 : (Jvm.Cond.instanceMethod ({ cls := "TopYard$Bowl", name := "flatten", desc := "()V" } : Jvm.MethodName)) ∈ TT := mt (i := 435) (by decide +kernel) (by decide +kernel)
theorem wd_609 : (Jvm.Cond.selects "TopYard$Bowl" ({ cls := "TopYard$Bowl", name := "flatten", desc := "()V" } : Jvm.MethodName) ({ cls := "TopYard$Bowl", name := "flatten", desc := "()V" } : Jvm.MethodName)) ∈ TT := mt (i := 436) (by decide +kernel) (by decide +kernel)
theorem wd_610 : (Jvm.Cond.code ({ cls := "TopYard$Bowl", name := "flatten", desc := "()V" } : Jvm.MethodName) prog_3_method_4_code (1 : Nat) (Option.none : Option Jvm.ClassFile.FieldType)) ∈ TT := mt (i := 437) (by decide +kernel) (by decide +kernel)
theorem wd_611 : (Jvm.Cond.methodLink "TopYard" (152 : Nat) ({ cls := "TopYard$Bowl", name := "heightAt", desc := "(II)I" } : Jvm.MethodName)) ∈ TT := mt (i := 444) (by decide +kernel) (by decide +kernel)
theorem wd_612 : (Jvm.Cond.methodLink "TopYard" (156 : Nat) ({ cls := "TopYard$Bowl", name := "slopeAlongX", desc := "(II)I" } : Jvm.MethodName)) ∈ TT := mt (i := 448) (by decide +kernel) (by decide +kernel)
theorem wd_613 : (Jvm.Cond.methodLink "TopYard" (159 : Nat) ({ cls := "TopYard$Bowl", name := "slopeAlongY", desc := "(II)I" } : Jvm.MethodName)) ∈ TT := mt (i := 453) (by decide +kernel) (by decide +kernel)
theorem wd_614 : (Jvm.Cond.methodLink "TopYard" (162 : Nat) ({ cls := "TopYard$Bout", name := "holds", desc := "(I)Z" } : Jvm.MethodName)) ∈ TT := mt (i := 465) (by decide +kernel) (by decide +kernel)
theorem wd_615 : (Jvm.Cond.instanceMethod ({ cls := "TopYard$Bout", name := "holds", desc := "(I)Z" } : Jvm.MethodName)) ∈ TT := mt (i := 466) (by decide +kernel) (by decide +kernel)
theorem wd_616 : (Jvm.Cond.selects "TopYard$Bout" ({ cls := "TopYard$Bout", name := "holds", desc := "(I)Z" } : Jvm.MethodName) ({ cls := "TopYard$Bout", name := "holds", desc := "(I)Z" } : Jvm.MethodName)) ∈ TT := mt (i := 467) (by decide +kernel) (by decide +kernel)
theorem wd_617 : (Jvm.Cond.code ({ cls := "TopYard$Bout", name := "holds", desc := "(I)Z" } : Jvm.MethodName) prog_2_method_4_code (3 : Nat) (Option.some Jvm.ClassFile.FieldType.boolean)) ∈ TT := mt (i := 468) (by decide +kernel) (by decide +kernel)
theorem wd_618 : (Jvm.Cond.methodLink "TopYard" (165 : Nat) ({ cls := "TopYard$Bout", name := "addSpinner", desc := "(LTopYard$Top;I)LTopYard$Spinner;" } : Jvm.MethodName)) ∈ TT := mt (i := 469) (by decide +kernel) (by decide +kernel)
theorem wd_619 : (Jvm.Cond.instanceMethod ({ cls := "TopYard$Bout", name := "addSpinner", desc := "(LTopYard$Top;I)LTopYard$Spinner;" } : Jvm.MethodName)) ∈ TT := mt (i := 470) (by decide +kernel) (by decide +kernel)
theorem wd_620 : (Jvm.Cond.selects "TopYard$Bout" ({ cls := "TopYard$Bout", name := "addSpinner", desc := "(LTopYard$Top;I)LTopYard$Spinner;" } : Jvm.MethodName) ({ cls := "TopYard$Bout", name := "addSpinner", desc := "(LTopYard$Top;I)LTopYard$Spinner;" } : Jvm.MethodName)) ∈ TT := mt (i := 471) (by decide +kernel) (by decide +kernel)
theorem wd_621 : (Jvm.Cond.code ({ cls := "TopYard$Bout", name := "addSpinner", desc := "(LTopYard$Top;I)LTopYard$Spinner;" } : Jvm.MethodName) prog_2_method_5_code (4 : Nat) (Option.some (Jvm.ClassFile.FieldType.object "TopYard$Spinner"))) ∈ TT := mt (i := 472) (by decide +kernel) (by decide +kernel)
theorem wd_622 : (Jvm.Cond.methodLink "TopYard" (169 : Nat) ({ cls := "TopYard$Spinner", name := "set", desc := "(IIII)V" } : Jvm.MethodName)) ∈ TT := mt (i := 473) (by decide +kernel) (by decide +kernel)
theorem wd_623 : (Jvm.Cond.instanceMethod ({ cls := "TopYard$Spinner", name := "set", desc := "(IIII)V" } : Jvm.MethodName)) ∈ TT := mt (i := 474) (by decide +kernel) (by decide +kernel)
theorem wd_624 : (Jvm.Cond.selects "TopYard$Spinner" ({ cls := "TopYard$Spinner", name := "set", desc := "(IIII)V" } : Jvm.MethodName) ({ cls := "TopYard$Spinner", name := "set", desc := "(IIII)V" } : Jvm.MethodName)) ∈ TT := mt (i := 475) (by decide +kernel) (by decide +kernel)
theorem wd_625 : (Jvm.Cond.code ({ cls := "TopYard$Spinner", name := "set", desc := "(IIII)V" } : Jvm.MethodName) prog_10_method_2_code (5 : Nat) (Option.none : Option Jvm.ClassFile.FieldType)) ∈ TT := mt (i := 476) (by decide +kernel) (by decide +kernel)
theorem wd_626 : (Jvm.Cond.methodLink "TopYard" (178 : Nat) ({ cls := "TopYard$Bout", name := "empty", desc := "()V" } : Jvm.MethodName)) ∈ TT := mt (i := 481) (by decide +kernel) (by decide +kernel)
theorem wd_627 : (Jvm.Cond.instanceMethod ({ cls := "TopYard$Bout", name := "empty", desc := "()V" } : Jvm.MethodName)) ∈ TT := mt (i := 482) (by decide +kernel) (by decide +kernel)
theorem wd_628 : (Jvm.Cond.selects "TopYard$Bout" ({ cls := "TopYard$Bout", name := "empty", desc := "()V" } : Jvm.MethodName) ({ cls := "TopYard$Bout", name := "empty", desc := "()V" } : Jvm.MethodName)) ∈ TT := mt (i := 483) (by decide +kernel) (by decide +kernel)
theorem wd_629 : (Jvm.Cond.code ({ cls := "TopYard$Bout", name := "empty", desc := "()V" } : Jvm.MethodName) prog_2_method_2_code (1 : Nat) (Option.none : Option Jvm.ClassFile.FieldType)) ∈ TT := mt (i := 484) (by decide +kernel) (by decide +kernel)
theorem wd_630 : (Jvm.Cond.methodLink "TopYard" (181 : Nat) ({ cls := "TopYard$Bout", name := "addWhip", desc := "(III)Z" } : Jvm.MethodName)) ∈ TT := mt (i := 489) (by decide +kernel) (by decide +kernel)
theorem wd_631 : (Jvm.Cond.instanceMethod ({ cls := "TopYard$Bout", name := "addWhip", desc := "(III)Z" } : Jvm.MethodName)) ∈ TT := mt (i := 490) (by decide +kernel) (by decide +kernel)
theorem wd_632 : (Jvm.Cond.selects "TopYard$Bout" ({ cls := "TopYard$Bout", name := "addWhip", desc := "(III)Z" } : Jvm.MethodName) ({ cls := "TopYard$Bout", name := "addWhip", desc := "(III)Z" } : Jvm.MethodName)) ∈ TT := mt (i := 491) (by decide +kernel) (by decide +kernel)
theorem wd_633 : (Jvm.Cond.code ({ cls := "TopYard$Bout", name := "addWhip", desc := "(III)Z" } : Jvm.MethodName) prog_2_method_6_code (4 : Nat) (Option.some Jvm.ClassFile.FieldType.boolean)) ∈ TT := mt (i := 492) (by decide +kernel) (by decide +kernel)
theorem wd_634 : (Jvm.Cond.methodLink "TopYard" (187 : Nat) ({ cls := "TopYard", name := "spinBout", desc := "(I)I" } : Jvm.MethodName)) ∈ TT := mt (i := 497) (by decide +kernel) (by decide +kernel)
theorem wd_635 : (Jvm.Cond.instanceMethod ({ cls := "TopYard", name := "spinBout", desc := "(I)I" } : Jvm.MethodName)) ∈ TT := mt (i := 499) (by decide +kernel) (by decide +kernel)
theorem wd_636 : (Jvm.Cond.code ({ cls := "TopYard", name := "spinBout", desc := "(I)I" } : Jvm.MethodName) prog_1_method_54_code (2 : Nat) (Option.some Jvm.ClassFile.FieldType.int)) ∈ TT := mt (i := 500) (by decide +kernel) (by decide +kernel)
theorem wd_637 : (Jvm.Cond.methodLink "TopYard" (190 : Nat) ({ cls := "TopYard$Bout", name := "lonePlace", desc := "()I" } : Jvm.MethodName)) ∈ TT := mt (i := 601) (by decide +kernel) (by decide +kernel)
theorem wd_638 : (Jvm.Cond.instanceMethod ({ cls := "TopYard$Bout", name := "lonePlace", desc := "()I" } : Jvm.MethodName)) ∈ TT := mt (i := 602) (by decide +kernel) (by decide +kernel)
theorem wd_639 : (Jvm.Cond.selects "TopYard$Bout" ({ cls := "TopYard$Bout", name := "lonePlace", desc := "()I" } : Jvm.MethodName) ({ cls := "TopYard$Bout", name := "lonePlace", desc := "()I" } : Jvm.MethodName)) ∈ TT := mt (i := 603) (by decide +kernel) (by decide +kernel)
theorem wd_640 : (Jvm.Cond.code ({ cls := "TopYard$Bout", name := "lonePlace", desc := "()I" } : Jvm.MethodName) prog_2_method_8_code (2 : Nat) (Option.some Jvm.ClassFile.FieldType.int)) ∈ TT := mt (i := 604) (by decide +kernel) (by decide +kernel)
theorem wd_641 : (Jvm.Cond.methodLink "TopYard" (200 : Nat) ({ cls := "TopYard$Bout", name := "at", desc := "(I)LTopYard$Spinner;" } : Jvm.MethodName)) ∈ TT := mt (i := 613) (by decide +kernel) (by decide +kernel)
theorem wd_642 : (Jvm.Cond.methodLink "TopYard" (204 : Nat) ({ cls := "TopYard$Spinner", name := "figure", desc := "(I)I" } : Jvm.MethodName)) ∈ TT := mt (i := 614) (by decide +kernel) (by decide +kernel)
theorem wd_643 : (Jvm.Cond.instanceMethod ({ cls := "TopYard$Spinner", name := "figure", desc := "(I)I" } : Jvm.MethodName)) ∈ TT := mt (i := 615) (by decide +kernel) (by decide +kernel)
theorem wd_644 : (Jvm.Cond.selects "TopYard$Spinner" ({ cls := "TopYard$Spinner", name := "figure", desc := "(I)I" } : Jvm.MethodName) ({ cls := "TopYard$Spinner", name := "figure", desc := "(I)I" } : Jvm.MethodName)) ∈ TT := mt (i := 616) (by decide +kernel) (by decide +kernel)
theorem wd_645 : (Jvm.Cond.code ({ cls := "TopYard$Spinner", name := "figure", desc := "(I)I" } : Jvm.MethodName) prog_10_method_13_code (2 : Nat) (Option.some Jvm.ClassFile.FieldType.int)) ∈ TT := mt (i := 617) (by decide +kernel) (by decide +kernel)
theorem wd_646 : (Jvm.Cond.methodLink "TopYard" (213 : Nat) ({ cls := "TopYard$Choice", name := "begin", desc := "()V" } : Jvm.MethodName)) ∈ TT := mt (i := 622) (by decide +kernel) (by decide +kernel)
theorem wd_647 : (Jvm.Cond.instanceMethod ({ cls := "TopYard$Choice", name := "begin", desc := "()V" } : Jvm.MethodName)) ∈ TT := mt (i := 623) (by decide +kernel) (by decide +kernel)
theorem wd_648 : (Jvm.Cond.selects "TopYard$Choice" ({ cls := "TopYard$Choice", name := "begin", desc := "()V" } : Jvm.MethodName) ({ cls := "TopYard$Choice", name := "begin", desc := "()V" } : Jvm.MethodName)) ∈ TT := mt (i := 624) (by decide +kernel) (by decide +kernel)
theorem wd_649 : (Jvm.Cond.code ({ cls := "TopYard$Choice", name := "begin", desc := "()V" } : Jvm.MethodName) prog_4_method_2_code (2 : Nat) (Option.none : Option Jvm.ClassFile.FieldType)) ∈ TT := mt (i := 625) (by decide +kernel) (by decide +kernel)
theorem wd_650 : (Jvm.Cond.methodLink "TopYard" (216 : Nat) ({ cls := "TopYard$Choice", name := "addRow", desc := "(I)I" } : Jvm.MethodName)) ∈ TT := mt (i := 631) (by decide +kernel) (by decide +kernel)
theorem wd_651 : (Jvm.Cond.instanceMethod ({ cls := "TopYard$Choice", name := "addRow", desc := "(I)I" } : Jvm.MethodName)) ∈ TT := mt (i := 632) (by decide +kernel) (by decide +kernel)
theorem wd_652 : (Jvm.Cond.selects "TopYard$Choice" ({ cls := "TopYard$Choice", name := "addRow", desc := "(I)I" } : Jvm.MethodName) ({ cls := "TopYard$Choice", name := "addRow", desc := "(I)I" } : Jvm.MethodName)) ∈ TT := mt (i := 633) (by decide +kernel) (by decide +kernel)
theorem wd_653 : (Jvm.Cond.code ({ cls := "TopYard$Choice", name := "addRow", desc := "(I)I" } : Jvm.MethodName) prog_4_method_5_code (2 : Nat) (Option.some Jvm.ClassFile.FieldType.int)) ∈ TT := mt (i := 634) (by decide +kernel) (by decide +kernel)
theorem wd_654 : (Jvm.Cond.methodLink "TopYard" (219 : Nat) ({ cls := "TopYard$Choice", name := "addColumn", desc := "(I)I" } : Jvm.MethodName)) ∈ TT := mt (i := 635) (by decide +kernel) (by decide +kernel)
theorem wd_655 : (Jvm.Cond.instanceMethod ({ cls := "TopYard$Choice", name := "addColumn", desc := "(I)I" } : Jvm.MethodName)) ∈ TT := mt (i := 636) (by decide +kernel) (by decide +kernel)
theorem wd_656 : (Jvm.Cond.selects "TopYard$Choice" ({ cls := "TopYard$Choice", name := "addColumn", desc := "(I)I" } : Jvm.MethodName) ({ cls := "TopYard$Choice", name := "addColumn", desc := "(I)I" } : Jvm.MethodName)) ∈ TT := mt (i := 637) (by decide +kernel) (by decide +kernel)
theorem wd_657 : (Jvm.Cond.code ({ cls := "TopYard$Choice", name := "addColumn", desc := "(I)I" } : Jvm.MethodName) prog_4_method_6_code (2 : Nat) (Option.some Jvm.ClassFile.FieldType.int)) ∈ TT := mt (i := 638) (by decide +kernel) (by decide +kernel)
theorem wd_658 : (Jvm.Cond.methodLink "TopYard" (222 : Nat) ({ cls := "TopYard$Choice", name := "has", desc := "(II)Z" } : Jvm.MethodName)) ∈ TT := mt (i := 643) (by decide +kernel) (by decide +kernel)
theorem wd_659 : (Jvm.Cond.instanceMethod ({ cls := "TopYard$Choice", name := "has", desc := "(II)Z" } : Jvm.MethodName)) ∈ TT := mt (i := 644) (by decide +kernel) (by decide +kernel)
theorem wd_660 : (Jvm.Cond.selects "TopYard$Choice" ({ cls := "TopYard$Choice", name := "has", desc := "(II)Z" } : Jvm.MethodName) ({ cls := "TopYard$Choice", name := "has", desc := "(II)Z" } : Jvm.MethodName)) ∈ TT := mt (i := 645) (by decide +kernel) (by decide +kernel)
theorem wd_661 : (Jvm.Cond.code ({ cls := "TopYard$Choice", name := "has", desc := "(II)Z" } : Jvm.MethodName) prog_4_method_4_code (3 : Nat) (Option.some Jvm.ClassFile.FieldType.boolean)) ∈ TT := mt (i := 646) (by decide +kernel) (by decide +kernel)
theorem wd_662 : (Jvm.Cond.methodLink "TopYard" (229 : Nat) ({ cls := "TopYard$Choice", name := "isOpen", desc := "()Z" } : Jvm.MethodName)) ∈ TT := mt (i := 655) (by decide +kernel) (by decide +kernel)
theorem wd_663 : (Jvm.Cond.instanceMethod ({ cls := "TopYard$Choice", name := "isOpen", desc := "()Z" } : Jvm.MethodName)) ∈ TT := mt (i := 656) (by decide +kernel) (by decide +kernel)
theorem wd_664 : (Jvm.Cond.selects "TopYard$Choice" ({ cls := "TopYard$Choice", name := "isOpen", desc := "()Z" } : Jvm.MethodName) ({ cls := "TopYard$Choice", name := "isOpen", desc := "()Z" } : Jvm.MethodName)) ∈ TT := mt (i := 657) (by decide +kernel) (by decide +kernel)
theorem wd_665 : (Jvm.Cond.code ({ cls := "TopYard$Choice", name := "isOpen", desc := "()Z" } : Jvm.MethodName) prog_4_method_3_code (1 : Nat) (Option.some Jvm.ClassFile.FieldType.boolean)) ∈ TT := mt (i := 658) (by decide +kernel) (by decide +kernel)
theorem wd_666 : (Jvm.Cond.methodLink "TopYard" (239 : Nat) ({ cls := "TopYard", name := "duel", desc := "(IIII)I" } : Jvm.MethodName)) ∈ TT := mt (i := 659) (by decide +kernel) (by decide +kernel)
theorem wd_667 : (Jvm.Cond.instanceMethod ({ cls := "TopYard", name := "duel", desc := "(IIII)I" } : Jvm.MethodName)) ∈ TT := mt (i := 661) (by decide +kernel) (by decide +kernel)
theorem wd_668 : (Jvm.Cond.code ({ cls := "TopYard", name := "duel", desc := "(IIII)I" } : Jvm.MethodName) prog_1_method_55_code (10 : Nat) (Option.some Jvm.ClassFile.FieldType.int)) ∈ TT := mt (i := 662) (by decide +kernel) (by decide +kernel)
theorem wd_669 : (Jvm.Cond.methodLink "TopYard" (243 : Nat) ({ cls := "TopYard$Choice", name := "solve", desc := "()V" } : Jvm.MethodName)) ∈ TT := mt (i := 671) (by decide +kernel) (by decide +kernel)
theorem wd_670 : (Jvm.Cond.instanceMethod ({ cls := "TopYard$Choice", name := "solve", desc := "()V" } : Jvm.MethodName)) ∈ TT := mt (i := 672) (by decide +kernel) (by decide +kernel)
theorem wd_671 : (Jvm.Cond.selects "TopYard$Choice" ({ cls := "TopYard$Choice", name := "solve", desc := "()V" } : Jvm.MethodName) ({ cls := "TopYard$Choice", name := "solve", desc := "()V" } : Jvm.MethodName)) ∈ TT := mt (i := 673) (by decide +kernel) (by decide +kernel)
theorem wd_672 : (Jvm.Cond.code ({ cls := "TopYard$Choice", name := "solve", desc := "()V" } : Jvm.MethodName) prog_4_method_9_code (3 : Nat) (Option.none : Option Jvm.ClassFile.FieldType)) ∈ TT := mt (i := 674) (by decide +kernel) (by decide +kernel)
theorem wd_673 : (Jvm.Cond.methodLink "TopYard" (246 : Nat) ({ cls := "TopYard$Choice", name := "valueInMillionths", desc := "()I" } : Jvm.MethodName)) ∈ TT := mt (i := 725) (by decide +kernel) (by decide +kernel)
theorem wd_674 : (Jvm.Cond.instanceMethod ({ cls := "TopYard$Choice", name := "valueInMillionths", desc := "()I" } : Jvm.MethodName)) ∈ TT := mt (i := 726) (by decide +kernel) (by decide +kernel)
theorem wd_675 : (Jvm.Cond.selects "TopYard$Choice" ({ cls := "TopYard$Choice", name := "valueInMillionths", desc := "()I" } : Jvm.MethodName) ({ cls := "TopYard$Choice", name := "valueInMillionths", desc := "()I" } : Jvm.MethodName)) ∈ TT := mt (i := 727) (by decide +kernel) (by decide +kernel)
theorem wd_676 : (Jvm.Cond.code ({ cls := "TopYard$Choice", name := "valueInMillionths", desc := "()I" } : Jvm.MethodName) prog_4_method_7_code (1 : Nat) (Option.some Jvm.ClassFile.FieldType.int)) ∈ TT := mt (i := 728) (by decide +kernel) (by decide +kernel)
theorem wd_677 : (Jvm.Cond.methodLink "TopYard" (256 : Nat) ({ cls := "TopYard$Choice", name := "inMillionths", desc := "(J)I" } : Jvm.MethodName)) ∈ TT := mt (i := 740) (by decide +kernel) (by decide +kernel)
theorem wd_678 : (Jvm.Cond.methodLink "TopYard" (260 : Nat) ({ cls := "TopYard", name := "mayBeRow", desc := "(III)Z" } : Jvm.MethodName)) ∈ TT := mt (i := 749) (by decide +kernel) (by decide +kernel)
theorem wd_679 : (Jvm.Cond.instanceMethod ({ cls := "TopYard", name := "mayBeRow", desc := "(III)Z" } : Jvm.MethodName)) ∈ TT := mt (i := 751) (by decide +kernel) (by decide +kernel)
theorem wd_680 : (Jvm.Cond.code ({ cls := "TopYard", name := "mayBeRow", desc := "(III)Z" } : Jvm.MethodName) prog_1_method_56_code (4 : Nat) (Option.some Jvm.ClassFile.FieldType.boolean)) ∈ TT := mt (i := 752) (by decide +kernel) (by decide +kernel)
theorem wd_681 : (Jvm.Cond.methodLink "TopYard" (263 : Nat) ({ cls := "TopYard$Past", name := "add", desc := "(III)Z" } : Jvm.MethodName)) ∈ TT := mt (i := 753) (by decide +kernel) (by decide +kernel)
theorem wd_682 : (Jvm.Cond.instanceMethod ({ cls := "TopYard$Past", name := "add", desc := "(III)Z" } : Jvm.MethodName)) ∈ TT := mt (i := 754) (by decide +kernel) (by decide +kernel)
theorem wd_683 : (Jvm.Cond.selects "TopYard$Past" ({ cls := "TopYard$Past", name := "add", desc := "(III)Z" } : Jvm.MethodName) ({ cls := "TopYard$Past", name := "add", desc := "(III)Z" } : Jvm.MethodName)) ∈ TT := mt (i := 755) (by decide +kernel) (by decide +kernel)
theorem wd_684 : (Jvm.Cond.code ({ cls := "TopYard$Past", name := "add", desc := "(III)Z" } : Jvm.MethodName) prog_8_method_2_code (4 : Nat) (Option.some Jvm.ClassFile.FieldType.boolean)) ∈ TT := mt (i := 756) (by decide +kernel) (by decide +kernel)
theorem wd_685 : (Jvm.Cond.methodLink "TopYard" (267 : Nat) ({ cls := "TopYard", name := "sheetAt", desc := "(I)LTopYard$Sheet;" } : Jvm.MethodName)) ∈ TT := mt (i := 765) (by decide +kernel) (by decide +kernel)
theorem wd_686 : (Jvm.Cond.instanceMethod ({ cls := "TopYard", name := "sheetAt", desc := "(I)LTopYard$Sheet;" } : Jvm.MethodName)) ∈ TT := mt (i := 767) (by decide +kernel) (by decide +kernel)
theorem wd_687 : (Jvm.Cond.code ({ cls := "TopYard", name := "sheetAt", desc := "(I)LTopYard$Sheet;" } : Jvm.MethodName) prog_1_method_52_code (2 : Nat) (Option.some (Jvm.ClassFile.FieldType.object "TopYard$Sheet"))) ∈ TT := mt (i := 768) (by decide +kernel) (by decide +kernel)
theorem wd_688 : (Jvm.Cond.methodLink "TopYard" (275 : Nat) ({ cls := "TopYard", name := "find", desc := "(I)I" } : Jvm.MethodName)) ∈ TT := mt (i := 769) (by decide +kernel) (by decide +kernel)
theorem wd_689 : (Jvm.Cond.instanceMethod ({ cls := "TopYard", name := "find", desc := "(I)I" } : Jvm.MethodName)) ∈ TT := mt (i := 771) (by decide +kernel) (by decide +kernel)
theorem wd_690 : (Jvm.Cond.code ({ cls := "TopYard", name := "find", desc := "(I)I" } : Jvm.MethodName) prog_1_method_53_code (2 : Nat) (Option.some Jvm.ClassFile.FieldType.int)) ∈ TT := mt (i := 772) (by decide +kernel) (by decide +kernel)
theorem wd_691 : (Jvm.Cond.methodLink "TopYard" (281 : Nat) ({ cls := "TopYard$Sheet", name := "item", desc := "(I)I" } : Jvm.MethodName)) ∈ TT := mt (i := 773) (by decide +kernel) (by decide +kernel)
theorem wd_692 : (Jvm.Cond.instanceMethod ({ cls := "TopYard$Sheet", name := "item", desc := "(I)I" } : Jvm.MethodName)) ∈ TT := mt (i := 774) (by decide +kernel) (by decide +kernel)
theorem wd_693 : (Jvm.Cond.selects "TopYard$Sheet" ({ cls := "TopYard$Sheet", name := "item", desc := "(I)I" } : Jvm.MethodName) ({ cls := "TopYard$Sheet", name := "item", desc := "(I)I" } : Jvm.MethodName)) ∈ TT := mt (i := 775) (by decide +kernel) (by decide +kernel)
theorem wd_694 : (Jvm.Cond.code ({ cls := "TopYard$Sheet", name := "item", desc := "(I)I" } : Jvm.MethodName) prog_9_method_6_code (2 : Nat) (Option.some Jvm.ClassFile.FieldType.int)) ∈ TT := mt (i := 776) (by decide +kernel) (by decide +kernel)
theorem wd_695 : (Jvm.Cond.methodLink "TopYard" (284 : Nat) ({ cls := "TopYard", name := "foretellRows", desc := "(I)V" } : Jvm.MethodName)) ∈ TT := mt (i := 781) (by decide +kernel) (by decide +kernel)
theorem wd_696 : (Jvm.Cond.instanceMethod ({ cls := "TopYard", name := "foretellRows", desc := "(I)V" } : Jvm.MethodName)) ∈ TT := mt (i := 783) (by decide +kernel) (by decide +kernel)
theorem wd_697 : (Jvm.Cond.code ({ cls := "TopYard", name := "foretellRows", desc := "(I)V" } : Jvm.MethodName) prog_1_method_57_code (4 : Nat) (Option.none : Option Jvm.ClassFile.FieldType)) ∈ TT := mt (i := 784) (by decide +kernel) (by decide +kernel)
theorem wd_698 : (Jvm.Cond.methodLink "TopYard" (288 : Nat) ({ cls := "TopYard$Past", name := "surprises", desc := "(I)I" } : Jvm.MethodName)) ∈ TT := mt (i := 793) (by decide +kernel) (by decide +kernel)
theorem wd_699 : (Jvm.Cond.methodLink "TopYard" (291 : Nat) ({ cls := "TopYard$Past", name := "chances", desc := "(I)I" } : Jvm.MethodName)) ∈ TT := mt (i := 802) (by decide +kernel) (by decide +kernel)
theorem wd_700 : (Jvm.Cond.methodLink "TopYard" (294 : Nat) ({ cls := "TopYard$Past", name := "doubt", desc := "(I)I" } : Jvm.MethodName)) ∈ TT := mt (i := 806) (by decide +kernel) (by decide +kernel)
theorem wd_701 : (Jvm.Cond.instanceMethod ({ cls := "TopYard$Past", name := "doubt", desc := "(I)I" } : Jvm.MethodName)) ∈ TT := mt (i := 807) (by decide +kernel) (by decide +kernel)
theorem wd_702 : (Jvm.Cond.selects "TopYard$Past" ({ cls := "TopYard$Past", name := "doubt", desc := "(I)I" } : Jvm.MethodName) ({ cls := "TopYard$Past", name := "doubt", desc := "(I)I" } : Jvm.MethodName)) ∈ TT := mt (i := 808) (by decide +kernel) (by decide +kernel)
theorem wd_703 : (Jvm.Cond.code ({ cls := "TopYard$Past", name := "doubt", desc := "(I)I" } : Jvm.MethodName) prog_8_method_8_code (9 : Nat) (Option.some Jvm.ClassFile.FieldType.int)) ∈ TT := mt (i := 809) (by decide +kernel) (by decide +kernel)
theorem wd_704 : (Jvm.Cond.methodLink "TopYard" (298 : Nat) ({ cls := "TopYard$Past", name := "rowsAsTold", desc := "(I)I" } : Jvm.MethodName)) ∈ TT := mt (i := 822) (by decide +kernel) (by decide +kernel)
theorem wd_705 : (Jvm.Cond.instanceMethod ({ cls := "TopYard$Past", name := "rowsAsTold", desc := "(I)I" } : Jvm.MethodName)) ∈ TT := mt (i := 823) (by decide +kernel) (by decide +kernel)
theorem wd_706 : (Jvm.Cond.selects "TopYard$Past" ({ cls := "TopYard$Past", name := "rowsAsTold", desc := "(I)I" } : Jvm.MethodName) ({ cls := "TopYard$Past", name := "rowsAsTold", desc := "(I)I" } : Jvm.MethodName)) ∈ TT := mt (i := 824) (by decide +kernel) (by decide +kernel)
theorem wd_707 : (Jvm.Cond.code ({ cls := "TopYard$Past", name := "rowsAsTold", desc := "(I)I" } : Jvm.MethodName) prog_8_method_7_code (4 : Nat) (Option.some Jvm.ClassFile.FieldType.int)) ∈ TT := mt (i := 825) (by decide +kernel) (by decide +kernel)
theorem wd_708 : (Jvm.Cond.methodLink "TopYard" (301 : Nat) ({ cls := "TopYard$Game", name := "append", desc := "(I)Z" } : Jvm.MethodName)) ∈ TT := mt (i := 830) (by decide +kernel) (by decide +kernel)
theorem wd_709 : (Jvm.Cond.instanceMethod ({ cls := "TopYard$Game", name := "append", desc := "(I)Z" } : Jvm.MethodName)) ∈ TT := mt (i := 831) (by decide +kernel) (by decide +kernel)
theorem wd_710 : (Jvm.Cond.selects "TopYard$Game" ({ cls := "TopYard$Game", name := "append", desc := "(I)Z" } : Jvm.MethodName) ({ cls := "TopYard$Game", name := "append", desc := "(I)Z" } : Jvm.MethodName)) ∈ TT := mt (i := 832) (by decide +kernel) (by decide +kernel)
theorem wd_711 : (Jvm.Cond.code ({ cls := "TopYard$Game", name := "append", desc := "(I)Z" } : Jvm.MethodName) prog_5_method_2_code (2 : Nat) (Option.some Jvm.ClassFile.FieldType.boolean)) ∈ TT := mt (i := 833) (by decide +kernel) (by decide +kernel)
theorem wd_712 : (Jvm.Cond.methodLink "TopYard" (305 : Nat) ({ cls := "TopYard$Game", name := "parse", desc := "()I" } : Jvm.MethodName)) ∈ TT := mt (i := 842) (by decide +kernel) (by decide +kernel)
theorem wd_713 : (Jvm.Cond.instanceMethod ({ cls := "TopYard$Game", name := "parse", desc := "()I" } : Jvm.MethodName)) ∈ TT := mt (i := 843) (by decide +kernel) (by decide +kernel)
theorem wd_714 : (Jvm.Cond.selects "TopYard$Game" ({ cls := "TopYard$Game", name := "parse", desc := "()I" } : Jvm.MethodName) ({ cls := "TopYard$Game", name := "parse", desc := "()I" } : Jvm.MethodName)) ∈ TT := mt (i := 844) (by decide +kernel) (by decide +kernel)
theorem wd_715 : (Jvm.Cond.code ({ cls := "TopYard$Game", name := "parse", desc := "()I" } : Jvm.MethodName) prog_5_method_8_code (7 : Nat) (Option.some Jvm.ClassFile.FieldType.int)) ∈ TT := mt (i := 845) (by decide +kernel) (by decide +kernel)
theorem wd_716 : (Jvm.Cond.methodLink "TopYard" (308 : Nat) ({ cls := "TopYard", name := "topsOf", desc := "(I)I" } : Jvm.MethodName)) ∈ TT := mt (i := 880) (by decide +kernel) (by decide +kernel)
theorem wd_717 : (Jvm.Cond.instanceMethod ({ cls := "TopYard", name := "topsOf", desc := "(I)I" } : Jvm.MethodName)) ∈ TT := mt (i := 882) (by decide +kernel) (by decide +kernel)
theorem wd_718 : (Jvm.Cond.code ({ cls := "TopYard", name := "topsOf", desc := "(I)I" } : Jvm.MethodName) prog_1_method_58_code (4 : Nat) (Option.some Jvm.ClassFile.FieldType.int)) ∈ TT := mt (i := 883) (by decide +kernel) (by decide +kernel)
theorem wd_719 : (Jvm.Cond.methodLink "TopYard" (311 : Nat) ({ cls := "TopYard", name := "playBouts", desc := "(II)V" } : Jvm.MethodName)) ∈ TT := mt (i := 888) (by decide +kernel) (by decide +kernel)
theorem wd_720 : (Jvm.Cond.instanceMethod ({ cls := "TopYard", name := "playBouts", desc := "(II)V" } : Jvm.MethodName)) ∈ TT := mt (i := 890) (by decide +kernel) (by decide +kernel)
theorem wd_721 : (Jvm.Cond.code ({ cls := "TopYard", name := "playBouts", desc := "(II)V" } : Jvm.MethodName) prog_1_method_61_code (9 : Nat) (Option.none : Option Jvm.ClassFile.FieldType)) ∈ TT := mt (i := 891) (by decide +kernel) (by decide +kernel)
theorem wd_722 : (Jvm.Cond.methodLink "TopYard" (315 : Nat) ({ cls := "TopYard", name := "keepTops", desc := "(II)I" } : Jvm.MethodName)) ∈ TT := mt (i := 913) (by decide +kernel) (by decide +kernel)
theorem wd_723 : (Jvm.Cond.instanceMethod ({ cls := "TopYard", name := "keepTops", desc := "(II)I" } : Jvm.MethodName)) ∈ TT := mt (i := 915) (by decide +kernel) (by decide +kernel)
theorem wd_724 : (Jvm.Cond.code ({ cls := "TopYard", name := "keepTops", desc := "(II)I" } : Jvm.MethodName) prog_1_method_62_code (6 : Nat) (Option.some Jvm.ClassFile.FieldType.int)) ∈ TT := mt (i := 916) (by decide +kernel) (by decide +kernel)
theorem wd_725 : (Jvm.Cond.methodLink "TopYard" (318 : Nat) ({ cls := "java/lang/Integer", name := "bitCount", desc := "(I)I" } : Jvm.MethodName)) ∈ TT := mt (i := 933) (by decide +kernel) (by decide +kernel)
theorem wd_726 : (Jvm.Cond.methodLink "TopYard" (323 : Nat) ({ cls := "TopYard", name := "mateInPairing", desc := "(II)I" } : Jvm.MethodName)) ∈ TT := mt (i := 934) (by decide +kernel) (by decide +kernel)
theorem wd_727 : (Jvm.Cond.instanceMethod ({ cls := "TopYard", name := "mateInPairing", desc := "(II)I" } : Jvm.MethodName)) ∈ TT := mt (i := 936) (by decide +kernel) (by decide +kernel)
theorem wd_728 : (Jvm.Cond.code ({ cls := "TopYard", name := "mateInPairing", desc := "(II)I" } : Jvm.MethodName) prog_1_method_63_code (7 : Nat) (Option.some Jvm.ClassFile.FieldType.int)) ∈ TT := mt (i := 937) (by decide +kernel) (by decide +kernel)
theorem wd_729 : (Jvm.Cond.methodLink "TopYard" (326 : Nat) ({ cls := "TopYard$Pack", name := "begin", desc := "(I)V" } : Jvm.MethodName)) ∈ TT := mt (i := 957) (by decide +kernel) (by decide +kernel)
theorem wd_730 : (Jvm.Cond.instanceMethod ({ cls := "TopYard$Pack", name := "begin", desc := "(I)V" } : Jvm.MethodName)) ∈ TT := mt (i := 958) (by decide +kernel) (by decide +kernel)
theorem wd_731 : (Jvm.Cond.selects "TopYard$Pack" ({ cls := "TopYard$Pack", name := "begin", desc := "(I)V" } : Jvm.MethodName) ({ cls := "TopYard$Pack", name := "begin", desc := "(I)V" } : Jvm.MethodName)) ∈ TT := mt (i := 959) (by decide +kernel) (by decide +kernel)
theorem wd_732 : (Jvm.Cond.initialized "TopYard$Pack") ∈ TT := mt (i := 8) (by decide +kernel) (by decide +kernel)
theorem wd_733 : (Jvm.Cond.code ({ cls := "TopYard$Pack", name := "begin", desc := "(I)V" } : Jvm.MethodName) prog_7_method_2_code (2 : Nat) (Option.none : Option Jvm.ClassFile.FieldType)) ∈ TT := mt (i := 960) (by decide +kernel) (by decide +kernel)
theorem wd_734 : (Jvm.Cond.methodLink "TopYard" (328 : Nat) ({ cls := "TopYard$Top", name := "worth", desc := "()I" } : Jvm.MethodName)) ∈ TT := mt (i := 965) (by decide +kernel) (by decide +kernel)
theorem wd_735 : (Jvm.Cond.instanceMethod ({ cls := "TopYard$Top", name := "worth", desc := "()I" } : Jvm.MethodName)) ∈ TT := mt (i := 966) (by decide +kernel) (by decide +kernel)
theorem wd_736 : (Jvm.Cond.selects "TopYard$Top" ({ cls := "TopYard$Top", name := "worth", desc := "()I" } : Jvm.MethodName) ({ cls := "TopYard$Top", name := "worth", desc := "()I" } : Jvm.MethodName)) ∈ TT := mt (i := 967) (by decide +kernel) (by decide +kernel)
theorem wd_737 : (Jvm.Cond.initialized "TopYard$Top") ∈ TT := mt (i := 13) (by decide +kernel) (by decide +kernel)
theorem wd_738 : (Jvm.Cond.code ({ cls := "TopYard$Top", name := "worth", desc := "()I" } : Jvm.MethodName) prog_11_method_2_code (1 : Nat) (Option.some Jvm.ClassFile.FieldType.int)) ∈ TT := mt (i := 968) (by decide +kernel) (by decide +kernel)
theorem wd_739 : (Jvm.Cond.methodLink "TopYard" (331 : Nat) ({ cls := "TopYard$Pack", name := "offer", desc := "(II)V" } : Jvm.MethodName)) ∈ TT := mt (i := 969) (by decide +kernel) (by decide +kernel)
theorem wd_740 : (Jvm.Cond.instanceMethod ({ cls := "TopYard$Pack", name := "offer", desc := "(II)V" } : Jvm.MethodName)) ∈ TT := mt (i := 970) (by decide +kernel) (by decide +kernel)
theorem wd_741 : (Jvm.Cond.selects "TopYard$Pack" ({ cls := "TopYard$Pack", name := "offer", desc := "(II)V" } : Jvm.MethodName) ({ cls := "TopYard$Pack", name := "offer", desc := "(II)V" } : Jvm.MethodName)) ∈ TT := mt (i := 971) (by decide +kernel) (by decide +kernel)
theorem wd_742 : (Jvm.Cond.code ({ cls := "TopYard$Pack", name := "offer", desc := "(II)V" } : Jvm.MethodName) prog_7_method_3_code (5 : Nat) (Option.none : Option Jvm.ClassFile.FieldType)) ∈ TT := mt (i := 972) (by decide +kernel) (by decide +kernel)
theorem wd_743 : (Jvm.Cond.methodLink "TopYard" (334 : Nat) ({ cls := "TopYard$Pack", name := "bestWeight", desc := "()I" } : Jvm.MethodName)) ∈ TT := mt (i := 973) (by decide +kernel) (by decide +kernel)
theorem wd_744 : (Jvm.Cond.instanceMethod ({ cls := "TopYard$Pack", name := "bestWeight", desc := "()I" } : Jvm.MethodName)) ∈ TT := mt (i := 974) (by decide +kernel) (by decide +kernel)
theorem wd_745 : (Jvm.Cond.selects "TopYard$Pack" ({ cls := "TopYard$Pack", name := "bestWeight", desc := "()I" } : Jvm.MethodName) ({ cls := "TopYard$Pack", name := "bestWeight", desc := "()I" } : Jvm.MethodName)) ∈ TT := mt (i := 975) (by decide +kernel) (by decide +kernel)
theorem wd_746 : (Jvm.Cond.code ({ cls := "TopYard$Pack", name := "bestWeight", desc := "()I" } : Jvm.MethodName) prog_7_method_4_code (3 : Nat) (Option.some Jvm.ClassFile.FieldType.int)) ∈ TT := mt (i := 976) (by decide +kernel) (by decide +kernel)
theorem wd_747 : (Jvm.Cond.methodLink "TopYard" (343 : Nat) ({ cls := "TopYard$Sheet", name := "isForm", desc := "(I)Z" } : Jvm.MethodName)) ∈ TT := mt (i := 981) (by decide +kernel) (by decide +kernel)
theorem wd_748 : (Jvm.Cond.static ({ cls := "TopYard$Sheet", name := "isForm", desc := "(I)Z" } : Jvm.MethodName)) ∈ TT := mt (i := 982) (by decide +kernel) (by decide +kernel)
theorem wd_749 : (Jvm.Cond.code ({ cls := "TopYard$Sheet", name := "isForm", desc := "(I)Z" } : Jvm.MethodName) prog_9_method_2_code (1 : Nat) (Option.some Jvm.ClassFile.FieldType.boolean)) ∈ TT := mt (i := 983) (by decide +kernel) (by decide +kernel)
theorem wd_750 : (Jvm.Cond.methodLink "TopYard" (346 : Nat) ({ cls := "TopYard$Sheet", name := "begin", desc := "(II)V" } : Jvm.MethodName)) ∈ TT := mt (i := 984) (by decide +kernel) (by decide +kernel)
theorem wd_751 : (Jvm.Cond.instanceMethod ({ cls := "TopYard$Sheet", name := "begin", desc := "(II)V" } : Jvm.MethodName)) ∈ TT := mt (i := 985) (by decide +kernel) (by decide +kernel)
theorem wd_752 : (Jvm.Cond.selects "TopYard$Sheet" ({ cls := "TopYard$Sheet", name := "begin", desc := "(II)V" } : Jvm.MethodName) ({ cls := "TopYard$Sheet", name := "begin", desc := "(II)V" } : Jvm.MethodName)) ∈ TT := mt (i := 986) (by decide +kernel) (by decide +kernel)
theorem wd_753 : (Jvm.Cond.code ({ cls := "TopYard$Sheet", name := "begin", desc := "(II)V" } : Jvm.MethodName) prog_9_method_3_code (3 : Nat) (Option.none : Option Jvm.ClassFile.FieldType)) ∈ TT := mt (i := 987) (by decide +kernel) (by decide +kernel)
theorem wd_754 : (Jvm.Cond.methodLink "TopYard" (348 : Nat) ({ cls := "TopYard$Sheet", name := "findingAt", desc := "(II)I" } : Jvm.MethodName)) ∈ TT := mt (i := 999) (by decide +kernel) (by decide +kernel)
theorem wd_755 : (Jvm.Cond.instanceMethod ({ cls := "TopYard$Sheet", name := "findingAt", desc := "(II)I" } : Jvm.MethodName)) ∈ TT := mt (i := 1000) (by decide +kernel) (by decide +kernel)
theorem wd_756 : (Jvm.Cond.selects "TopYard$Sheet" ({ cls := "TopYard$Sheet", name := "findingAt", desc := "(II)I" } : Jvm.MethodName) ({ cls := "TopYard$Sheet", name := "findingAt", desc := "(II)I" } : Jvm.MethodName)) ∈ TT := mt (i := 1001) (by decide +kernel) (by decide +kernel)
theorem wd_757 : (Jvm.Cond.code ({ cls := "TopYard$Sheet", name := "findingAt", desc := "(II)I" } : Jvm.MethodName) prog_9_method_4_code (3 : Nat) (Option.some Jvm.ClassFile.FieldType.int)) ∈ TT := mt (i := 1002) (by decide +kernel) (by decide +kernel)
theorem wd_758 : (Jvm.Cond.methodLink "TopYard" (351 : Nat) ({ cls := "TopYard$Sheet", name := "store", desc := "(II)V" } : Jvm.MethodName)) ∈ TT := mt (i := 1003) (by decide +kernel) (by decide +kernel)
theorem wd_759 : (Jvm.Cond.instanceMethod ({ cls := "TopYard$Sheet", name := "store", desc := "(II)V" } : Jvm.MethodName)) ∈ TT := mt (i := 1004) (by decide +kernel) (by decide +kernel)
theorem wd_760 : (Jvm.Cond.selects "TopYard$Sheet" ({ cls := "TopYard$Sheet", name := "store", desc := "(II)V" } : Jvm.MethodName) ({ cls := "TopYard$Sheet", name := "store", desc := "(II)V" } : Jvm.MethodName)) ∈ TT := mt (i := 1005) (by decide +kernel) (by decide +kernel)
theorem wd_761 : (Jvm.Cond.code ({ cls := "TopYard$Sheet", name := "store", desc := "(II)V" } : Jvm.MethodName) prog_9_method_7_code (3 : Nat) (Option.none : Option Jvm.ClassFile.FieldType)) ∈ TT := mt (i := 1006) (by decide +kernel) (by decide +kernel)
theorem wd_762 : (Jvm.Cond.methodLink "TopYard" (357 : Nat) ({ cls := "TopYard$Sheet", name := "spans", desc := "(II)Z" } : Jvm.MethodName)) ∈ TT := mt (i := 1019) (by decide +kernel) (by decide +kernel)
theorem wd_763 : (Jvm.Cond.instanceMethod ({ cls := "TopYard$Sheet", name := "spans", desc := "(II)Z" } : Jvm.MethodName)) ∈ TT := mt (i := 1020) (by decide +kernel) (by decide +kernel)
theorem wd_764 : (Jvm.Cond.selects "TopYard$Sheet" ({ cls := "TopYard$Sheet", name := "spans", desc := "(II)Z" } : Jvm.MethodName) ({ cls := "TopYard$Sheet", name := "spans", desc := "(II)Z" } : Jvm.MethodName)) ∈ TT := mt (i := 1021) (by decide +kernel) (by decide +kernel)
theorem wd_765 : (Jvm.Cond.code ({ cls := "TopYard$Sheet", name := "spans", desc := "(II)Z" } : Jvm.MethodName) prog_9_method_5_code (3 : Nat) (Option.some Jvm.ClassFile.FieldType.boolean)) ∈ TT := mt (i := 1022) (by decide +kernel) (by decide +kernel)
theorem wd_766 : (Jvm.Cond.methodLink "TopYard" (369 : Nat) ({ cls := "java/lang/Math", name := "min", desc := "(II)I" } : Jvm.MethodName)) ∈ TT := mt (i := 1028) (by decide +kernel) (by decide +kernel)
theorem wd_767 : (Jvm.Cond.methodLink "TopYard" (378 : Nat) ({ cls := "TopYard", name := "count", desc := "(I)I" } : Jvm.MethodName)) ∈ TT := mt (i := 1039) (by decide +kernel) (by decide +kernel)
theorem wd_768 : (Jvm.Cond.instanceMethod ({ cls := "TopYard", name := "count", desc := "(I)I" } : Jvm.MethodName)) ∈ TT := mt (i := 1030) (by decide +kernel) (by decide +kernel)
theorem wd_769 : (Jvm.Cond.selects "TopYard" ({ cls := "TopYard", name := "count", desc := "(I)I" } : Jvm.MethodName) ({ cls := "TopYard", name := "count", desc := "(I)I" } : Jvm.MethodName)) ∈ TT := mt (i := 1031) (by decide +kernel) (by decide +kernel)
theorem wd_770 : (Jvm.Cond.code ({ cls := "TopYard", name := "count", desc := "(I)I" } : Jvm.MethodName) prog_1_method_47_code (2 : Nat) (Option.some Jvm.ClassFile.FieldType.int)) ∈ TT := mt (i := 1032) (by decide +kernel) (by decide +kernel)
theorem wd_771 : (Jvm.Cond.methodLink "TopYard" (381 : Nat) ({ cls := "TopYard", name := "about", desc := "(II)I" } : Jvm.MethodName)) ∈ TT := mt (i := 1040) (by decide +kernel) (by decide +kernel)
theorem wd_772 : (Jvm.Cond.instanceMethod ({ cls := "TopYard", name := "about", desc := "(II)I" } : Jvm.MethodName)) ∈ TT := mt (i := 399) (by decide +kernel) (by decide +kernel)
theorem wd_773 : (Jvm.Cond.selects "TopYard" ({ cls := "TopYard", name := "about", desc := "(II)I" } : Jvm.MethodName) ({ cls := "TopYard", name := "about", desc := "(II)I" } : Jvm.MethodName)) ∈ TT := mt (i := 400) (by decide +kernel) (by decide +kernel)
theorem wd_774 : (Jvm.Cond.code ({ cls := "TopYard", name := "about", desc := "(II)I" } : Jvm.MethodName) prog_1_method_4_code (4 : Nat) (Option.some Jvm.ClassFile.FieldType.int)) ∈ TT := mt (i := 401) (by decide +kernel) (by decide +kernel)
theorem wd_775 : (Jvm.Cond.methodLink "TopYard" (384 : Nat) ({ cls := "TopYard", name := "run", desc := "()I" } : Jvm.MethodName)) ∈ TT := mt (i := 1041) (by decide +kernel) (by decide +kernel)
theorem wd_776 : (Jvm.Cond.instanceMethod ({ cls := "TopYard", name := "run", desc := "()I" } : Jvm.MethodName)) ∈ TT := mt (i := 494) (by decide +kernel) (by decide +kernel)
theorem wd_777 : (Jvm.Cond.selects "TopYard" ({ cls := "TopYard", name := "run", desc := "()I" } : Jvm.MethodName) ({ cls := "TopYard", name := "run", desc := "()I" } : Jvm.MethodName)) ∈ TT := mt (i := 495) (by decide +kernel) (by decide +kernel)
theorem wd_778 : (Jvm.Cond.code ({ cls := "TopYard", name := "run", desc := "()I" } : Jvm.MethodName) prog_1_method_15_code (1 : Nat) (Option.some Jvm.ClassFile.FieldType.int)) ∈ TT := mt (i := 496) (by decide +kernel) (by decide +kernel)
theorem wd_779 : (Jvm.Cond.methodLink "TopYard" (387 : Nat) ({ cls := "TopYard", name := "winner", desc := "()I" } : Jvm.MethodName)) ∈ TT := mt (i := 1042) (by decide +kernel) (by decide +kernel)
theorem wd_780 : (Jvm.Cond.instanceMethod ({ cls := "TopYard", name := "winner", desc := "()I" } : Jvm.MethodName)) ∈ TT := mt (i := 598) (by decide +kernel) (by decide +kernel)
theorem wd_781 : (Jvm.Cond.selects "TopYard" ({ cls := "TopYard", name := "winner", desc := "()I" } : Jvm.MethodName) ({ cls := "TopYard", name := "winner", desc := "()I" } : Jvm.MethodName)) ∈ TT := mt (i := 599) (by decide +kernel) (by decide +kernel)
theorem wd_782 : (Jvm.Cond.code ({ cls := "TopYard", name := "winner", desc := "()I" } : Jvm.MethodName) prog_1_method_16_code (1 : Nat) (Option.some Jvm.ClassFile.FieldType.int)) ∈ TT := mt (i := 600) (by decide +kernel) (by decide +kernel)
theorem wd_783 : (Jvm.Cond.methodLink "TopYard" (390 : Nat) ({ cls := "TopYard", name := "value", desc := "()I" } : Jvm.MethodName)) ∈ TT := mt (i := 1043) (by decide +kernel) (by decide +kernel)
theorem wd_784 : (Jvm.Cond.instanceMethod ({ cls := "TopYard", name := "value", desc := "()I" } : Jvm.MethodName)) ∈ TT := mt (i := 668) (by decide +kernel) (by decide +kernel)
theorem wd_785 : (Jvm.Cond.selects "TopYard" ({ cls := "TopYard", name := "value", desc := "()I" } : Jvm.MethodName) ({ cls := "TopYard", name := "value", desc := "()I" } : Jvm.MethodName)) ∈ TT := mt (i := 669) (by decide +kernel) (by decide +kernel)
theorem wd_786 : (Jvm.Cond.code ({ cls := "TopYard", name := "value", desc := "()I" } : Jvm.MethodName) prog_1_method_24_code (1 : Nat) (Option.some Jvm.ClassFile.FieldType.int)) ∈ TT := mt (i := 670) (by decide +kernel) (by decide +kernel)
theorem wd_787 : (Jvm.Cond.methodLink "TopYard" (393 : Nat) ({ cls := "TopYard$Bout", name := "spinUntil", desc := "(LTopYard$Bowl;[III)I" } : Jvm.MethodName)) ∈ TT := mt (i := 501) (by decide +kernel) (by decide +kernel)
theorem wd_788 : (Jvm.Cond.instanceMethod ({ cls := "TopYard$Bout", name := "spinUntil", desc := "(LTopYard$Bowl;[III)I" } : Jvm.MethodName)) ∈ TT := mt (i := 502) (by decide +kernel) (by decide +kernel)
theorem wd_789 : (Jvm.Cond.selects "TopYard$Bout" ({ cls := "TopYard$Bout", name := "spinUntil", desc := "(LTopYard$Bowl;[III)I" } : Jvm.MethodName) ({ cls := "TopYard$Bout", name := "spinUntil", desc := "(LTopYard$Bowl;[III)I" } : Jvm.MethodName)) ∈ TT := mt (i := 503) (by decide +kernel) (by decide +kernel)
theorem wd_790 : (Jvm.Cond.code ({ cls := "TopYard$Bout", name := "spinUntil", desc := "(LTopYard$Bowl;[III)I" } : Jvm.MethodName) prog_2_method_7_code (6 : Nat) (Option.some Jvm.ClassFile.FieldType.int)) ∈ TT := mt (i := 504) (by decide +kernel) (by decide +kernel)
theorem wd_791 : (Jvm.Cond.methodLink "TopYard" (397 : Nat) ({ cls := "TopYard$Spinner", name := "fellInRing", desc := "()Z" } : Jvm.MethodName)) ∈ TT := mt (i := 663) (by decide +kernel) (by decide +kernel)
theorem wd_792 : (Jvm.Cond.instanceMethod ({ cls := "TopYard$Spinner", name := "fellInRing", desc := "()Z" } : Jvm.MethodName)) ∈ TT := mt (i := 664) (by decide +kernel) (by decide +kernel)
theorem wd_793 : (Jvm.Cond.selects "TopYard$Spinner" ({ cls := "TopYard$Spinner", name := "fellInRing", desc := "()Z" } : Jvm.MethodName) ({ cls := "TopYard$Spinner", name := "fellInRing", desc := "()Z" } : Jvm.MethodName)) ∈ TT := mt (i := 665) (by decide +kernel) (by decide +kernel)
theorem wd_794 : (Jvm.Cond.code ({ cls := "TopYard$Spinner", name := "fellInRing", desc := "()Z" } : Jvm.MethodName) prog_10_method_5_code (1 : Nat) (Option.some Jvm.ClassFile.FieldType.boolean)) ∈ TT := mt (i := 666) (by decide +kernel) (by decide +kernel)
theorem wd_795 : (Jvm.Cond.methodLink "TopYard" (400 : Nat) ({ cls := "TopYard$Past", name := "speaks", desc := "(II)Z" } : Jvm.MethodName)) ∈ TT := mt (i := 785) (by decide +kernel) (by decide +kernel)
theorem wd_796 : (Jvm.Cond.methodLink "TopYard" (403 : Nat) ({ cls := "TopYard$Past", name := "firstLike", desc := "(I)I" } : Jvm.MethodName)) ∈ TT := mt (i := 789) (by decide +kernel) (by decide +kernel)
theorem wd_797 : (Jvm.Cond.instanceMethod ({ cls := "TopYard$Past", name := "firstLike", desc := "(I)I" } : Jvm.MethodName)) ∈ TT := mt (i := 790) (by decide +kernel) (by decide +kernel)
theorem wd_798 : (Jvm.Cond.selects "TopYard$Past" ({ cls := "TopYard$Past", name := "firstLike", desc := "(I)I" } : Jvm.MethodName) ({ cls := "TopYard$Past", name := "firstLike", desc := "(I)I" } : Jvm.MethodName)) ∈ TT := mt (i := 791) (by decide +kernel) (by decide +kernel)
theorem wd_799 : (Jvm.Cond.code ({ cls := "TopYard$Past", name := "firstLike", desc := "(I)I" } : Jvm.MethodName) prog_8_method_4_code (3 : Nat) (Option.some Jvm.ClassFile.FieldType.int)) ∈ TT := mt (i := 792) (by decide +kernel) (by decide +kernel)
theorem wd_800 : (Jvm.Cond.methodLink "TopYard" (415 : Nat) ({ cls := "TopYard", name := "isTopOf", desc := "(II)Z" } : Jvm.MethodName)) ∈ TT := mt (i := 884) (by decide +kernel) (by decide +kernel)
theorem wd_801 : (Jvm.Cond.instanceMethod ({ cls := "TopYard", name := "isTopOf", desc := "(II)Z" } : Jvm.MethodName)) ∈ TT := mt (i := 886) (by decide +kernel) (by decide +kernel)
theorem wd_802 : (Jvm.Cond.code ({ cls := "TopYard", name := "isTopOf", desc := "(II)Z" } : Jvm.MethodName) prog_1_method_59_code (4 : Nat) (Option.some Jvm.ClassFile.FieldType.boolean)) ∈ TT := mt (i := 887) (by decide +kernel) (by decide +kernel)
theorem wd_803 : (Jvm.Cond.methodLink "TopYard" (418 : Nat) ({ cls := "java/lang/Math", name := "max", desc := "(II)I" } : Jvm.MethodName)) ∈ TT := mt (i := 892) (by decide +kernel) (by decide +kernel)
theorem wd_804 : (Jvm.Cond.methodLink "TopYard" (421 : Nat) ({ cls := "TopYard$Game", name := "mostBouts", desc := "()I" } : Jvm.MethodName)) ∈ TT := mt (i := 893) (by decide +kernel) (by decide +kernel)
theorem wd_805 : (Jvm.Cond.instanceMethod ({ cls := "TopYard$Game", name := "mostBouts", desc := "()I" } : Jvm.MethodName)) ∈ TT := mt (i := 894) (by decide +kernel) (by decide +kernel)
theorem wd_806 : (Jvm.Cond.selects "TopYard$Game" ({ cls := "TopYard$Game", name := "mostBouts", desc := "()I" } : Jvm.MethodName) ({ cls := "TopYard$Game", name := "mostBouts", desc := "()I" } : Jvm.MethodName)) ∈ TT := mt (i := 895) (by decide +kernel) (by decide +kernel)
theorem wd_807 : (Jvm.Cond.code ({ cls := "TopYard$Game", name := "mostBouts", desc := "()I" } : Jvm.MethodName) prog_5_method_4_code (1 : Nat) (Option.some Jvm.ClassFile.FieldType.int)) ∈ TT := mt (i := 896) (by decide +kernel) (by decide +kernel)
theorem wd_808 : (Jvm.Cond.methodLink "TopYard" (424 : Nat) ({ cls := "TopYard$Game", name := "winsNeeded", desc := "()I" } : Jvm.MethodName)) ∈ TT := mt (i := 897) (by decide +kernel) (by decide +kernel)
theorem wd_809 : (Jvm.Cond.instanceMethod ({ cls := "TopYard$Game", name := "winsNeeded", desc := "()I" } : Jvm.MethodName)) ∈ TT := mt (i := 898) (by decide +kernel) (by decide +kernel)
theorem wd_810 : (Jvm.Cond.selects "TopYard$Game" ({ cls := "TopYard$Game", name := "winsNeeded", desc := "()I" } : Jvm.MethodName) ({ cls := "TopYard$Game", name := "winsNeeded", desc := "()I" } : Jvm.MethodName)) ∈ TT := mt (i := 899) (by decide +kernel) (by decide +kernel)
theorem wd_811 : (Jvm.Cond.code ({ cls := "TopYard$Game", name := "winsNeeded", desc := "()I" } : Jvm.MethodName) prog_5_method_3_code (1 : Nat) (Option.some Jvm.ClassFile.FieldType.int)) ∈ TT := mt (i := 900) (by decide +kernel) (by decide +kernel)
theorem wd_812 : (Jvm.Cond.methodLink "TopYard" (427 : Nat) ({ cls := "TopYard", name := "nthTopOf", desc := "(II)I" } : Jvm.MethodName)) ∈ TT := mt (i := 901) (by decide +kernel) (by decide +kernel)
theorem wd_813 : (Jvm.Cond.instanceMethod ({ cls := "TopYard", name := "nthTopOf", desc := "(II)I" } : Jvm.MethodName)) ∈ TT := mt (i := 903) (by decide +kernel) (by decide +kernel)
theorem wd_814 : (Jvm.Cond.code ({ cls := "TopYard", name := "nthTopOf", desc := "(II)I" } : Jvm.MethodName) prog_1_method_60_code (5 : Nat) (Option.some Jvm.ClassFile.FieldType.int)) ∈ TT := mt (i := 904) (by decide +kernel) (by decide +kernel)
theorem wd_815 : (Jvm.Cond.methodLink "TopYard" (430 : Nat) ({ cls := "TopYard$Game", name := "turns", desc := "()I" } : Jvm.MethodName)) ∈ TT := mt (i := 905) (by decide +kernel) (by decide +kernel)
theorem wd_816 : (Jvm.Cond.instanceMethod ({ cls := "TopYard$Game", name := "turns", desc := "()I" } : Jvm.MethodName)) ∈ TT := mt (i := 906) (by decide +kernel) (by decide +kernel)
theorem wd_817 : (Jvm.Cond.selects "TopYard$Game" ({ cls := "TopYard$Game", name := "turns", desc := "()I" } : Jvm.MethodName) ({ cls := "TopYard$Game", name := "turns", desc := "()I" } : Jvm.MethodName)) ∈ TT := mt (i := 907) (by decide +kernel) (by decide +kernel)
theorem wd_818 : (Jvm.Cond.code ({ cls := "TopYard$Game", name := "turns", desc := "()I" } : Jvm.MethodName) prog_5_method_6_code (1 : Nat) (Option.some Jvm.ClassFile.FieldType.int)) ∈ TT := mt (i := 908) (by decide +kernel) (by decide +kernel)
theorem wd_819 : (Jvm.Cond.methodLink "TopYard" (433 : Nat) ({ cls := "TopYard$Game", name := "ring", desc := "()I" } : Jvm.MethodName)) ∈ TT := mt (i := 909) (by decide +kernel) (by decide +kernel)
theorem wd_820 : (Jvm.Cond.instanceMethod ({ cls := "TopYard$Game", name := "ring", desc := "()I" } : Jvm.MethodName)) ∈ TT := mt (i := 910) (by decide +kernel) (by decide +kernel)
theorem wd_821 : (Jvm.Cond.selects "TopYard$Game" ({ cls := "TopYard$Game", name := "ring", desc := "()I" } : Jvm.MethodName) ({ cls := "TopYard$Game", name := "ring", desc := "()I" } : Jvm.MethodName)) ∈ TT := mt (i := 911) (by decide +kernel) (by decide +kernel)
theorem wd_822 : (Jvm.Cond.code ({ cls := "TopYard$Game", name := "ring", desc := "()I" } : Jvm.MethodName) prog_5_method_5_code (1 : Nat) (Option.some Jvm.ClassFile.FieldType.int)) ∈ TT := mt (i := 912) (by decide +kernel) (by decide +kernel)
theorem wd_823 : (Jvm.Cond.methodLink "TopYard" (435 : Nat) ({ cls := "TopYard$Game", name := "keeps", desc := "()I" } : Jvm.MethodName)) ∈ TT := mt (i := 917) (by decide +kernel) (by decide +kernel)
theorem wd_824 : (Jvm.Cond.instanceMethod ({ cls := "TopYard$Game", name := "keeps", desc := "()I" } : Jvm.MethodName)) ∈ TT := mt (i := 918) (by decide +kernel) (by decide +kernel)
theorem wd_825 : (Jvm.Cond.selects "TopYard$Game" ({ cls := "TopYard$Game", name := "keeps", desc := "()I" } : Jvm.MethodName) ({ cls := "TopYard$Game", name := "keeps", desc := "()I" } : Jvm.MethodName)) ∈ TT := mt (i := 919) (by decide +kernel) (by decide +kernel)
theorem wd_826 : (Jvm.Cond.code ({ cls := "TopYard$Game", name := "keeps", desc := "()I" } : Jvm.MethodName) prog_5_method_7_code (1 : Nat) (Option.some Jvm.ClassFile.FieldType.int)) ∈ TT := mt (i := 920) (by decide +kernel) (by decide +kernel)
theorem wd_827 : (Jvm.Cond.methodLink "TopYard" (438 : Nat) ({ cls := "java/lang/Integer", name := "numberOfTrailingZeros", desc := "(I)I" } : Jvm.MethodName)) ∈ TT := mt (i := 938) (by decide +kernel) (by decide +kernel)
theorem wd_828 : (Jvm.Cond.methodLink "TopYard" (441 : Nat) ({ cls := "TopYard", name := "bestMate", desc := "(III)I" } : Jvm.MethodName)) ∈ TT := mt (i := 939) (by decide +kernel) (by decide +kernel)
theorem wd_829 : (Jvm.Cond.instanceMethod ({ cls := "TopYard", name := "bestMate", desc := "(III)I" } : Jvm.MethodName)) ∈ TT := mt (i := 941) (by decide +kernel) (by decide +kernel)
theorem wd_830 : (Jvm.Cond.code ({ cls := "TopYard", name := "bestMate", desc := "(III)I" } : Jvm.MethodName) prog_1_method_64_code (11 : Nat) (Option.some Jvm.ClassFile.FieldType.int)) ∈ TT := mt (i := 942) (by decide +kernel) (by decide +kernel)
theorem wd_831 : (Jvm.Cond.methodLink "TopYard" (445 : Nat) ({ cls := "TopYard", name := "costOfPair", desc := "([III)J" } : Jvm.MethodName)) ∈ TT := mt (i := 943) (by decide +kernel) (by decide +kernel)
theorem wd_832 : (Jvm.Cond.static ({ cls := "TopYard", name := "costOfPair", desc := "([III)J" } : Jvm.MethodName)) ∈ TT := mt (i := 944) (by decide +kernel) (by decide +kernel)
theorem wd_833 : (Jvm.Cond.code ({ cls := "TopYard", name := "costOfPair", desc := "([III)J" } : Jvm.MethodName) prog_1_method_65_code (5 : Nat) (Option.some Jvm.ClassFile.FieldType.long)) ∈ TT := mt (i := 945) (by decide +kernel) (by decide +kernel)
theorem wd_834 : (Jvm.Cond.methodLink "TopYard" (449 : Nat) ({ cls := "TopYard", name := "leastCost", desc := "([III)J" } : Jvm.MethodName)) ∈ TT := mt (i := 946) (by decide +kernel) (by decide +kernel)
theorem wd_835 : (Jvm.Cond.static ({ cls := "TopYard", name := "leastCost", desc := "([III)J" } : Jvm.MethodName)) ∈ TT := mt (i := 947) (by decide +kernel) (by decide +kernel)
theorem wd_836 : (Jvm.Cond.code ({ cls := "TopYard", name := "leastCost", desc := "([III)J" } : Jvm.MethodName) prog_1_method_66_code (10 : Nat) (Option.some Jvm.ClassFile.FieldType.long)) ∈ TT := mt (i := 948) (by decide +kernel) (by decide +kernel)
theorem wd_837 : (Jvm.Cond.methodLink "TopYard" (454 : Nat) ({ cls := "java/lang/Math", name := "max", desc := "(JJ)J" } : Jvm.MethodName)) ∈ TT := mt (i := 950) (by decide +kernel) (by decide +kernel)
theorem wd_838 : (Jvm.Cond.static ({ cls := "java/lang/Math", name := "max", desc := "(JJ)J" } : Jvm.MethodName)) ∈ TT := mt (i := 951) (by decide +kernel) (by decide +kernel)
theorem wd_839 : (Jvm.Cond.code ({ cls := "java/lang/Math", name := "max", desc := "(JJ)J" } : Jvm.MethodName) prog_15_method_66_code (4 : Nat) (Option.some Jvm.ClassFile.FieldType.long)) ∈ TT := mt (i := 952) (by decide +kernel) (by decide +kernel)
theorem wd_840 : (Jvm.Cond.methodLink "TopYard" (90 : Nat) ({ cls := "TopYard", name := "within", desc := "(III)Z" } : Jvm.MethodName)) ∈ TT := mt (i := 343) (by decide +kernel) (by decide +kernel)
theorem wd_841 : (Jvm.Cond.static ({ cls := "TopYard", name := "within", desc := "(III)Z" } : Jvm.MethodName)) ∈ TT := mt (i := 344) (by decide +kernel) (by decide +kernel)
theorem wd_842 : (Jvm.Cond.code ({ cls := "TopYard", name := "within", desc := "(III)Z" } : Jvm.MethodName) prog_1_method_49_code (3 : Nat) (Option.some Jvm.ClassFile.FieldType.boolean)) ∈ TT := mt (i := 345) (by decide +kernel) (by decide +kernel)
theorem wd_843 : (Jvm.Cond.methodLink "TopYard" (94 : Nat) ({ cls := "TopYard$Headings", name := "alongX", desc := "(I)I" } : Jvm.MethodName)) ∈ TT := mt (i := 346) (by decide +kernel) (by decide +kernel)
theorem lk_Bt_100 : LV "TopYard$Bout" 100 y_Sp_fall b_Sp_fall 2 none 1 := ⟨wd_245, wd_246, wd_247, wd_248, wd_249, ⟨by decide +kernel, by decide +kernel, by decide +kernel⟩, by decide⟩
theorem lk_Bt_103 : LV "TopYard$Bout" 103 y_Bt_at b_Bt_at 2 (some (.object "TopYard$Spinner")) 1 := ⟨wd_250, wd_251, wd_252, wd_253, wd_254, ⟨by decide +kernel, by decide +kernel, by decide +kernel⟩, by decide⟩
theorem lk_Bt_133 : LSt "TopYard$Bout" 133 y_Bt_lock b_Bt_lock 8 none 2 := ⟨wd_255, wd_256, wd_253, wd_257, ⟨by decide +kernel, by decide +kernel, by decide +kernel⟩, by decide⟩
theorem lk_Bt_138 : LSt "TopYard$Bout" 138 y_Bt_bounce b_Bt_bounce 14 none 5 := ⟨wd_258, wd_259, wd_253, wd_260, ⟨by decide +kernel, by decide +kernel, by decide +kernel⟩, by decide⟩
theorem lk_Bt_142 : LSt "TopYard$Bout" 142 y_Bt_passSpin b_Bt_passSpin 4 none 2 := ⟨wd_261, wd_262, wd_253, wd_263, ⟨by decide +kernel, by decide +kernel, by decide +kernel⟩, by decide⟩
theorem lk_Bt_148 : LSt "TopYard$Bout" 148 y_JM_max1 b_JM_max1 2 (some .int) 2 := ⟨wd_264, wd_265, wd_266, wd_267, ⟨by decide +kernel, by decide +kernel, by decide +kernel⟩, by decide⟩
theorem lk_Bt_48 : LV "TopYard$Bout" 48 y_Bt_begin b_Bt_begin 5 none 1 := ⟨wd_268, wd_269, (ms (i := 2) (by decide +kernel) (by decide +kernel)), wd_253, wd_270, ⟨by decide +kernel, by decide +kernel, by decide +kernel⟩, by decide⟩
theorem lk_Bt_52 : LV "TopYard$Bout" 52 y_Bt_step b_Bt_step 6 none 3 := ⟨wd_271, wd_272, (ms (i := 3) (by decide +kernel) (by decide +kernel)), wd_253, wd_273, ⟨by decide +kernel, by decide +kernel, by decide +kernel⟩, by decide⟩
theorem lk_Bt_56 : LV "TopYard$Bout" 56 y_Bt_standing b_Bt_standing 3 (some .int) 0 := ⟨wd_274, wd_275, (ms (i := 7) (by decide +kernel) (by decide +kernel)), wd_253, wd_276, ⟨by decide +kernel, by decide +kernel, by decide +kernel⟩, by decide⟩
theorem lk_Bt_60 : LV "TopYard$Bout" 60 y_Sp_stands b_Sp_stands 1 (some .boolean) 0 := ⟨wd_277, wd_278, wd_279, wd_248, wd_280, ⟨by decide +kernel, by decide +kernel, by decide +kernel⟩, by decide⟩
theorem lk_Bt_69 : LV "TopYard$Bout" 69 y_Sp_begin b_Sp_begin 2 none 1 := ⟨wd_281, wd_282, wd_283, wd_248, wd_284, ⟨by decide +kernel, by decide +kernel, by decide +kernel⟩, by decide⟩
theorem lk_Bt_72 : LV "TopYard$Bout" 72 y_Bt_lash b_Bt_lash 4 none 1 := ⟨wd_285, wd_286, (ms (i := 4) (by decide +kernel) (by decide +kernel)), wd_253, wd_287, ⟨by decide +kernel, by decide +kernel, by decide +kernel⟩, by decide⟩
theorem lk_Bt_75 : LV "TopYard$Bout" 75 y_Sp_slow b_Sp_slow 1 none 0 := ⟨wd_288, wd_289, wd_290, wd_248, wd_291, ⟨by decide +kernel, by decide +kernel, by decide +kernel⟩, by decide⟩
theorem lk_Bt_78 : LV "TopYard$Bout" 78 y_Sp_tilt b_Sp_tilt 1 none 0 := ⟨wd_292, wd_293, wd_294, wd_248, wd_295, ⟨by decide +kernel, by decide +kernel, by decide +kernel⟩, by decide⟩
theorem lk_Bt_81 : LV "TopYard$Bout" 81 y_Sp_push b_Sp_push 4 none 1 := ⟨wd_296, wd_297, wd_298, wd_248, wd_299, ⟨by decide +kernel, by decide +kernel, by decide +kernel⟩, by decide⟩
theorem lk_Bt_85 : LV "TopYard$Bout" 85 y_Sp_move b_Sp_move 1 none 0 := ⟨wd_300, wd_301, wd_302, wd_248, wd_303, ⟨by decide +kernel, by decide +kernel, by decide +kernel⟩, by decide⟩
theorem lk_Bt_93 : LV "TopYard$Bout" 93 y_Sp_leave b_Sp_leave 2 none 1 := ⟨wd_304, wd_305, wd_306, wd_248, wd_307, ⟨by decide +kernel, by decide +kernel, by decide +kernel⟩, by decide⟩
theorem lk_Bt_96 : LV "TopYard$Bout" 96 y_Bt_collide b_Bt_collide 13 none 2 := ⟨wd_308, wd_309, (ms (i := 6) (by decide +kernel) (by decide +kernel)), wd_253, wd_310, ⟨by decide +kernel, by decide +kernel, by decide +kernel⟩, by decide⟩
theorem lk_Bw_23 : LSt "TopYard$Bowl" 23 y_Bw_mayDent b_Bw_mayDent 2 (some .boolean) 2 := ⟨wd_311, wd_312, wd_313, wd_314, ⟨by decide +kernel, by decide +kernel, by decide +kernel⟩, by decide⟩
theorem lk_Bw_27 : LSt "TopYard$Bowl" 27 y_JA_fill b_JA_fill 4 none 2 := ⟨wd_315, wd_316, wd_317, wd_318, ⟨by decide +kernel, by decide +kernel, by decide +kernel⟩, by decide⟩
theorem lk_Bw_33 : LV "TopYard$Bowl" 33 y_Bw_heightAt b_Bw_heightAt 4 (some .int) 2 := ⟨wd_319, wd_320, wd_321, wd_313, wd_322, ⟨by decide +kernel, by decide +kernel, by decide +kernel⟩, by decide⟩
theorem lk_Ch_101 : LV "TopYard$Choice" 101 y_Ch_noShareIsNegative b_Ch_noShareIsNegative 2 (some .boolean) 0 := ⟨wd_323, wd_324, (ms (i := 16) (by decide +kernel) (by decide +kernel)), wd_325, wd_326, ⟨by decide +kernel, by decide +kernel, by decide +kernel⟩, by decide⟩
theorem lk_Ch_105 : LV "TopYard$Choice" 105 y_Ch_holdsForRows b_Ch_holdsForRows 5 (some .boolean) 0 := ⟨wd_327, wd_328, (ms (i := 17) (by decide +kernel) (by decide +kernel)), wd_325, wd_329, ⟨by decide +kernel, by decide +kernel, by decide +kernel⟩, by decide⟩
theorem lk_Ch_108 : LV "TopYard$Choice" 108 y_Ch_holdsForColumns b_Ch_holdsForColumns 5 (some .boolean) 0 := ⟨wd_330, wd_331, (ms (i := 18) (by decide +kernel) (by decide +kernel)), wd_325, wd_332, ⟨by decide +kernel, by decide +kernel, by decide +kernel⟩, by decide⟩
theorem lk_Ch_47 : LSt "TopYard$Choice" 47 y_JA_fill b_JA_fill 4 none 2 := ⟨wd_333, wd_316, wd_317, wd_318, ⟨by decide +kernel, by decide +kernel, by decide +kernel⟩, by decide⟩
theorem lk_Ch_55 : LV "TopYard$Choice" 55 y_Ch_inMillionths b_Ch_inMillionths 3 (some .int) 1 := ⟨wd_334, wd_335, wd_336, wd_325, wd_337, ⟨by decide +kernel, by decide +kernel, by decide +kernel⟩, by decide⟩
theorem lk_Ch_61 : LSt "TopYard$Choice" 61 y_JM_floorDiv b_JM_floorDiv 6 (some .long) 2 := ⟨wd_338, wd_339, wd_266, wd_340, ⟨by decide +kernel, by decide +kernel, by decide +kernel⟩, by decide⟩
theorem lk_Ch_67 : LV "TopYard$Choice" 67 y_Ch_findDeterminants b_Ch_findDeterminants 3 none 0 := ⟨wd_341, wd_342, (ms (i := 9) (by decide +kernel) (by decide +kernel)), wd_325, wd_343, ⟨by decide +kernel, by decide +kernel, by decide +kernel⟩, by decide⟩
theorem lk_Ch_70 : LV "TopYard$Choice" 70 y_Ch_solveBySize b_Ch_solveBySize 5 (some .boolean) 1 := ⟨wd_344, wd_345, (ms (i := 12) (by decide +kernel) (by decide +kernel)), wd_325, wd_346, ⟨by decide +kernel, by decide +kernel, by decide +kernel⟩, by decide⟩
theorem lk_Ch_74 : LSt "TopYard$Choice" 74 y_JI_bitCount b_JI_bitCount 1 (some .int) 1 := ⟨wd_347, wd_348, wd_349, wd_350, ⟨by decide +kernel, by decide +kernel, by decide +kernel⟩, by decide⟩
theorem lk_Ch_80 : LV "TopYard$Choice" 80 y_Ch_expand b_Ch_expand 9 (some .long) 2 := ⟨wd_351, wd_352, (ms (i := 10) (by decide +kernel) (by decide +kernel)), wd_325, wd_353, ⟨by decide +kernel, by decide +kernel, by decide +kernel⟩, by decide⟩
theorem lk_Ch_84 : LSt "TopYard$Choice" 84 y_JI_numberOfTrailingZeros b_JI_numberOfTrailingZeros 2 (some .int) 1 := ⟨wd_354, wd_355, wd_349, wd_356, ⟨by decide +kernel, by decide +kernel, by decide +kernel⟩, by decide⟩
theorem lk_Ch_87 : LV "TopYard$Choice" 87 y_Ch_minor b_Ch_minor 6 (some .long) 4 := ⟨wd_357, wd_358, (ms (i := 11) (by decide +kernel) (by decide +kernel)), wd_325, wd_359, ⟨by decide +kernel, by decide +kernel, by decide +kernel⟩, by decide⟩
theorem lk_Ch_91 : LV "TopYard$Choice" 91 y_Ch_solveByPart b_Ch_solveByPart 5 (some .boolean) 2 := ⟨wd_360, wd_361, (ms (i := 13) (by decide +kernel) (by decide +kernel)), wd_325, wd_362, ⟨by decide +kernel, by decide +kernel, by decide +kernel⟩, by decide⟩
theorem lk_Ch_95 : LV "TopYard$Choice" 95 y_Ch_cofactor b_Ch_cofactor 9 (some .long) 4 := ⟨wd_363, wd_364, (ms (i := 14) (by decide +kernel) (by decide +kernel)), wd_325, wd_365, ⟨by decide +kernel, by decide +kernel, by decide +kernel⟩, by decide⟩
theorem lk_Ch_98 : LV "TopYard$Choice" 98 y_Ch_changeSigns b_Ch_changeSigns 2 none 0 := ⟨wd_366, wd_367, (ms (i := 15) (by decide +kernel) (by decide +kernel)), wd_325, wd_368, ⟨by decide +kernel, by decide +kernel, by decide +kernel⟩, by decide⟩
theorem lk_Ga_31 : LV "TopYard$Game" 31 y_Ga_letterAt b_Ga_letterAt 3 (some .int) 1 := ⟨wd_369, wd_370, (ms (i := 24) (by decide +kernel) (by decide +kernel)), wd_371, wd_372, ⟨by decide +kernel, by decide +kernel, by decide +kernel⟩, by decide⟩
theorem lk_Ga_35 : LV "TopYard$Game" 35 y_Ga_figuresAt b_Ga_figuresAt 2 (some .int) 1 := ⟨wd_373, wd_374, (ms (i := 26) (by decide +kernel) (by decide +kernel)), wd_371, wd_375, ⟨by decide +kernel, by decide +kernel, by decide +kernel⟩, by decide⟩
theorem lk_Ga_38 : LV "TopYard$Game" 38 y_Ga_numberAt b_Ga_numberAt 5 (some .int) 2 := ⟨wd_376, wd_377, (ms (i := 27) (by decide +kernel) (by decide +kernel)), wd_371, wd_378, ⟨by decide +kernel, by decide +kernel, by decide +kernel⟩, by decide⟩
theorem lk_Ga_48 : LV "TopYard$Game" 48 y_Ga_byteAt b_Ga_byteAt 2 (some .int) 1 := ⟨wd_379, wd_380, (ms (i := 25) (by decide +kernel) (by decide +kernel)), wd_371, wd_381, ⟨by decide +kernel, by decide +kernel, by decide +kernel⟩, by decide⟩
theorem lk_Ga_55 : LSt "TopYard$Game" 55 y_Ga_isFigure b_Ga_isFigure 1 (some .boolean) 1 := ⟨wd_382, wd_383, wd_371, wd_384, ⟨by decide +kernel, by decide +kernel, by decide +kernel⟩, by decide⟩
theorem lk_Hd_13 : LSt "TopYard$Headings" 13 y_Hd_alongX b_Hd_alongX 2 (some .int) 1 := ⟨wd_385, wd_386, wd_387, wd_388, ⟨by decide +kernel, by decide +kernel, by decide +kernel⟩, by decide⟩
theorem lk_M_164 : LSt "TopYardModel" 164 y_M_in b_M_in 6 (some .boolean) 3 := ⟨wd_389, wd_390, wd_391, wd_392, ⟨by decide +kernel, by decide +kernel, by decide +kernel⟩, by decide⟩
theorem lk_M_168 : LV "TopYardModel" 168 y_M_c b_M_c 2 (some .int) 1 := ⟨wd_393, wd_394, (ms (i := 36) (by decide +kernel) (by decide +kernel)), wd_391, wd_395, ⟨by decide +kernel, by decide +kernel, by decide +kernel⟩, by decide⟩
theorem lk_M_172 : LV "TopYardModel" 172 y_M_s b_M_s 2 (some .int) 1 := ⟨wd_396, wd_397, (ms (i := 37) (by decide +kernel) (by decide +kernel)), wd_391, wd_398, ⟨by decide +kernel, by decide +kernel, by decide +kernel⟩, by decide⟩
theorem lk_M_186 : LSt "TopYardModel" 186 y_M_isOwner b_M_isOwner 1 (some .boolean) 1 := ⟨wd_399, wd_400, wd_391, wd_401, ⟨by decide +kernel, by decide +kernel, by decide +kernel⟩, by decide⟩
theorem lk_M_190 : LV "TopYardModel" 190 y_M_isTop b_M_isTop 2 (some .boolean) 1 := ⟨wd_402, wd_403, (ms (i := 38) (by decide +kernel) (by decide +kernel)), wd_391, wd_404, ⟨by decide +kernel, by decide +kernel, by decide +kernel⟩, by decide⟩
theorem lk_M_208 : LV "TopYardModel" 208 y_M_heightOf b_M_heightOf 5 (some .int) 2 := ⟨wd_405, wd_406, (ms (i := 39) (by decide +kernel) (by decide +kernel)), wd_391, wd_407, ⟨by decide +kernel, by decide +kernel, by decide +kernel⟩, by decide⟩
theorem lk_M_219 : LV "TopYardModel" 219 y_M_slopeX b_M_slopeX 3 (some .int) 2 := ⟨wd_408, wd_409, (ms (i := 40) (by decide +kernel) (by decide +kernel)), wd_391, wd_410, ⟨by decide +kernel, by decide +kernel, by decide +kernel⟩, by decide⟩
theorem lk_M_222 : LV "TopYardModel" 222 y_M_slopeY b_M_slopeY 3 (some .int) 2 := ⟨wd_411, wd_412, (ms (i := 41) (by decide +kernel) (by decide +kernel)), wd_391, wd_413, ⟨by decide +kernel, by decide +kernel, by decide +kernel⟩, by decide⟩
theorem lk_M_250 : LSt "TopYardModel" 250 y_M_floor65 b_M_floor65 2 (some .int) 1 := ⟨wd_414, wd_415, wd_391, wd_416, ⟨by decide +kernel, by decide +kernel, by decide +kernel⟩, by decide⟩
theorem lk_M_266 : LV "TopYardModel" 266 y_M_moves b_M_moves 5 none 0 := ⟨wd_417, wd_418, (ms (i := 47) (by decide +kernel) (by decide +kernel)), wd_391, wd_419, ⟨by decide +kernel, by decide +kernel, by decide +kernel⟩, by decide⟩
theorem lk_M_269 : LV "TopYardModel" 269 y_M_knock b_M_knock 21 none 2 := ⟨wd_420, wd_421, (ms (i := 48) (by decide +kernel) (by decide +kernel)), wd_391, wd_422, ⟨by decide +kernel, by decide +kernel, by decide +kernel⟩, by decide⟩
theorem lk_M_273 : LV "TopYardModel" 273 y_M_standing b_M_standing 3 (some .int) 0 := ⟨wd_423, wd_424, (ms (i := 45) (by decide +kernel) (by decide +kernel)), wd_391, wd_425, ⟨by decide +kernel, by decide +kernel, by decide +kernel⟩, by decide⟩
theorem lk_M_277 : LV "TopYardModel" 277 y_M_ticks b_M_ticks 6 none 3 := ⟨wd_426, wd_427, (ms (i := 46) (by decide +kernel) (by decide +kernel)), wd_391, wd_428, ⟨by decide +kernel, by decide +kernel, by decide +kernel⟩, by decide⟩
theorem lk_M_281 : LV "TopYardModel" 281 y_M_begins b_M_begins 8 none 6 := ⟨wd_429, wd_430, (ms (i := 43) (by decide +kernel) (by decide +kernel)), wd_391, wd_431, ⟨by decide +kernel, by decide +kernel, by decide +kernel⟩, by decide⟩
theorem lk_M_285 : LV "TopYardModel" 285 y_M_runsTo b_M_runsTo 5 (some .int) 3 := ⟨wd_432, wd_433, (ms (i := 44) (by decide +kernel) (by decide +kernel)), wd_391, wd_434, ⟨by decide +kernel, by decide +kernel, by decide +kernel⟩, by decide⟩
theorem lk_M_289 : LV "TopYardModel" 289 y_M_runsBout b_M_runsBout 3 (some .int) 1 := ⟨wd_435, wd_436, (ms (i := 42) (by decide +kernel) (by decide +kernel)), wd_391, wd_437, ⟨by decide +kernel, by decide +kernel, by decide +kernel⟩, by decide⟩
theorem lk_M_292 : LV "TopYardModel" 292 y_M_alone b_M_alone 3 (some .int) 0 := ⟨wd_438, wd_439, (ms (i := 49) (by decide +kernel) (by decide +kernel)), wd_391, wd_440, ⟨by decide +kernel, by decide +kernel, by decide +kernel⟩, by decide⟩
theorem lk_M_295 : LV "TopYardModel" 295 y_M_stateOf b_M_stateOf 3 (some .int) 2 := ⟨wd_441, wd_442, (ms (i := 50) (by decide +kernel) (by decide +kernel)), wd_391, wd_443, ⟨by decide +kernel, by decide +kernel, by decide +kernel⟩, by decide⟩
theorem lk_M_298 : LV "TopYardModel" 298 y_M_comesTo b_M_comesTo 7 (some .int) 4 := ⟨wd_444, wd_445, (ms (i := 52) (by decide +kernel) (by decide +kernel)), wd_391, wd_446, ⟨by decide +kernel, by decide +kernel, by decide +kernel⟩, by decide⟩
theorem lk_M_302 : LV "TopYardModel" 302 y_M_expectedOf b_M_expectedOf 3 (some .int) 2 := ⟨wd_447, wd_448, (ms (i := 51) (by decide +kernel) (by decide +kernel)), wd_391, wd_449, ⟨by decide +kernel, by decide +kernel, by decide +kernel⟩, by decide⟩
theorem lk_M_311 : LV "TopYardModel" 311 y_M_isPay b_M_isPay 3 (some .boolean) 2 := ⟨wd_450, wd_451, (ms (i := 53) (by decide +kernel) (by decide +kernel)), wd_391, wd_452, ⟨by decide +kernel, by decide +kernel, by decide +kernel⟩, by decide⟩
theorem lk_M_317 : LV "TopYardModel" 317 y_M_det2 b_M_det2 5 (some .long) 4 := ⟨wd_453, wd_454, (ms (i := 57) (by decide +kernel) (by decide +kernel)), wd_391, wd_455, ⟨by decide +kernel, by decide +kernel, by decide +kernel⟩, by decide⟩
theorem lk_M_321 : LSt "TopYardModel" 321 y_M_without b_M_without 2 (some .int) 2 := ⟨wd_456, wd_457, wd_391, wd_458, ⟨by decide +kernel, by decide +kernel, by decide +kernel⟩, by decide⟩
theorem lk_M_324 : LV "TopYardModel" 324 y_M_det3 b_M_det3 7 (some .long) 6 := ⟨wd_459, wd_460, (ms (i := 58) (by decide +kernel) (by decide +kernel)), wd_391, wd_461, ⟨by decide +kernel, by decide +kernel, by decide +kernel⟩, by decide⟩
theorem lk_M_335 : LV "TopYardModel" 335 y_M_minor b_M_minor 8 (some .long) 3 := ⟨wd_462, wd_463, (ms (i := 56) (by decide +kernel) (by decide +kernel)), wd_391, wd_464, ⟨by decide +kernel, by decide +kernel, by decide +kernel⟩, by decide⟩
theorem lk_M_339 : LSt "TopYardModel" 339 y_M_ones b_M_ones 3 (some .int) 1 := ⟨wd_465, wd_466, wd_391, wd_467, ⟨by decide +kernel, by decide +kernel, by decide +kernel⟩, by decide⟩
theorem lk_M_342 : LV "TopYardModel" 342 y_M_takesPart b_M_takesPart 8 none 2 := ⟨wd_468, wd_469, (ms (i := 55) (by decide +kernel) (by decide +kernel)), wd_391, wd_470, ⟨by decide +kernel, by decide +kernel, by decide +kernel⟩, by decide⟩
theorem lk_M_345 : LV "TopYardModel" 345 y_M_isMix b_M_isMix 6 (some .boolean) 0 := ⟨wd_471, wd_472, (ms (i := 59) (by decide +kernel) (by decide +kernel)), wd_391, wd_473, ⟨by decide +kernel, by decide +kernel, by decide +kernel⟩, by decide⟩
theorem lk_M_349 : LV "TopYardModel" 349 y_M_findMix b_M_findMix 4 (some .boolean) 0 := ⟨wd_474, wd_475, (ms (i := 54) (by decide +kernel) (by decide +kernel)), wd_391, wd_476, ⟨by decide +kernel, by decide +kernel, by decide +kernel⟩, by decide⟩
theorem lk_M_359 : LSt "TopYardModel" 359 y_M_isSheet b_M_isSheet 1 (some .boolean) 1 := ⟨wd_477, wd_478, wd_391, wd_479, ⟨by decide +kernel, by decide +kernel, by decide +kernel⟩, by decide⟩
theorem lk_M_362 : LV "TopYardModel" 362 y_M_met2 b_M_met2 2 (some .int) 1 := ⟨wd_480, wd_481, (ms (i := 60) (by decide +kernel) (by decide +kernel)), wd_391, wd_482, ⟨by decide +kernel, by decide +kernel, by decide +kernel⟩, by decide⟩
theorem lk_M_365 : LV "TopYardModel" 365 y_M_was b_M_was 4 (some .int) 3 := ⟨wd_483, wd_484, wd_485, wd_391, wd_486, ⟨by decide +kernel, by decide +kernel, by decide +kernel⟩, by decide⟩
theorem lk_M_375 : LV "TopYardModel" 375 y_M_isOf b_M_isOf 3 (some .boolean) 2 := ⟨wd_487, wd_488, (ms (i := 62) (by decide +kernel) (by decide +kernel)), wd_391, wd_489, ⟨by decide +kernel, by decide +kernel, by decide +kernel⟩, by decide⟩
theorem lk_M_378 : LV "TopYardModel" 378 y_M_findWorn b_M_findWorn 5 none 1 := ⟨wd_490, wd_491, (ms (i := 61) (by decide +kernel) (by decide +kernel)), wd_391, wd_492, ⟨by decide +kernel, by decide +kernel, by decide +kernel⟩, by decide⟩
theorem lk_M_382 : LV "TopYardModel" 382 y_M_doubt b_M_doubt 6 (some .int) 0 := ⟨wd_493, wd_494, (ms (i := 63) (by decide +kernel) (by decide +kernel)), wd_391, wd_495, ⟨by decide +kernel, by decide +kernel, by decide +kernel⟩, by decide⟩
theorem lk_M_397 : LSt "TopYardModel" 397 y_M_ruleOf b_M_ruleOf 1 (some .int) 1 := ⟨wd_496, wd_497, wd_391, wd_498, ⟨by decide +kernel, by decide +kernel, by decide +kernel⟩, by decide⟩
theorem lk_M_400 : LV "TopYardModel" 400 y_M_isFigure b_M_isFigure 2 (some .boolean) 1 := ⟨wd_499, wd_500, (ms (i := 65) (by decide +kernel) (by decide +kernel)), wd_391, wd_501, ⟨by decide +kernel, by decide +kernel, by decide +kernel⟩, by decide⟩
theorem lk_M_403 : LSt "TopYardModel" 403 y_M_isRule b_M_isRule 2 (some .boolean) 2 := ⟨wd_502, wd_503, wd_391, wd_504, ⟨by decide +kernel, by decide +kernel, by decide +kernel⟩, by decide⟩
theorem lk_M_406 : LV "TopYardModel" 406 y_M_reads b_M_reads 7 none 0 := ⟨wd_505, wd_506, (ms (i := 64) (by decide +kernel) (by decide +kernel)), wd_391, wd_507, ⟨by decide +kernel, by decide +kernel, by decide +kernel⟩, by decide⟩
theorem lk_M_409 : LV "TopYardModel" 409 y_M_topsOf b_M_topsOf 4 (some .int) 1 := ⟨wd_508, wd_509, (ms (i := 66) (by decide +kernel) (by decide +kernel)), wd_391, wd_510, ⟨by decide +kernel, by decide +kernel, by decide +kernel⟩, by decide⟩
theorem lk_M_412 : LV "TopYardModel" 412 y_M_topOf b_M_topOf 5 (some .int) 2 := ⟨wd_511, wd_512, (ms (i := 67) (by decide +kernel) (by decide +kernel)), wd_391, wd_513, ⟨by decide +kernel, by decide +kernel, by decide +kernel⟩, by decide⟩
theorem lk_M_415 : LSt "TopYardModel" 415 y_M_first b_M_first 2 (some .int) 1 := ⟨wd_514, wd_515, wd_391, wd_516, ⟨by decide +kernel, by decide +kernel, by decide +kernel⟩, by decide⟩
theorem lk_M_418 : LV "TopYardModel" 418 y_M_costs b_M_costs 5 (some .int) 2 := ⟨wd_517, wd_518, (ms (i := 69) (by decide +kernel) (by decide +kernel)), wd_391, wd_519, ⟨by decide +kernel, by decide +kernel, by decide +kernel⟩, by decide⟩
theorem lk_M_421 : LV "TopYardModel" 421 y_M_findPairs b_M_findPairs 3 none 0 := ⟨wd_520, wd_521, (ms (i := 68) (by decide +kernel) (by decide +kernel)), wd_391, wd_522, ⟨by decide +kernel, by decide +kernel, by decide +kernel⟩, by decide⟩
theorem lk_M_429 : LV "TopYardModel" 429 y_M_lacks b_M_lacks 4 (some .int) 3 := ⟨wd_523, wd_524, (ms (i := 70) (by decide +kernel) (by decide +kernel)), wd_391, wd_525, ⟨by decide +kernel, by decide +kernel, by decide +kernel⟩, by decide⟩
theorem lk_M_432 : LSt "TopYardModel" 432 y_M_cut b_M_cut 2 (some .int) 2 := ⟨wd_526, wd_527, wd_391, wd_528, ⟨by decide +kernel, by decide +kernel, by decide +kernel⟩, by decide⟩
theorem lk_M_437 : LV "TopYardModel" 437 y_M_count b_M_count 2 (some .int) 1 := ⟨wd_529, wd_530, wd_531, wd_391, wd_532, ⟨by decide +kernel, by decide +kernel, by decide +kernel⟩, by decide⟩
theorem lk_M_440 : LV "TopYardModel" 440 y_M_run b_M_run 1 (some .int) 0 := ⟨wd_533, wd_534, wd_535, wd_391, wd_536, ⟨by decide +kernel, by decide +kernel, by decide +kernel⟩, by decide⟩
theorem lk_M_443 : LV "TopYardModel" 443 y_M_winner b_M_winner 2 (some .int) 0 := ⟨wd_537, wd_538, wd_539, wd_391, wd_540, ⟨by decide +kernel, by decide +kernel, by decide +kernel⟩, by decide⟩
theorem lk_M_446 : LV "TopYardModel" 446 y_M_value b_M_value 5 (some .int) 0 := ⟨wd_541, wd_542, wd_543, wd_391, wd_544, ⟨by decide +kernel, by decide +kernel, by decide +kernel⟩, by decide⟩
theorem lk_Pa_28 : LV "TopYard$Past" 28 y_Pa_speaks b_Pa_speaks 3 (some .boolean) 2 := ⟨wd_545, wd_546, wd_547, wd_548, wd_549, ⟨by decide +kernel, by decide +kernel, by decide +kernel⟩, by decide⟩
theorem lk_Pa_32 : LV "TopYard$Past" 32 y_Pa_sided b_Pa_sided 4 (some .int) 3 := ⟨wd_550, wd_551, (ms (i := 23) (by decide +kernel) (by decide +kernel)), wd_548, wd_552, ⟨by decide +kernel, by decide +kernel, by decide +kernel⟩, by decide⟩
theorem lk_Pa_36 : LV "TopYard$Past" 36 y_Pa_chances b_Pa_chances 4 (some .int) 1 := ⟨wd_553, wd_554, wd_555, wd_548, wd_556, ⟨by decide +kernel, by decide +kernel, by decide +kernel⟩, by decide⟩
theorem lk_Pa_40 : LV "TopYard$Past" 40 y_Pa_surprises b_Pa_surprises 4 (some .int) 1 := ⟨wd_557, wd_558, wd_559, wd_548, wd_560, ⟨by decide +kernel, by decide +kernel, by decide +kernel⟩, by decide⟩
theorem lk_Pk_25 : LSt "TopYard$Pack" 25 y_JM_min b_JM_min 2 (some .int) 2 := ⟨wd_561, wd_562, wd_266, wd_563, ⟨by decide +kernel, by decide +kernel, by decide +kernel⟩, by decide⟩
theorem lk_Pk_31 : LSt "TopYard$Pack" 31 y_JM_max1 b_JM_max1 2 (some .int) 2 := ⟨wd_564, wd_265, wd_266, wd_267, ⟨by decide +kernel, by decide +kernel, by decide +kernel⟩, by decide⟩
theorem lk_Pk_35 : LSt "TopYard$Pack" 35 y_JA_fill b_JA_fill 4 none 2 := ⟨wd_565, wd_316, wd_317, wd_318, ⟨by decide +kernel, by decide +kernel, by decide +kernel⟩, by decide⟩
theorem lk_Sh_26 : LSt "TopYard$Sheet" 26 y_JM_min b_JM_min 2 (some .int) 2 := ⟨wd_566, wd_562, wd_266, wd_563, ⟨by decide +kernel, by decide +kernel, by decide +kernel⟩, by decide⟩
theorem lk_Sh_32 : LSt "TopYard$Sheet" 32 y_JM_max1 b_JM_max1 2 (some .int) 2 := ⟨wd_567, wd_265, wd_266, wd_267, ⟨by decide +kernel, by decide +kernel, by decide +kernel⟩, by decide⟩
theorem lk_Sh_35 : LSt "TopYard$Sheet" 35 y_JA_fill b_JA_fill 4 none 2 := ⟨wd_568, wd_316, wd_317, wd_318, ⟨by decide +kernel, by decide +kernel, by decide +kernel⟩, by decide⟩
theorem lk_Sh_41 : LV "TopYard$Sheet" 41 y_Sh_narrowed b_Sh_narrowed 2 (some .int) 1 := ⟨wd_569, wd_570, (ms (i := 35) (by decide +kernel) (by decide +kernel)), wd_571, wd_572, ⟨by decide +kernel, by decide +kernel, by decide +kernel⟩, by decide⟩
theorem lk_Sp_105 : LV "TopYard$Spinner" 105 y_Bw_slopeAlongX b_Bw_slopeAlongX 3 (some .int) 2 := ⟨wd_573, wd_574, wd_575, wd_313, wd_576, ⟨by decide +kernel, by decide +kernel, by decide +kernel⟩, by decide⟩
theorem lk_Sp_110 : LV "TopYard$Spinner" 110 y_Bw_slopeAlongY b_Bw_slopeAlongY 3 (some .int) 2 := ⟨wd_577, wd_578, wd_579, wd_313, wd_580, ⟨by decide +kernel, by decide +kernel, by decide +kernel⟩, by decide⟩
theorem lk_Sp_113 : LSt "TopYard$Spinner" 113 y_JM_floorMod b_JM_floorMod 3 (some .int) 2 := ⟨wd_581, wd_582, wd_266, wd_583, ⟨by decide +kernel, by decide +kernel, by decide +kernel⟩, by decide⟩
theorem lk_Sp_118 : LV "TopYard$Spinner" 118 y_Sp_isWithin b_Sp_isWithin 4 (some .boolean) 1 := ⟨wd_584, wd_585, (ms (i := 5) (by decide +kernel) (by decide +kernel)), wd_248, wd_586, ⟨by decide +kernel, by decide +kernel, by decide +kernel⟩, by decide⟩
theorem lk_Sp_40 : LSt "TopYard$Spinner" 40 y_JM_max1 b_JM_max1 2 (some .int) 2 := ⟨wd_587, wd_265, wd_266, wd_267, ⟨by decide +kernel, by decide +kernel, by decide +kernel⟩, by decide⟩
theorem lk_Sp_73 : LSt "TopYard$Spinner" 73 y_Hd_alongX b_Hd_alongX 2 (some .int) 1 := ⟨wd_588, wd_386, wd_387, wd_388, ⟨by decide +kernel, by decide +kernel, by decide +kernel⟩, by decide⟩
theorem lk_Sp_82 : LSt "TopYard$Spinner" 82 y_Hd_alongY b_Hd_alongY 1 (some .int) 1 := ⟨wd_589, wd_590, wd_387, wd_591, ⟨by decide +kernel, by decide +kernel, by decide +kernel⟩, by decide⟩
theorem lk_Sp_88 : LSt "TopYard$Spinner" 88 y_JM_min b_JM_min 2 (some .int) 2 := ⟨wd_592, wd_562, wd_266, wd_563, ⟨by decide +kernel, by decide +kernel, by decide +kernel⟩, by decide⟩
theorem lk_Sp_99 : LSt "TopYard$Spinner" 99 y_JM_floorDiv b_JM_floorDiv 6 (some .long) 2 := ⟨wd_593, wd_339, wd_266, wd_340, ⟨by decide +kernel, by decide +kernel, by decide +kernel⟩, by decide⟩
theorem lk_X_100 : LSt "TopYard" 100 y_Hd_alongY b_Hd_alongY 1 (some .int) 1 := ⟨wd_594, wd_590, wd_387, wd_591, ⟨by decide +kernel, by decide +kernel, by decide +kernel⟩, by decide⟩
theorem lk_X_103 : LSt "TopYard" 103 y_X_isOwner b_X_isOwner 1 (some .boolean) 1 := ⟨wd_595, wd_596, wd_597, wd_598, ⟨by decide +kernel, by decide +kernel, by decide +kernel⟩, by decide⟩
theorem lk_X_110 : LV "TopYard" 110 y_X_topAt b_X_topAt 2 (some (.object "TopYard$Top")) 1 := ⟨wd_599, wd_600, (ms (i := 0) (by decide +kernel) (by decide +kernel)), wd_597, wd_601, ⟨by decide +kernel, by decide +kernel, by decide +kernel⟩, by decide⟩
theorem lk_X_138 : LSt "TopYard" 138 y_Bw_mayDent b_Bw_mayDent 2 (some .boolean) 2 := ⟨wd_602, wd_312, wd_313, wd_314, ⟨by decide +kernel, by decide +kernel, by decide +kernel⟩, by decide⟩
theorem lk_X_142 : LV "TopYard" 142 y_Bw_raise b_Bw_raise 4 (some .boolean) 3 := ⟨wd_603, wd_604, wd_605, wd_313, wd_606, ⟨by decide +kernel, by decide +kernel, by decide +kernel⟩, by decide⟩
theorem lk_X_148 : LV "TopYard" 148 y_Bw_flatten b_Bw_flatten 1 none 0 := ⟨wd_607, wd_608, wd_609, wd_313, wd_610, ⟨by decide +kernel, by decide +kernel, by decide +kernel⟩, by decide⟩
theorem lk_X_152 : LV "TopYard" 152 y_Bw_heightAt b_Bw_heightAt 4 (some .int) 2 := ⟨wd_611, wd_320, wd_321, wd_313, wd_322, ⟨by decide +kernel, by decide +kernel, by decide +kernel⟩, by decide⟩
theorem lk_X_156 : LV "TopYard" 156 y_Bw_slopeAlongX b_Bw_slopeAlongX 3 (some .int) 2 := ⟨wd_612, wd_574, wd_575, wd_313, wd_576, ⟨by decide +kernel, by decide +kernel, by decide +kernel⟩, by decide⟩
theorem lk_X_159 : LV "TopYard" 159 y_Bw_slopeAlongY b_Bw_slopeAlongY 3 (some .int) 2 := ⟨wd_613, wd_578, wd_579, wd_313, wd_580, ⟨by decide +kernel, by decide +kernel, by decide +kernel⟩, by decide⟩
theorem lk_X_162 : LV "TopYard" 162 y_Bt_holds b_Bt_holds 3 (some .boolean) 1 := ⟨wd_614, wd_615, wd_616, wd_253, wd_617, ⟨by decide +kernel, by decide +kernel, by decide +kernel⟩, by decide⟩
theorem lk_X_165 : LV "TopYard" 165 y_Bt_addSpinner b_Bt_addSpinner 4 (some (.object "TopYard$Spinner")) 2 := ⟨wd_618, wd_619, wd_620, wd_253, wd_621, ⟨by decide +kernel, by decide +kernel, by decide +kernel⟩, by decide⟩
theorem lk_X_169 : LV "TopYard" 169 y_Sp_set b_Sp_set 5 none 4 := ⟨wd_622, wd_623, wd_624, wd_248, wd_625, ⟨by decide +kernel, by decide +kernel, by decide +kernel⟩, by decide⟩
theorem lk_X_178 : LV "TopYard" 178 y_Bt_empty b_Bt_empty 1 none 0 := ⟨wd_626, wd_627, wd_628, wd_253, wd_629, ⟨by decide +kernel, by decide +kernel, by decide +kernel⟩, by decide⟩
theorem lk_X_181 : LV "TopYard" 181 y_Bt_addWhip b_Bt_addWhip 4 (some .boolean) 3 := ⟨wd_630, wd_631, wd_632, wd_253, wd_633, ⟨by decide +kernel, by decide +kernel, by decide +kernel⟩, by decide⟩
theorem lk_X_187 : LV "TopYard" 187 y_X_spinBout b_X_spinBout 2 (some .int) 1 := ⟨wd_634, wd_635, (ms (i := 1) (by decide +kernel) (by decide +kernel)), wd_597, wd_636, ⟨by decide +kernel, by decide +kernel, by decide +kernel⟩, by decide⟩
theorem lk_X_190 : LV "TopYard" 190 y_Bt_lonePlace b_Bt_lonePlace 2 (some .int) 0 := ⟨wd_637, wd_638, wd_639, wd_253, wd_640, ⟨by decide +kernel, by decide +kernel, by decide +kernel⟩, by decide⟩
theorem lk_X_200 : LV "TopYard" 200 y_Bt_at b_Bt_at 2 (some (.object "TopYard$Spinner")) 1 := ⟨wd_641, wd_251, wd_252, wd_253, wd_254, ⟨by decide +kernel, by decide +kernel, by decide +kernel⟩, by decide⟩
theorem lk_X_204 : LV "TopYard" 204 y_Sp_figure b_Sp_figure 2 (some .int) 1 := ⟨wd_642, wd_643, wd_644, wd_248, wd_645, ⟨by decide +kernel, by decide +kernel, by decide +kernel⟩, by decide⟩
theorem lk_X_213 : LV "TopYard" 213 y_Ch_begin b_Ch_begin 2 none 0 := ⟨wd_646, wd_647, wd_648, wd_325, wd_649, ⟨by decide +kernel, by decide +kernel, by decide +kernel⟩, by decide⟩
theorem lk_X_216 : LV "TopYard" 216 y_Ch_addRow b_Ch_addRow 2 (some .int) 1 := ⟨wd_650, wd_651, wd_652, wd_325, wd_653, ⟨by decide +kernel, by decide +kernel, by decide +kernel⟩, by decide⟩
theorem lk_X_219 : LV "TopYard" 219 y_Ch_addColumn b_Ch_addColumn 2 (some .int) 1 := ⟨wd_654, wd_655, wd_656, wd_325, wd_657, ⟨by decide +kernel, by decide +kernel, by decide +kernel⟩, by decide⟩
theorem lk_X_222 : LV "TopYard" 222 y_Ch_has b_Ch_has 3 (some .boolean) 2 := ⟨wd_658, wd_659, wd_660, wd_325, wd_661, ⟨by decide +kernel, by decide +kernel, by decide +kernel⟩, by decide⟩
theorem lk_X_229 : LV "TopYard" 229 y_Ch_isOpen b_Ch_isOpen 1 (some .boolean) 0 := ⟨wd_662, wd_663, wd_664, wd_325, wd_665, ⟨by decide +kernel, by decide +kernel, by decide +kernel⟩, by decide⟩
theorem lk_X_239 : LV "TopYard" 239 y_X_duel b_X_duel 10 (some .int) 4 := ⟨wd_666, wd_667, (ms (i := 8) (by decide +kernel) (by decide +kernel)), wd_597, wd_668, ⟨by decide +kernel, by decide +kernel, by decide +kernel⟩, by decide⟩
theorem lk_X_243 : LV "TopYard" 243 y_Ch_solve b_Ch_solve 3 none 0 := ⟨wd_669, wd_670, wd_671, wd_325, wd_672, ⟨by decide +kernel, by decide +kernel, by decide +kernel⟩, by decide⟩
theorem lk_X_246 : LV "TopYard" 246 y_Ch_valueInMillionths b_Ch_valueInMillionths 1 (some .int) 0 := ⟨wd_673, wd_674, wd_675, wd_325, wd_676, ⟨by decide +kernel, by decide +kernel, by decide +kernel⟩, by decide⟩
theorem lk_X_256 : LV "TopYard" 256 y_Ch_inMillionths b_Ch_inMillionths 3 (some .int) 1 := ⟨wd_677, wd_335, wd_336, wd_325, wd_337, ⟨by decide +kernel, by decide +kernel, by decide +kernel⟩, by decide⟩
theorem lk_X_260 : LV "TopYard" 260 y_X_mayBeRow b_X_mayBeRow 4 (some .boolean) 3 := ⟨wd_678, wd_679, (ms (i := 19) (by decide +kernel) (by decide +kernel)), wd_597, wd_680, ⟨by decide +kernel, by decide +kernel, by decide +kernel⟩, by decide⟩
theorem lk_X_263 : LV "TopYard" 263 y_Pa_add b_Pa_add 4 (some .boolean) 3 := ⟨wd_681, wd_682, wd_683, wd_548, wd_684, ⟨by decide +kernel, by decide +kernel, by decide +kernel⟩, by decide⟩
theorem lk_X_267 : LV "TopYard" 267 y_X_sheetAt b_X_sheetAt 2 (some (.object "TopYard$Sheet")) 1 := ⟨wd_685, wd_686, (ms (i := 20) (by decide +kernel) (by decide +kernel)), wd_597, wd_687, ⟨by decide +kernel, by decide +kernel, by decide +kernel⟩, by decide⟩
theorem lk_X_275 : LV "TopYard" 275 y_X_find b_X_find 2 (some .int) 1 := ⟨wd_688, wd_689, (ms (i := 21) (by decide +kernel) (by decide +kernel)), wd_597, wd_690, ⟨by decide +kernel, by decide +kernel, by decide +kernel⟩, by decide⟩
theorem lk_X_281 : LV "TopYard" 281 y_Sh_item b_Sh_item 2 (some .int) 1 := ⟨wd_691, wd_692, wd_693, wd_571, wd_694, ⟨by decide +kernel, by decide +kernel, by decide +kernel⟩, by decide⟩
theorem lk_X_284 : LV "TopYard" 284 y_X_foretellRows b_X_foretellRows 4 none 1 := ⟨wd_695, wd_696, (ms (i := 22) (by decide +kernel) (by decide +kernel)), wd_597, wd_697, ⟨by decide +kernel, by decide +kernel, by decide +kernel⟩, by decide⟩
theorem lk_X_288 : LV "TopYard" 288 y_Pa_surprises b_Pa_surprises 4 (some .int) 1 := ⟨wd_698, wd_558, wd_559, wd_548, wd_560, ⟨by decide +kernel, by decide +kernel, by decide +kernel⟩, by decide⟩
theorem lk_X_291 : LV "TopYard" 291 y_Pa_chances b_Pa_chances 4 (some .int) 1 := ⟨wd_699, wd_554, wd_555, wd_548, wd_556, ⟨by decide +kernel, by decide +kernel, by decide +kernel⟩, by decide⟩
theorem lk_X_294 : LV "TopYard" 294 y_Pa_doubt b_Pa_doubt 9 (some .int) 1 := ⟨wd_700, wd_701, wd_702, wd_548, wd_703, ⟨by decide +kernel, by decide +kernel, by decide +kernel⟩, by decide⟩
theorem lk_X_298 : LV "TopYard" 298 y_Pa_rowsAsTold b_Pa_rowsAsTold 4 (some .int) 1 := ⟨wd_704, wd_705, wd_706, wd_548, wd_707, ⟨by decide +kernel, by decide +kernel, by decide +kernel⟩, by decide⟩
theorem lk_X_301 : LV "TopYard" 301 y_Ga_append b_Ga_append 2 (some .boolean) 1 := ⟨wd_708, wd_709, wd_710, wd_371, wd_711, ⟨by decide +kernel, by decide +kernel, by decide +kernel⟩, by decide⟩
theorem lk_X_305 : LV "TopYard" 305 y_Ga_parse b_Ga_parse 7 (some .int) 0 := ⟨wd_712, wd_713, wd_714, wd_371, wd_715, ⟨by decide +kernel, by decide +kernel, by decide +kernel⟩, by decide⟩
theorem lk_X_308 : LV "TopYard" 308 y_X_topsOf b_X_topsOf 4 (some .int) 1 := ⟨wd_716, wd_717, (ms (i := 28) (by decide +kernel) (by decide +kernel)), wd_597, wd_718, ⟨by decide +kernel, by decide +kernel, by decide +kernel⟩, by decide⟩
theorem lk_X_311 : LV "TopYard" 311 y_X_playBouts b_X_playBouts 9 none 2 := ⟨wd_719, wd_720, (ms (i := 30) (by decide +kernel) (by decide +kernel)), wd_597, wd_721, ⟨by decide +kernel, by decide +kernel, by decide +kernel⟩, by decide⟩
theorem lk_X_315 : LV "TopYard" 315 y_X_keepTops b_X_keepTops 6 (some .int) 2 := ⟨wd_722, wd_723, (ms (i := 32) (by decide +kernel) (by decide +kernel)), wd_597, wd_724, ⟨by decide +kernel, by decide +kernel, by decide +kernel⟩, by decide⟩
theorem lk_X_318 : LSt "TopYard" 318 y_JI_bitCount b_JI_bitCount 1 (some .int) 1 := ⟨wd_725, wd_348, wd_349, wd_350, ⟨by decide +kernel, by decide +kernel, by decide +kernel⟩, by decide⟩
theorem lk_X_323 : LV "TopYard" 323 y_X_mateInPairing b_X_mateInPairing 7 (some .int) 2 := ⟨wd_726, wd_727, (ms (i := 33) (by decide +kernel) (by decide +kernel)), wd_597, wd_728, ⟨by decide +kernel, by decide +kernel, by decide +kernel⟩, by decide⟩
theorem lk_X_326 : LV "TopYard" 326 y_Pk_begin b_Pk_begin 2 none 1 := ⟨wd_729, wd_730, wd_731, wd_732, wd_733, ⟨by decide +kernel, by decide +kernel, by decide +kernel⟩, by decide⟩
theorem lk_X_328 : LV "TopYard" 328 y_To_worth b_To_worth 1 (some .int) 0 := ⟨wd_734, wd_735, wd_736, wd_737, wd_738, ⟨by decide +kernel, by decide +kernel, by decide +kernel⟩, by decide⟩
theorem lk_X_331 : LV "TopYard" 331 y_Pk_offer b_Pk_offer 5 none 2 := ⟨wd_739, wd_740, wd_741, wd_732, wd_742, ⟨by decide +kernel, by decide +kernel, by decide +kernel⟩, by decide⟩
theorem lk_X_334 : LV "TopYard" 334 y_Pk_bestWeight b_Pk_bestWeight 3 (some .int) 0 := ⟨wd_743, wd_744, wd_745, wd_732, wd_746, ⟨by decide +kernel, by decide +kernel, by decide +kernel⟩, by decide⟩
theorem lk_X_343 : LSt "TopYard" 343 y_Sh_isForm b_Sh_isForm 1 (some .boolean) 1 := ⟨wd_747, wd_748, wd_571, wd_749, ⟨by decide +kernel, by decide +kernel, by decide +kernel⟩, by decide⟩
theorem lk_X_346 : LV "TopYard" 346 y_Sh_begin b_Sh_begin 3 none 2 := ⟨wd_750, wd_751, wd_752, wd_571, wd_753, ⟨by decide +kernel, by decide +kernel, by decide +kernel⟩, by decide⟩
theorem lk_X_348 : LV "TopYard" 348 y_Sh_findingAt b_Sh_findingAt 3 (some .int) 2 := ⟨wd_754, wd_755, wd_756, wd_571, wd_757, ⟨by decide +kernel, by decide +kernel, by decide +kernel⟩, by decide⟩
theorem lk_X_351 : LV "TopYard" 351 y_Sh_store b_Sh_store 3 none 2 := ⟨wd_758, wd_759, wd_760, wd_571, wd_761, ⟨by decide +kernel, by decide +kernel, by decide +kernel⟩, by decide⟩
theorem lk_X_357 : LV "TopYard" 357 y_Sh_spans b_Sh_spans 3 (some .boolean) 2 := ⟨wd_762, wd_763, wd_764, wd_571, wd_765, ⟨by decide +kernel, by decide +kernel, by decide +kernel⟩, by decide⟩
theorem lk_X_369 : LSt "TopYard" 369 y_JM_min b_JM_min 2 (some .int) 2 := ⟨wd_766, wd_562, wd_266, wd_563, ⟨by decide +kernel, by decide +kernel, by decide +kernel⟩, by decide⟩
theorem lk_X_378 : LV "TopYard" 378 y_X_count b_X_count 2 (some .int) 1 := ⟨wd_767, wd_768, wd_769, wd_597, wd_770, ⟨by decide +kernel, by decide +kernel, by decide +kernel⟩, by decide⟩
theorem lk_X_381 : LV "TopYard" 381 y_X_about b_X_about 4 (some .int) 2 := ⟨wd_771, wd_772, wd_773, wd_597, wd_774, ⟨by decide +kernel, by decide +kernel, by decide +kernel⟩, by decide⟩
theorem lk_X_384 : LV "TopYard" 384 y_X_run b_X_run 1 (some .int) 0 := ⟨wd_775, wd_776, wd_777, wd_597, wd_778, ⟨by decide +kernel, by decide +kernel, by decide +kernel⟩, by decide⟩
theorem lk_X_387 : LV "TopYard" 387 y_X_winner b_X_winner 1 (some .int) 0 := ⟨wd_779, wd_780, wd_781, wd_597, wd_782, ⟨by decide +kernel, by decide +kernel, by decide +kernel⟩, by decide⟩
theorem lk_X_390 : LV "TopYard" 390 y_X_value b_X_value 1 (some .int) 0 := ⟨wd_783, wd_784, wd_785, wd_597, wd_786, ⟨by decide +kernel, by decide +kernel, by decide +kernel⟩, by decide⟩
theorem lk_X_393 : LV "TopYard" 393 y_Bt_spinUntil b_Bt_spinUntil 6 (some .int) 4 := ⟨wd_787, wd_788, wd_789, wd_253, wd_790, ⟨by decide +kernel, by decide +kernel, by decide +kernel⟩, by decide⟩
theorem lk_X_397 : LV "TopYard" 397 y_Sp_fellInRing b_Sp_fellInRing 1 (some .boolean) 0 := ⟨wd_791, wd_792, wd_793, wd_248, wd_794, ⟨by decide +kernel, by decide +kernel, by decide +kernel⟩, by decide⟩
theorem lk_X_400 : LV "TopYard" 400 y_Pa_speaks b_Pa_speaks 3 (some .boolean) 2 := ⟨wd_795, wd_546, wd_547, wd_548, wd_549, ⟨by decide +kernel, by decide +kernel, by decide +kernel⟩, by decide⟩
theorem lk_X_403 : LV "TopYard" 403 y_Pa_firstLike b_Pa_firstLike 3 (some .int) 1 := ⟨wd_796, wd_797, wd_798, wd_548, wd_799, ⟨by decide +kernel, by decide +kernel, by decide +kernel⟩, by decide⟩
theorem lk_X_415 : LV "TopYard" 415 y_X_isTopOf b_X_isTopOf 4 (some .boolean) 2 := ⟨wd_800, wd_801, (ms (i := 29) (by decide +kernel) (by decide +kernel)), wd_597, wd_802, ⟨by decide +kernel, by decide +kernel, by decide +kernel⟩, by decide⟩
theorem lk_X_418 : LSt "TopYard" 418 y_JM_max1 b_JM_max1 2 (some .int) 2 := ⟨wd_803, wd_265, wd_266, wd_267, ⟨by decide +kernel, by decide +kernel, by decide +kernel⟩, by decide⟩
theorem lk_X_421 : LV "TopYard" 421 y_Ga_mostBouts b_Ga_mostBouts 1 (some .int) 0 := ⟨wd_804, wd_805, wd_806, wd_371, wd_807, ⟨by decide +kernel, by decide +kernel, by decide +kernel⟩, by decide⟩
theorem lk_X_424 : LV "TopYard" 424 y_Ga_winsNeeded b_Ga_winsNeeded 1 (some .int) 0 := ⟨wd_808, wd_809, wd_810, wd_371, wd_811, ⟨by decide +kernel, by decide +kernel, by decide +kernel⟩, by decide⟩
theorem lk_X_427 : LV "TopYard" 427 y_X_nthTopOf b_X_nthTopOf 5 (some .int) 2 := ⟨wd_812, wd_813, (ms (i := 31) (by decide +kernel) (by decide +kernel)), wd_597, wd_814, ⟨by decide +kernel, by decide +kernel, by decide +kernel⟩, by decide⟩
theorem lk_X_430 : LV "TopYard" 430 y_Ga_turns b_Ga_turns 1 (some .int) 0 := ⟨wd_815, wd_816, wd_817, wd_371, wd_818, ⟨by decide +kernel, by decide +kernel, by decide +kernel⟩, by decide⟩
theorem lk_X_433 : LV "TopYard" 433 y_Ga_ring b_Ga_ring 1 (some .int) 0 := ⟨wd_819, wd_820, wd_821, wd_371, wd_822, ⟨by decide +kernel, by decide +kernel, by decide +kernel⟩, by decide⟩
theorem lk_X_435 : LV "TopYard" 435 y_Ga_keeps b_Ga_keeps 1 (some .int) 0 := ⟨wd_823, wd_824, wd_825, wd_371, wd_826, ⟨by decide +kernel, by decide +kernel, by decide +kernel⟩, by decide⟩
theorem lk_X_438 : LSt "TopYard" 438 y_JI_numberOfTrailingZeros b_JI_numberOfTrailingZeros 2 (some .int) 1 := ⟨wd_827, wd_355, wd_349, wd_356, ⟨by decide +kernel, by decide +kernel, by decide +kernel⟩, by decide⟩
theorem lk_X_441 : LV "TopYard" 441 y_X_bestMate b_X_bestMate 11 (some .int) 3 := ⟨wd_828, wd_829, (ms (i := 34) (by decide +kernel) (by decide +kernel)), wd_597, wd_830, ⟨by decide +kernel, by decide +kernel, by decide +kernel⟩, by decide⟩
theorem lk_X_445 : LSt "TopYard" 445 y_X_costOfPair b_X_costOfPair 5 (some .long) 3 := ⟨wd_831, wd_832, wd_597, wd_833, ⟨by decide +kernel, by decide +kernel, by decide +kernel⟩, by decide⟩
theorem lk_X_449 : LSt "TopYard" 449 y_X_leastCost b_X_leastCost 10 (some .long) 3 := ⟨wd_834, wd_835, wd_597, wd_836, ⟨by decide +kernel, by decide +kernel, by decide +kernel⟩, by decide⟩
theorem lk_X_454 : LSt "TopYard" 454 y_JM_max2 b_JM_max2 4 (some .long) 2 := ⟨wd_837, wd_838, wd_266, wd_839, ⟨by decide +kernel, by decide +kernel, by decide +kernel⟩, by decide⟩
theorem lk_X_90 : LSt "TopYard" 90 y_X_within b_X_within 3 (some .boolean) 3 := ⟨wd_840, wd_841, wd_597, wd_842, ⟨by decide +kernel, by decide +kernel, by decide +kernel⟩, by decide⟩
theorem lk_X_94 : LSt "TopYard" 94 y_Hd_alongX b_Hd_alongX 2 (some .int) 1 := ⟨wd_843, wd_386, wd_387, wd_388, ⟨by decide +kernel, by decide +kernel, by decide +kernel⟩, by decide⟩
theorem fl_Bt_107 : FL "TopYard$Bout" 107 7 15 false (.int) := ⟨kR7, kF7, 18, kT7, rfl, kW7, by decide, rfl, by decide, wd_53, rfl, rfl, kO7, kN7, rfl⟩
theorem fl_Bt_110 : FL "TopYard$Bout" 110 7 10 false (.long) := ⟨kR7, kF7, 18, kT7, rfl, kW7, by decide, rfl, by decide, wd_61, rfl, rfl, kO7, kN7, rfl⟩
theorem fl_Bt_114 : FL "TopYard$Bout" 114 7 11 false (.long) := ⟨kR7, kF7, 18, kT7, rfl, kW7, by decide, rfl, by decide, wd_62, rfl, rfl, kO7, kN7, rfl⟩
theorem fl_Bt_121 : FL "TopYard$Bout" 121 7 7 false (.int) := ⟨kR7, kF7, 18, kT7, rfl, kW7, by decide, rfl, by decide, wd_65, rfl, rfl, kO7, kN7, rfl⟩
theorem fl_Bt_124 : FL "TopYard$Bout" 124 7 12 false (.long) := ⟨kR7, kF7, 18, kT7, rfl, kW7, by decide, rfl, by decide, wd_57, rfl, rfl, kO7, kN7, rfl⟩
theorem fl_Bt_127 : FL "TopYard$Bout" 127 7 6 false (.int) := ⟨kR7, kF7, 18, kT7, rfl, kW7, by decide, rfl, by decide, wd_59, rfl, rfl, kO7, kN7, rfl⟩
theorem fl_Bt_13 : FL "TopYard$Bout" 13 0 0 true (.array (.object "TopYard$Spinner")) := ⟨kR0, kF0, 8, kT0, rfl, kW0, by decide, rfl, by decide, wd_18, rfl, rfl, kO0, kN0, rfl⟩
theorem fl_Bt_130 : FL "TopYard$Bout" 130 7 13 false (.long) := ⟨kR7, kF7, 18, kT7, rfl, kW7, by decide, rfl, by decide, wd_58, rfl, rfl, kO7, kN7, rfl⟩
theorem fl_Bt_145 : FL "TopYard$Bout" 145 7 8 false (.int) := ⟨kR7, kF7, 18, kT7, rfl, kW7, by decide, rfl, by decide, wd_60, rfl, rfl, kO7, kN7, rfl⟩
theorem fl_Bt_17 : FL "TopYard$Bout" 17 0 1 false (.int) := ⟨kR0, kF0, 8, kT0, rfl, kW0, by decide, rfl, by decide, wd_17, rfl, rfl, kO0, kN0, rfl⟩
theorem fl_Bt_21 : FL "TopYard$Bout" 21 0 2 true (.array .int) := ⟨kR0, kF0, 8, kT0, rfl, kW0, by decide, rfl, by decide, wd_28, rfl, rfl, kO0, kN0, rfl⟩
theorem fl_Bt_25 : FL "TopYard$Bout" 25 0 3 true (.array .int) := ⟨kR0, kF0, 8, kT0, rfl, kW0, by decide, rfl, by decide, wd_29, rfl, rfl, kO0, kN0, rfl⟩
theorem fl_Bt_28 : FL "TopYard$Bout" 28 0 4 true (.array .int) := ⟨kR0, kF0, 8, kT0, rfl, kW0, by decide, rfl, by decide, wd_30, rfl, rfl, kO0, kN0, rfl⟩
theorem fl_Bt_31 : FL "TopYard$Bout" 31 0 5 false (.int) := ⟨kR0, kF0, 8, kT0, rfl, kW0, by decide, rfl, by decide, wd_27, rfl, rfl, kO0, kN0, rfl⟩
theorem fl_Bt_34 : FL "TopYard$Bout" 34 0 6 false (.int) := ⟨kR0, kF0, 8, kT0, rfl, kW0, by decide, rfl, by decide, wd_50, rfl, rfl, kO0, kN0, rfl⟩
theorem fl_Bt_37 : FL "TopYard$Bout" 37 0 7 false (.int) := ⟨kR0, kF0, 8, kT0, rfl, kW0, by decide, rfl, by decide, wd_51, rfl, rfl, kO0, kN0, rfl⟩
theorem fl_Bt_41 : FL "TopYard$Bout" 41 7 1 false (.int) := ⟨kR7, kF7, 18, kT7, rfl, kW7, by decide, rfl, by decide, wd_19, rfl, rfl, kO7, kN7, rfl⟩
theorem fl_Bt_44 : FL "TopYard$Bout" 44 7 0 false (.object "TopYard$Top") := ⟨kR7, kF7, 18, kT7, rfl, kW7, by decide, rfl, by decide, wd_20, rfl, rfl, kO7, kN7, rfl⟩
theorem fl_Bt_64 : FL "TopYard$Bout" 64 8 4 false (.int) := ⟨kR8, kF8, 6, kT8, rfl, kW8, by decide, rfl, by decide, wd_52, rfl, rfl, kO8, kN8, rfl⟩
theorem fl_Bt_88 : FL "TopYard$Bout" 88 1 0 false (.int) := ⟨kR1, kF1, 4, kT1, rfl, kW1, by decide, rfl, by decide, wd_67, rfl, rfl, kO1, kN1, rfl⟩
theorem fl_Bw_16 : FL "TopYard$Bowl" 16 1 2 false (.int) := ⟨kR1, kF1, 4, kT1, rfl, kW1, by decide, rfl, by decide, wd_12, rfl, rfl, kO1, kN1, rfl⟩
theorem fl_Bw_19 : FL "TopYard$Bowl" 19 1 3 true (.array .int) := ⟨kR1, kF1, 4, kT1, rfl, kW1, by decide, rfl, by decide, wd_13, rfl, rfl, kO1, kN1, rfl⟩
theorem fl_Ch_11 : FL "TopYard$Choice" 11 2 0 false (.int) := ⟨kR2, kF2, 10, kT2, rfl, kW2, by decide, rfl, by decide, wd_70, rfl, rfl, kO2, kN2, rfl⟩
theorem fl_Ch_15 : FL "TopYard$Choice" 15 2 1 false (.int) := ⟨kR2, kF2, 10, kT2, rfl, kW2, by decide, rfl, by decide, wd_71, rfl, rfl, kO2, kN2, rfl⟩
theorem fl_Ch_18 : FL "TopYard$Choice" 18 2 2 true (.array .int) := ⟨kR2, kF2, 10, kT2, rfl, kW2, by decide, rfl, by decide, wd_76, rfl, rfl, kO2, kN2, rfl⟩
theorem fl_Ch_22 : FL "TopYard$Choice" 22 2 3 true (.array .int) := ⟨kR2, kF2, 10, kT2, rfl, kW2, by decide, rfl, by decide, wd_77, rfl, rfl, kO2, kN2, rfl⟩
theorem fl_Ch_27 : FL "TopYard$Choice" 27 2 4 true (.array (.array .int)) := ⟨kR2, kF2, 10, kT2, rfl, kW2, by decide, rfl, by decide, wd_72, rfl, rfl, kO2, kN2, rfl⟩
theorem fl_Ch_30 : FL "TopYard$Choice" 30 2 5 true (.array .long) := ⟨kR2, kF2, 10, kT2, rfl, kW2, by decide, rfl, by decide, wd_89, rfl, rfl, kO2, kN2, rfl⟩
theorem fl_Ch_34 : FL "TopYard$Choice" 34 2 6 true (.array .long) := ⟨kR2, kF2, 10, kT2, rfl, kW2, by decide, rfl, by decide, wd_90, rfl, rfl, kO2, kN2, rfl⟩
theorem fl_Ch_37 : FL "TopYard$Choice" 37 2 7 true (.array .long) := ⟨kR2, kF2, 10, kT2, rfl, kW2, by decide, rfl, by decide, wd_86, rfl, rfl, kO2, kN2, rfl⟩
theorem fl_Ch_40 : FL "TopYard$Choice" 40 2 8 false (.long) := ⟨kR2, kF2, 10, kT2, rfl, kW2, by decide, rfl, by decide, wd_87, rfl, rfl, kO2, kN2, rfl⟩
theorem fl_Ch_44 : FL "TopYard$Choice" 44 2 9 false (.long) := ⟨kR2, kF2, 10, kT2, rfl, kW2, by decide, rfl, by decide, wd_88, rfl, rfl, kO2, kN2, rfl⟩
theorem fl_Ga_15 : FL "TopYard$Game" 15 3 1 true (.array .int) := ⟨kR3, kF3, 3, kT3, rfl, kW3, by decide, rfl, by decide, wd_114, rfl, rfl, kO3, kN3, rfl⟩
theorem fl_Ga_19 : FL "TopYard$Game" 19 3 2 true (.array .int) := ⟨kR3, kF3, 3, kT3, rfl, kW3, by decide, rfl, by decide, wd_119, rfl, rfl, kO3, kN3, rfl⟩
theorem fl_Ga_9 : FL "TopYard$Game" 9 3 0 false (.int) := ⟨kR3, kF3, 3, kT3, rfl, kW3, by decide, rfl, by decide, wd_113, rfl, rfl, kO3, kN3, rfl⟩
theorem fl_M_102 : FL "TopYardModel" 102 10 39 true (.array .int) := ⟨kR10, kF10, 67, kT10, rfl, kW10, by decide, rfl, by decide, wd_210, rfl, rfl, kO10, kN10, rfl⟩
theorem fl_M_105 : FL "TopYardModel" 105 10 40 true (.array .int) := ⟨kR10, kF10, 67, kT10, rfl, kW10, by decide, rfl, by decide, wd_209, rfl, rfl, kO10, kN10, rfl⟩
theorem fl_M_108 : FL "TopYardModel" 108 10 41 true (.array .int) := ⟨kR10, kF10, 67, kT10, rfl, kW10, by decide, rfl, by decide, wd_211, rfl, rfl, kO10, kN10, rfl⟩
theorem fl_M_111 : FL "TopYardModel" 111 10 42 true (.array .long) := ⟨kR10, kF10, 67, kT10, rfl, kW10, by decide, rfl, by decide, wd_213, rfl, rfl, kO10, kN10, rfl⟩
theorem fl_M_114 : FL "TopYardModel" 114 10 43 true (.array .long) := ⟨kR10, kF10, 67, kT10, rfl, kW10, by decide, rfl, by decide, wd_216, rfl, rfl, kO10, kN10, rfl⟩
theorem fl_M_117 : FL "TopYardModel" 117 10 44 true (.array .long) := ⟨kR10, kF10, 67, kT10, rfl, kW10, by decide, rfl, by decide, wd_217, rfl, rfl, kO10, kN10, rfl⟩
theorem fl_M_120 : FL "TopYardModel" 120 10 45 true (.array .long) := ⟨kR10, kF10, 67, kT10, rfl, kW10, by decide, rfl, by decide, wd_218, rfl, rfl, kO10, kN10, rfl⟩
theorem fl_M_123 : FL "TopYardModel" 123 10 49 true (.array .int) := ⟨kR10, kF10, 67, kT10, rfl, kW10, by decide, rfl, by decide, wd_222, rfl, rfl, kO10, kN10, rfl⟩
theorem fl_M_126 : FL "TopYardModel" 126 10 50 true (.array .int) := ⟨kR10, kF10, 67, kT10, rfl, kW10, by decide, rfl, by decide, wd_223, rfl, rfl, kO10, kN10, rfl⟩
theorem fl_M_129 : FL "TopYardModel" 129 10 51 true (.array .int) := ⟨kR10, kF10, 67, kT10, rfl, kW10, by decide, rfl, by decide, wd_224, rfl, rfl, kO10, kN10, rfl⟩
theorem fl_M_13 : FL "TopYardModel" 13 10 2 true (.array .int) := ⟨kR10, kF10, 67, kT10, rfl, kW10, by decide, rfl, by decide, wd_151, rfl, rfl, kO10, kN10, rfl⟩
theorem fl_M_132 : FL "TopYardModel" 132 10 54 true (.array .int) := ⟨kR10, kF10, 67, kT10, rfl, kW10, by decide, rfl, by decide, wd_233, rfl, rfl, kO10, kN10, rfl⟩
theorem fl_M_135 : FL "TopYardModel" 135 10 57 true (.array .int) := ⟨kR10, kF10, 67, kT10, rfl, kW10, by decide, rfl, by decide, wd_236, rfl, rfl, kO10, kN10, rfl⟩
theorem fl_M_138 : FL "TopYardModel" 138 10 58 true (.array .int) := ⟨kR10, kF10, 67, kT10, rfl, kW10, by decide, rfl, by decide, wd_238, rfl, rfl, kO10, kN10, rfl⟩
theorem fl_M_141 : FL "TopYardModel" 141 10 59 true (.array .int) := ⟨kR10, kF10, 67, kT10, rfl, kW10, by decide, rfl, by decide, wd_239, rfl, rfl, kO10, kN10, rfl⟩
theorem fl_M_144 : FL "TopYardModel" 144 10 60 true (.array .int) := ⟨kR10, kF10, 67, kT10, rfl, kW10, by decide, rfl, by decide, wd_240, rfl, rfl, kO10, kN10, rfl⟩
theorem fl_M_147 : FL "TopYardModel" 147 10 61 true (.array .int) := ⟨kR10, kF10, 67, kT10, rfl, kW10, by decide, rfl, by decide, wd_242, rfl, rfl, kO10, kN10, rfl⟩
theorem fl_M_150 : FL "TopYardModel" 150 10 62 true (.array .int) := ⟨kR10, kF10, 67, kT10, rfl, kW10, by decide, rfl, by decide, wd_226, rfl, rfl, kO10, kN10, rfl⟩
theorem fl_M_153 : FL "TopYardModel" 153 10 63 true (.array .int) := ⟨kR10, kF10, 67, kT10, rfl, kW10, by decide, rfl, by decide, wd_227, rfl, rfl, kO10, kN10, rfl⟩
theorem fl_M_156 : FL "TopYardModel" 156 10 64 true (.array .int) := ⟨kR10, kF10, 67, kT10, rfl, kW10, by decide, rfl, by decide, wd_228, rfl, rfl, kO10, kN10, rfl⟩
theorem fl_M_159 : FL "TopYardModel" 159 10 65 true (.array .int) := ⟨kR10, kF10, 67, kT10, rfl, kW10, by decide, rfl, by decide, wd_243, rfl, rfl, kO10, kN10, rfl⟩
theorem fl_M_16 : FL "TopYardModel" 16 10 3 true (.array .int) := ⟨kR10, kF10, 67, kT10, rfl, kW10, by decide, rfl, by decide, wd_152, rfl, rfl, kO10, kN10, rfl⟩
theorem fl_M_175 : FL "TopYardModel" 175 10 1 false (.int) := ⟨kR10, kF10, 67, kT10, rfl, kW10, by decide, rfl, by decide, wd_146, rfl, rfl, kO10, kN10, rfl⟩
theorem fl_M_19 : FL "TopYardModel" 19 10 4 true (.array .int) := ⟨kR10, kF10, 67, kT10, rfl, kW10, by decide, rfl, by decide, wd_153, rfl, rfl, kO10, kN10, rfl⟩
theorem fl_M_205 : FL "TopYardModel" 205 10 11 false (.int) := ⟨kR10, kF10, 67, kT10, rfl, kW10, by decide, rfl, by decide, wd_165, rfl, rfl, kO10, kN10, rfl⟩
theorem fl_M_22 : FL "TopYardModel" 22 10 5 true (.array .int) := ⟨kR10, kF10, 67, kT10, rfl, kW10, by decide, rfl, by decide, wd_154, rfl, rfl, kO10, kN10, rfl⟩
theorem fl_M_231 : FL "TopYardModel" 231 10 15 false (.int) := ⟨kR10, kF10, 67, kT10, rfl, kW10, by decide, rfl, by decide, wd_177, rfl, rfl, kO10, kN10, rfl⟩
theorem fl_M_234 : FL "TopYardModel" 234 10 21 false (.int) := ⟨kR10, kF10, 67, kT10, rfl, kW10, by decide, rfl, by decide, wd_183, rfl, rfl, kO10, kN10, rfl⟩
theorem fl_M_245 : FL "TopYardModel" 245 10 25 false (.int) := ⟨kR10, kF10, 67, kT10, rfl, kW10, by decide, rfl, by decide, wd_200, rfl, rfl, kO10, kN10, rfl⟩
theorem fl_M_25 : FL "TopYardModel" 25 10 6 true (.array .int) := ⟨kR10, kF10, 67, kT10, rfl, kW10, by decide, rfl, by decide, wd_155, rfl, rfl, kO10, kN10, rfl⟩
theorem fl_M_260 : FL "TopYardModel" 260 10 35 false (.int) := ⟨kR10, kF10, 67, kT10, rfl, kW10, by decide, rfl, by decide, wd_205, rfl, rfl, kO10, kN10, rfl⟩
theorem fl_M_263 : FL "TopYardModel" 263 10 36 false (.int) := ⟨kR10, kF10, 67, kT10, rfl, kW10, by decide, rfl, by decide, wd_206, rfl, rfl, kO10, kN10, rfl⟩
theorem fl_M_28 : FL "TopYardModel" 28 10 7 true (.array .int) := ⟨kR10, kF10, 67, kT10, rfl, kW10, by decide, rfl, by decide, wd_156, rfl, rfl, kO10, kN10, rfl⟩
theorem fl_M_305 : FL "TopYardModel" 305 10 37 false (.int) := ⟨kR10, kF10, 67, kT10, rfl, kW10, by decide, rfl, by decide, wd_207, rfl, rfl, kO10, kN10, rfl⟩
theorem fl_M_308 : FL "TopYardModel" 308 10 38 false (.int) := ⟨kR10, kF10, 67, kT10, rfl, kW10, by decide, rfl, by decide, wd_208, rfl, rfl, kO10, kN10, rfl⟩
theorem fl_M_31 : FL "TopYardModel" 31 10 8 true (.array .int) := ⟨kR10, kF10, 67, kT10, rfl, kW10, by decide, rfl, by decide, wd_174, rfl, rfl, kO10, kN10, rfl⟩
theorem fl_M_328 : FL "TopYardModel" 328 10 46 false (.long) := ⟨kR10, kF10, 67, kT10, rfl, kW10, by decide, rfl, by decide, wd_214, rfl, rfl, kO10, kN10, rfl⟩
theorem fl_M_332 : FL "TopYardModel" 332 10 47 false (.long) := ⟨kR10, kF10, 67, kT10, rfl, kW10, by decide, rfl, by decide, wd_215, rfl, rfl, kO10, kN10, rfl⟩
theorem fl_M_34 : FL "TopYardModel" 34 10 9 false (.int) := ⟨kR10, kF10, 67, kT10, rfl, kW10, by decide, rfl, by decide, wd_159, rfl, rfl, kO10, kN10, rfl⟩
theorem fl_M_356 : FL "TopYardModel" 356 10 48 false (.int) := ⟨kR10, kF10, 67, kT10, rfl, kW10, by decide, rfl, by decide, wd_221, rfl, rfl, kO10, kN10, rfl⟩
theorem fl_M_369 : FL "TopYardModel" 369 10 52 false (.int) := ⟨kR10, kF10, 67, kT10, rfl, kW10, by decide, rfl, by decide, wd_229, rfl, rfl, kO10, kN10, rfl⟩
theorem fl_M_372 : FL "TopYardModel" 372 10 53 false (.int) := ⟨kR10, kF10, 67, kT10, rfl, kW10, by decide, rfl, by decide, wd_230, rfl, rfl, kO10, kN10, rfl⟩
theorem fl_M_38 : FL "TopYardModel" 38 10 10 false (.int) := ⟨kR10, kF10, 67, kT10, rfl, kW10, by decide, rfl, by decide, wd_160, rfl, rfl, kO10, kN10, rfl⟩
theorem fl_M_387 : FL "TopYardModel" 387 10 55 false (.int) := ⟨kR10, kF10, 67, kT10, rfl, kW10, by decide, rfl, by decide, wd_232, rfl, rfl, kO10, kN10, rfl⟩
theorem fl_M_394 : FL "TopYardModel" 394 10 56 false (.int) := ⟨kR10, kF10, 67, kT10, rfl, kW10, by decide, rfl, by decide, wd_237, rfl, rfl, kO10, kN10, rfl⟩
theorem fl_M_41 : FL "TopYardModel" 41 10 12 true (.array .int) := ⟨kR10, kF10, 67, kT10, rfl, kW10, by decide, rfl, by decide, wd_166, rfl, rfl, kO10, kN10, rfl⟩
theorem fl_M_426 : FL "TopYardModel" 426 10 66 false (.int) := ⟨kR10, kF10, 67, kT10, rfl, kW10, by decide, rfl, by decide, wd_225, rfl, rfl, kO10, kN10, rfl⟩
theorem fl_M_44 : FL "TopYardModel" 44 10 13 true (.array .int) := ⟨kR10, kF10, 67, kT10, rfl, kW10, by decide, rfl, by decide, wd_167, rfl, rfl, kO10, kN10, rfl⟩
theorem fl_M_47 : FL "TopYardModel" 47 10 14 true (.array .int) := ⟨kR10, kF10, 67, kT10, rfl, kW10, by decide, rfl, by decide, wd_168, rfl, rfl, kO10, kN10, rfl⟩
theorem fl_M_50 : FL "TopYardModel" 50 10 16 true (.array .int) := ⟨kR10, kF10, 67, kT10, rfl, kW10, by decide, rfl, by decide, wd_178, rfl, rfl, kO10, kN10, rfl⟩
theorem fl_M_53 : FL "TopYardModel" 53 10 17 true (.array .int) := ⟨kR10, kF10, 67, kT10, rfl, kW10, by decide, rfl, by decide, wd_179, rfl, rfl, kO10, kN10, rfl⟩
theorem fl_M_56 : FL "TopYardModel" 56 10 18 true (.array .int) := ⟨kR10, kF10, 67, kT10, rfl, kW10, by decide, rfl, by decide, wd_180, rfl, rfl, kO10, kN10, rfl⟩
theorem fl_M_59 : FL "TopYardModel" 59 10 19 true (.array .int) := ⟨kR10, kF10, 67, kT10, rfl, kW10, by decide, rfl, by decide, wd_181, rfl, rfl, kO10, kN10, rfl⟩
theorem fl_M_62 : FL "TopYardModel" 62 10 20 true (.array .int) := ⟨kR10, kF10, 67, kT10, rfl, kW10, by decide, rfl, by decide, wd_182, rfl, rfl, kO10, kN10, rfl⟩
theorem fl_M_65 : FL "TopYardModel" 65 10 22 true (.array .int) := ⟨kR10, kF10, 67, kT10, rfl, kW10, by decide, rfl, by decide, wd_187, rfl, rfl, kO10, kN10, rfl⟩
theorem fl_M_68 : FL "TopYardModel" 68 10 23 true (.array .int) := ⟨kR10, kF10, 67, kT10, rfl, kW10, by decide, rfl, by decide, wd_188, rfl, rfl, kO10, kN10, rfl⟩
theorem fl_M_7 : FL "TopYardModel" 7 10 0 true (.array .int) := ⟨kR10, kF10, 67, kT10, rfl, kW10, by decide, rfl, by decide, wd_144, rfl, rfl, kO10, kN10, rfl⟩
theorem fl_M_71 : FL "TopYardModel" 71 10 24 true (.array .int) := ⟨kR10, kF10, 67, kT10, rfl, kW10, by decide, rfl, by decide, wd_189, rfl, rfl, kO10, kN10, rfl⟩
theorem fl_M_74 : FL "TopYardModel" 74 10 26 true (.array .int) := ⟨kR10, kF10, 67, kT10, rfl, kW10, by decide, rfl, by decide, wd_190, rfl, rfl, kO10, kN10, rfl⟩
theorem fl_M_77 : FL "TopYardModel" 77 10 27 true (.array .long) := ⟨kR10, kF10, 67, kT10, rfl, kW10, by decide, rfl, by decide, wd_191, rfl, rfl, kO10, kN10, rfl⟩
theorem fl_M_81 : FL "TopYardModel" 81 10 28 true (.array .long) := ⟨kR10, kF10, 67, kT10, rfl, kW10, by decide, rfl, by decide, wd_193, rfl, rfl, kO10, kN10, rfl⟩
theorem fl_M_84 : FL "TopYardModel" 84 10 29 true (.array .int) := ⟨kR10, kF10, 67, kT10, rfl, kW10, by decide, rfl, by decide, wd_194, rfl, rfl, kO10, kN10, rfl⟩
theorem fl_M_87 : FL "TopYardModel" 87 10 30 true (.array .long) := ⟨kR10, kF10, 67, kT10, rfl, kW10, by decide, rfl, by decide, wd_195, rfl, rfl, kO10, kN10, rfl⟩
theorem fl_M_90 : FL "TopYardModel" 90 10 31 true (.array .long) := ⟨kR10, kF10, 67, kT10, rfl, kW10, by decide, rfl, by decide, wd_196, rfl, rfl, kO10, kN10, rfl⟩
theorem fl_M_93 : FL "TopYardModel" 93 10 32 true (.array .int) := ⟨kR10, kF10, 67, kT10, rfl, kW10, by decide, rfl, by decide, wd_197, rfl, rfl, kO10, kN10, rfl⟩
theorem fl_M_96 : FL "TopYardModel" 96 10 33 true (.array .int) := ⟨kR10, kF10, 67, kT10, rfl, kW10, by decide, rfl, by decide, wd_198, rfl, rfl, kO10, kN10, rfl⟩
theorem fl_M_99 : FL "TopYardModel" 99 10 34 true (.array .int) := ⟨kR10, kF10, 67, kT10, rfl, kW10, by decide, rfl, by decide, wd_199, rfl, rfl, kO10, kN10, rfl⟩
theorem fl_Pa_15 : FL "TopYard$Past" 15 5 1 true (.array .int) := ⟨kR5, kF5, 5, kT5, rfl, kW5, by decide, rfl, by decide, wd_96, rfl, rfl, kO5, kN5, rfl⟩
theorem fl_Pa_19 : FL "TopYard$Past" 19 5 2 true (.array .int) := ⟨kR5, kF5, 5, kT5, rfl, kW5, by decide, rfl, by decide, wd_97, rfl, rfl, kO5, kN5, rfl⟩
theorem fl_Pa_22 : FL "TopYard$Past" 22 5 3 true (.array .int) := ⟨kR5, kF5, 5, kT5, rfl, kW5, by decide, rfl, by decide, wd_98, rfl, rfl, kO5, kN5, rfl⟩
theorem fl_Pa_25 : FL "TopYard$Past" 25 5 4 true (.array .int) := ⟨kR5, kF5, 5, kT5, rfl, kW5, by decide, rfl, by decide, wd_110, rfl, rfl, kO5, kN5, rfl⟩
theorem fl_Pa_9 : FL "TopYard$Past" 9 5 0 false (.int) := ⟨kR5, kF5, 5, kT5, rfl, kW5, by decide, rfl, by decide, wd_95, rfl, rfl, kO5, kN5, rfl⟩
theorem fl_Pk_11 : FL "TopYard$Pack" 11 4 0 true (.array .int) := ⟨kR4, kF4, 4, kT4, rfl, kW4, by decide, rfl, by decide, wd_128, rfl, rfl, kO4, kN4, rfl⟩
theorem fl_Pk_15 : FL "TopYard$Pack" 15 4 1 true (.array .int) := ⟨kR4, kF4, 4, kT4, rfl, kW4, by decide, rfl, by decide, wd_130, rfl, rfl, kO4, kN4, rfl⟩
theorem fl_Pk_18 : FL "TopYard$Pack" 18 4 2 false (.int) := ⟨kR4, kF4, 4, kT4, rfl, kW4, by decide, rfl, by decide, wd_126, rfl, rfl, kO4, kN4, rfl⟩
theorem fl_Pk_22 : FL "TopYard$Pack" 22 4 3 false (.int) := ⟨kR4, kF4, 4, kT4, rfl, kW4, by decide, rfl, by decide, wd_127, rfl, rfl, kO4, kN4, rfl⟩
theorem fl_Sh_15 : FL "TopYard$Sheet" 15 6 1 false (.int) := ⟨kR6, kF6, 4, kT6, rfl, kW6, by decide, rfl, by decide, wd_138, rfl, rfl, kO6, kN6, rfl⟩
theorem fl_Sh_19 : FL "TopYard$Sheet" 19 6 2 false (.int) := ⟨kR6, kF6, 4, kT6, rfl, kW6, by decide, rfl, by decide, wd_103, rfl, rfl, kO6, kN6, rfl⟩
theorem fl_Sh_22 : FL "TopYard$Sheet" 22 6 3 true (.array .int) := ⟨kR6, kF6, 4, kT6, rfl, kW6, by decide, rfl, by decide, wd_104, rfl, rfl, kO6, kN6, rfl⟩
theorem fl_Sh_9 : FL "TopYard$Sheet" 9 6 0 false (.boolean) := ⟨kR6, kF6, 4, kT6, rfl, kW6, by decide, rfl, by decide, wd_137, rfl, rfl, kO6, kN6, rfl⟩
theorem fl_Sp_19 : FL "TopYard$Spinner" 19 7 6 false (.int) := ⟨kR7, kF7, 18, kT7, rfl, kW7, by decide, rfl, by decide, wd_35, rfl, rfl, kO7, kN7, rfl⟩
theorem fl_Sp_22 : FL "TopYard$Spinner" 22 7 2 false (.int) := ⟨kR7, kF7, 18, kT7, rfl, kW7, by decide, rfl, by decide, wd_21, rfl, rfl, kO7, kN7, rfl⟩
theorem fl_Sp_25 : FL "TopYard$Spinner" 25 7 3 false (.int) := ⟨kR7, kF7, 18, kT7, rfl, kW7, by decide, rfl, by decide, wd_22, rfl, rfl, kO7, kN7, rfl⟩
theorem fl_Sp_28 : FL "TopYard$Spinner" 28 7 4 false (.int) := ⟨kR7, kF7, 18, kT7, rfl, kW7, by decide, rfl, by decide, wd_23, rfl, rfl, kO7, kN7, rfl⟩
theorem fl_Sp_31 : FL "TopYard$Spinner" 31 7 5 false (.int) := ⟨kR7, kF7, 18, kT7, rfl, kW7, by decide, rfl, by decide, wd_24, rfl, rfl, kO7, kN7, rfl⟩
theorem fl_Sp_34 : FL "TopYard$Spinner" 34 7 17 false (.int) := ⟨kR7, kF7, 18, kT7, rfl, kW7, by decide, rfl, by decide, wd_33, rfl, rfl, kO7, kN7, rfl⟩
theorem fl_Sp_37 : FL "TopYard$Spinner" 37 8 0 true (.int) := ⟨kR8, kF8, 6, kT8, rfl, kW8, by decide, rfl, by decide, wd_34, rfl, rfl, kO8, kN8, rfl⟩
theorem fl_Sp_46 : FL "TopYard$Spinner" 46 8 1 true (.int) := ⟨kR8, kF8, 6, kT8, rfl, kW8, by decide, rfl, by decide, wd_36, rfl, rfl, kO8, kN8, rfl⟩
theorem fl_Sp_49 : FL "TopYard$Spinner" 49 7 7 false (.int) := ⟨kR7, kF7, 18, kT7, rfl, kW7, by decide, rfl, by decide, wd_37, rfl, rfl, kO7, kN7, rfl⟩
theorem fl_Sp_50 : FL "TopYard$Spinner" 50 8 3 true (.int) := ⟨kR8, kF8, 6, kT8, rfl, kW8, by decide, rfl, by decide, wd_38, rfl, rfl, kO8, kN8, rfl⟩
theorem fl_Sp_53 : FL "TopYard$Spinner" 53 7 8 false (.int) := ⟨kR7, kF7, 18, kT7, rfl, kW7, by decide, rfl, by decide, wd_39, rfl, rfl, kO7, kN7, rfl⟩
theorem fl_Sp_54 : FL "TopYard$Spinner" 54 8 2 true (.int) := ⟨kR8, kF8, 6, kT8, rfl, kW8, by decide, rfl, by decide, wd_40, rfl, rfl, kO8, kN8, rfl⟩
theorem fl_Sp_57 : FL "TopYard$Spinner" 57 8 5 false (.int) := ⟨kR8, kF8, 6, kT8, rfl, kW8, by decide, rfl, by decide, wd_41, rfl, rfl, kO8, kN8, rfl⟩
theorem fl_Sp_60 : FL "TopYard$Spinner" 60 7 9 false (.int) := ⟨kR7, kF7, 18, kT7, rfl, kW7, by decide, rfl, by decide, wd_42, rfl, rfl, kO7, kN7, rfl⟩
theorem fl_Sp_63 : FL "TopYard$Spinner" 63 7 10 false (.long) := ⟨kR7, kF7, 18, kT7, rfl, kW7, by decide, rfl, by decide, wd_43, rfl, rfl, kO7, kN7, rfl⟩
theorem fl_Sp_67 : FL "TopYard$Spinner" 67 7 11 false (.long) := ⟨kR7, kF7, 18, kT7, rfl, kW7, by decide, rfl, by decide, wd_44, rfl, rfl, kO7, kN7, rfl⟩
theorem fl_Sp_70 : FL "TopYard$Spinner" 70 7 14 false (.int) := ⟨kR7, kF7, 18, kT7, rfl, kW7, by decide, rfl, by decide, wd_45, rfl, rfl, kO7, kN7, rfl⟩
theorem fl_Sp_79 : FL "TopYard$Spinner" 79 7 12 false (.long) := ⟨kR7, kF7, 18, kT7, rfl, kW7, by decide, rfl, by decide, wd_46, rfl, rfl, kO7, kN7, rfl⟩
theorem fl_Sp_85 : FL "TopYard$Spinner" 85 7 13 false (.long) := ⟨kR7, kF7, 18, kT7, rfl, kW7, by decide, rfl, by decide, wd_47, rfl, rfl, kO7, kN7, rfl⟩
theorem fl_Sp_9 : FL "TopYard$Spinner" 9 7 0 false (.object "TopYard$Top") := ⟨kR7, kF7, 18, kT7, rfl, kW7, by decide, rfl, by decide, wd_32, rfl, rfl, kO7, kN7, rfl⟩
theorem fl_Sp_91 : FL "TopYard$Spinner" 91 7 15 false (.int) := ⟨kR7, kF7, 18, kT7, rfl, kW7, by decide, rfl, by decide, wd_48, rfl, rfl, kO7, kN7, rfl⟩
theorem fl_Sp_94 : FL "TopYard$Spinner" 94 7 16 false (.int) := ⟨kR7, kF7, 18, kT7, rfl, kW7, by decide, rfl, by decide, wd_49, rfl, rfl, kO7, kN7, rfl⟩
theorem fl_To_16 : FL "TopYard$Top" 16 8 1 true (.int) := ⟨kR8, kF8, 6, kT8, rfl, kW8, by decide, rfl, by decide, wd_131, rfl, rfl, kO8, kN8, rfl⟩
theorem fl_To_19 : FL "TopYard$Top" 19 8 2 true (.int) := ⟨kR8, kF8, 6, kT8, rfl, kW8, by decide, rfl, by decide, wd_132, rfl, rfl, kO8, kN8, rfl⟩
theorem fl_To_7 : FL "TopYard$Top" 7 8 5 false (.int) := ⟨kR8, kF8, 6, kT8, rfl, kW8, by decide, rfl, by decide, wd_133, rfl, rfl, kO8, kN8, rfl⟩
theorem fl_X_11 : FL "TopYard" 11 9 0 true (.array (.object "TopYard$Top")) := ⟨kR9, kF9, 14, kT9, rfl, kW9, by decide, rfl, by decide, wd_2, rfl, rfl, kO9, kN9, rfl⟩
theorem fl_X_114 : FL "TopYard" 114 8 0 true (.int) := ⟨kR8, kF8, 6, kT8, rfl, kW8, by decide, rfl, by decide, wd_3, rfl, rfl, kO8, kN8, rfl⟩
theorem fl_X_117 : FL "TopYard" 117 8 1 true (.int) := ⟨kR8, kF8, 6, kT8, rfl, kW8, by decide, rfl, by decide, wd_4, rfl, rfl, kO8, kN8, rfl⟩
theorem fl_X_120 : FL "TopYard" 120 8 2 true (.int) := ⟨kR8, kF8, 6, kT8, rfl, kW8, by decide, rfl, by decide, wd_5, rfl, rfl, kO8, kN8, rfl⟩
theorem fl_X_123 : FL "TopYard" 123 8 3 true (.int) := ⟨kR8, kF8, 6, kT8, rfl, kW8, by decide, rfl, by decide, wd_6, rfl, rfl, kO8, kN8, rfl⟩
theorem fl_X_126 : FL "TopYard" 126 8 4 false (.int) := ⟨kR8, kF8, 6, kT8, rfl, kW8, by decide, rfl, by decide, wd_7, rfl, rfl, kO8, kN8, rfl⟩
theorem fl_X_129 : FL "TopYard" 129 8 5 false (.int) := ⟨kR8, kF8, 6, kT8, rfl, kW8, by decide, rfl, by decide, wd_8, rfl, rfl, kO8, kN8, rfl⟩
theorem fl_X_132 : FL "TopYard" 132 1 0 false (.int) := ⟨kR1, kF1, 4, kT1, rfl, kW1, by decide, rfl, by decide, wd_10, rfl, rfl, kO1, kN1, rfl⟩
theorem fl_X_135 : FL "TopYard" 135 1 1 false (.int) := ⟨kR1, kF1, 4, kT1, rfl, kW1, by decide, rfl, by decide, wd_11, rfl, rfl, kO1, kN1, rfl⟩
theorem fl_X_145 : FL "TopYard" 145 1 2 false (.int) := ⟨kR1, kF1, 4, kT1, rfl, kW1, by decide, rfl, by decide, wd_14, rfl, rfl, kO1, kN1, rfl⟩
theorem fl_X_15 : FL "TopYard" 15 9 1 false (.int) := ⟨kR9, kF9, 14, kT9, rfl, kW9, by decide, rfl, by decide, wd_1, rfl, rfl, kO9, kN9, rfl⟩
theorem fl_X_175 : FL "TopYard" 175 0 1 false (.int) := ⟨kR0, kF0, 8, kT0, rfl, kW0, by decide, rfl, by decide, wd_26, rfl, rfl, kO0, kN0, rfl⟩
theorem fl_X_184 : FL "TopYard" 184 0 5 false (.int) := ⟨kR0, kF0, 8, kT0, rfl, kW0, by decide, rfl, by decide, wd_31, rfl, rfl, kO0, kN0, rfl⟩
theorem fl_X_194 : FL "TopYard" 194 0 6 false (.int) := ⟨kR0, kF0, 8, kT0, rfl, kW0, by decide, rfl, by decide, wd_69, rfl, rfl, kO0, kN0, rfl⟩
theorem fl_X_197 : FL "TopYard" 197 0 7 false (.int) := ⟨kR0, kF0, 8, kT0, rfl, kW0, by decide, rfl, by decide, wd_68, rfl, rfl, kO0, kN0, rfl⟩
theorem fl_X_207 : FL "TopYard" 207 2 0 false (.int) := ⟨kR2, kF2, 10, kT2, rfl, kW2, by decide, rfl, by decide, wd_74, rfl, rfl, kO2, kN2, rfl⟩
theorem fl_X_210 : FL "TopYard" 210 2 1 false (.int) := ⟨kR2, kF2, 10, kT2, rfl, kW2, by decide, rfl, by decide, wd_75, rfl, rfl, kO2, kN2, rfl⟩
theorem fl_X_22 : FL "TopYard" 22 9 2 true (.object "TopYard$Bowl") := ⟨kR9, kF9, 14, kT9, rfl, kW9, by decide, rfl, by decide, wd_9, rfl, rfl, kO9, kN9, rfl⟩
theorem fl_X_225 : FL "TopYard" 225 2 4 true (.array (.array .int)) := ⟨kR2, kF2, 10, kT2, rfl, kW2, by decide, rfl, by decide, wd_78, rfl, rfl, kO2, kN2, rfl⟩
theorem fl_X_233 : FL "TopYard" 233 2 2 true (.array .int) := ⟨kR2, kF2, 10, kT2, rfl, kW2, by decide, rfl, by decide, wd_80, rfl, rfl, kO2, kN2, rfl⟩
theorem fl_X_236 : FL "TopYard" 236 2 3 true (.array .int) := ⟨kR2, kF2, 10, kT2, rfl, kW2, by decide, rfl, by decide, wd_81, rfl, rfl, kO2, kN2, rfl⟩
theorem fl_X_249 : FL "TopYard" 249 2 5 true (.array .long) := ⟨kR2, kF2, 10, kT2, rfl, kW2, by decide, rfl, by decide, wd_94, rfl, rfl, kO2, kN2, rfl⟩
theorem fl_X_253 : FL "TopYard" 253 2 6 true (.array .long) := ⟨kR2, kF2, 10, kT2, rfl, kW2, by decide, rfl, by decide, wd_93, rfl, rfl, kO2, kN2, rfl⟩
theorem fl_X_26 : FL "TopYard" 26 9 3 true (.array .int) := ⟨kR9, kF9, 14, kT9, rfl, kW9, by decide, rfl, by decide, wd_16, rfl, rfl, kO9, kN9, rfl⟩
theorem fl_X_266 : FL "TopYard" 266 5 0 false (.int) := ⟨kR5, kF5, 5, kT5, rfl, kW5, by decide, rfl, by decide, wd_100, rfl, rfl, kO5, kN5, rfl⟩
theorem fl_X_271 : FL "TopYard" 271 6 0 false (.boolean) := ⟨kR6, kF6, 4, kT6, rfl, kW6, by decide, rfl, by decide, wd_105, rfl, rfl, kO6, kN6, rfl⟩
theorem fl_X_278 : FL "TopYard" 278 6 2 false (.int) := ⟨kR6, kF6, 4, kT6, rfl, kW6, by decide, rfl, by decide, wd_106, rfl, rfl, kO6, kN6, rfl⟩
theorem fl_X_304 : FL "TopYard" 304 3 0 false (.int) := ⟨kR3, kF3, 3, kT3, rfl, kW3, by decide, rfl, by decide, wd_116, rfl, rfl, kO3, kN3, rfl⟩
theorem fl_X_33 : FL "TopYard" 33 9 4 true (.object "TopYard$Bout") := ⟨kR9, kF9, 14, kT9, rfl, kW9, by decide, rfl, by decide, wd_25, rfl, rfl, kO9, kN9, rfl⟩
theorem fl_X_337 : FL "TopYard" 337 4 1 true (.array .int) := ⟨kR4, kF4, 4, kT4, rfl, kW4, by decide, rfl, by decide, wd_135, rfl, rfl, kO4, kN4, rfl⟩
theorem fl_X_340 : FL "TopYard" 340 4 0 true (.array .int) := ⟨kR4, kF4, 4, kT4, rfl, kW4, by decide, rfl, by decide, wd_136, rfl, rfl, kO4, kN4, rfl⟩
theorem fl_X_354 : FL "TopYard" 354 6 1 false (.int) := ⟨kR6, kF6, 4, kT6, rfl, kW6, by decide, rfl, by decide, wd_139, rfl, rfl, kO6, kN6, rfl⟩
theorem fl_X_360 : FL "TopYard" 360 6 3 true (.array .int) := ⟨kR6, kF6, 4, kT6, rfl, kW6, by decide, rfl, by decide, wd_140, rfl, rfl, kO6, kN6, rfl⟩
theorem fl_X_37 : FL "TopYard" 37 9 5 true (.object "TopYard$Bout") := ⟨kR9, kF9, 14, kT9, rfl, kW9, by decide, rfl, by decide, wd_79, rfl, rfl, kO9, kN9, rfl⟩
theorem fl_X_406 : FL "TopYard" 406 5 4 true (.array .int) := ⟨kR5, kF5, 5, kT5, rfl, kW5, by decide, rfl, by decide, wd_107, rfl, rfl, kO5, kN5, rfl⟩
theorem fl_X_409 : FL "TopYard" 409 5 1 true (.array .int) := ⟨kR5, kF5, 5, kT5, rfl, kW5, by decide, rfl, by decide, wd_108, rfl, rfl, kO5, kN5, rfl⟩
theorem fl_X_412 : FL "TopYard" 412 5 2 true (.array .int) := ⟨kR5, kF5, 5, kT5, rfl, kW5, by decide, rfl, by decide, wd_109, rfl, rfl, kO5, kN5, rfl⟩
theorem fl_X_43 : FL "TopYard" 43 9 6 true (.object "TopYard$Choice") := ⟨kR9, kF9, 14, kT9, rfl, kW9, by decide, rfl, by decide, wd_73, rfl, rfl, kO9, kN9, rfl⟩
theorem fl_X_50 : FL "TopYard" 50 9 7 true (.object "TopYard$Past") := ⟨kR9, kF9, 14, kT9, rfl, kW9, by decide, rfl, by decide, wd_99, rfl, rfl, kO9, kN9, rfl⟩
theorem fl_X_57 : FL "TopYard" 57 9 8 true (.object "TopYard$Game") := ⟨kR9, kF9, 14, kT9, rfl, kW9, by decide, rfl, by decide, wd_115, rfl, rfl, kO9, kN9, rfl⟩
theorem fl_X_61 : FL "TopYard" 61 9 9 true (.array .int) := ⟨kR9, kF9, 14, kT9, rfl, kW9, by decide, rfl, by decide, wd_123, rfl, rfl, kO9, kN9, rfl⟩
theorem fl_X_64 : FL "TopYard" 64 9 10 true (.array .int) := ⟨kR9, kF9, 14, kT9, rfl, kW9, by decide, rfl, by decide, wd_124, rfl, rfl, kO9, kN9, rfl⟩
theorem fl_X_70 : FL "TopYard" 70 9 11 true (.object "TopYard$Pack") := ⟨kR9, kF9, 14, kT9, rfl, kW9, by decide, rfl, by decide, wd_134, rfl, rfl, kO9, kN9, rfl⟩
theorem fl_X_76 : FL "TopYard" 76 9 12 true (.array (.object "TopYard$Sheet")) := ⟨kR9, kF9, 14, kT9, rfl, kW9, by decide, rfl, by decide, wd_101, rfl, rfl, kO9, kN9, rfl⟩
theorem fl_X_80 : FL "TopYard" 80 9 13 false (.int) := ⟨kR9, kF9, 14, kT9, rfl, kW9, by decide, rfl, by decide, wd_102, rfl, rfl, kO9, kN9, rfl⟩
