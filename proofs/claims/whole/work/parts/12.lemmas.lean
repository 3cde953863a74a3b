abbrev b_X_within : ByteArray := prog_1_method_49_code
def y_X_within : MethodName := ⟨"TopYard", "within", "(III)Z"⟩
abbrev b_Hd_alongX : ByteArray := prog_6_method_2_code
def y_Hd_alongX : MethodName := ⟨"TopYard$Headings", "alongX", "(I)I"⟩
abbrev b_Hd_alongY : ByteArray := prog_6_method_3_code
def y_Hd_alongY : MethodName := ⟨"TopYard$Headings", "alongY", "(I)I"⟩
abbrev b_X_turn : ByteArray := prog_1_method_2_code
def y_X_turn : MethodName := ⟨"TopYard", "turn", "(II)I"⟩
abbrev b_X_isOwner : ByteArray := prog_1_method_50_code
def y_X_isOwner : MethodName := ⟨"TopYard", "isOwner", "(I)Z"⟩
abbrev b_X_top : ByteArray := prog_1_method_3_code
def y_X_top : MethodName := ⟨"TopYard", "top", "(IIIII)I"⟩
abbrev b_X_topAt : ByteArray := prog_1_method_51_code
def y_X_topAt : MethodName := ⟨"TopYard", "topAt", "(I)LTopYard$Top;"⟩
abbrev b_X_about : ByteArray := prog_1_method_4_code
def y_X_about : MethodName := ⟨"TopYard", "about", "(II)I"⟩
abbrev b_X_wear : ByteArray := prog_1_method_5_code
def y_X_wear : MethodName := ⟨"TopYard", "wear", "(II)I"⟩
abbrev b_X_give : ByteArray := prog_1_method_6_code
def y_X_give : MethodName := ⟨"TopYard", "give", "(II)I"⟩
abbrev b_X_bowl : ByteArray := prog_1_method_7_code
def y_X_bowl : MethodName := ⟨"TopYard", "bowl", "(II)I"⟩
abbrev b_Bw_mayDent : ByteArray := prog_3_method_2_code
def y_Bw_mayDent : MethodName := ⟨"TopYard$Bowl", "mayDent", "(II)Z"⟩
abbrev b_Bw_raise : ByteArray := prog_3_method_3_code
def y_Bw_raise : MethodName := ⟨"TopYard$Bowl", "raise", "(III)Z"⟩
abbrev b_X_dent : ByteArray := prog_1_method_8_code
def y_X_dent : MethodName := ⟨"TopYard", "dent", "(III)I"⟩
abbrev b_JA_fill : ByteArray := prog_17_method_103_code
def y_JA_fill : MethodName := ⟨"java/util/Arrays", "fill", "([II)V"⟩
abbrev b_Bw_flatten : ByteArray := prog_3_method_4_code
def y_Bw_flatten : MethodName := ⟨"TopYard$Bowl", "flatten", "()V"⟩
abbrev b_X_smooth : ByteArray := prog_1_method_9_code
def y_X_smooth : MethodName := ⟨"TopYard", "smooth", "()I"⟩
abbrev b_Bw_heightAt : ByteArray := prog_3_method_5_code
def y_Bw_heightAt : MethodName := ⟨"TopYard$Bowl", "heightAt", "(II)I"⟩
abbrev b_Bw_slopeAlongX : ByteArray := prog_3_method_6_code
def y_Bw_slopeAlongX : MethodName := ⟨"TopYard$Bowl", "slopeAlongX", "(II)I"⟩
abbrev b_Bw_slopeAlongY : ByteArray := prog_3_method_7_code
def y_Bw_slopeAlongY : MethodName := ⟨"TopYard$Bowl", "slopeAlongY", "(II)I"⟩
abbrev b_X_height : ByteArray := prog_1_method_10_code
def y_X_height : MethodName := ⟨"TopYard", "height", "(III)I"⟩
abbrev b_X_string : ByteArray := prog_1_method_11_code
def y_X_string : MethodName := ⟨"TopYard", "string", "(II)I"⟩
abbrev b_Bt_holds : ByteArray := prog_2_method_4_code
def y_Bt_holds : MethodName := ⟨"TopYard$Bout", "holds", "(I)Z"⟩
abbrev b_Bt_addSpinner : ByteArray := prog_2_method_5_code
def y_Bt_addSpinner : MethodName := ⟨"TopYard$Bout", "addSpinner", "(LTopYard$Top;I)LTopYard$Spinner;"⟩
abbrev b_Sp_set : ByteArray := prog_10_method_2_code
def y_Sp_set : MethodName := ⟨"TopYard$Spinner", "set", "(IIII)V"⟩
abbrev b_X_enter : ByteArray := prog_1_method_12_code
def y_X_enter : MethodName := ⟨"TopYard", "enter", "(IIIII)I"⟩
abbrev b_Bt_empty : ByteArray := prog_2_method_2_code
def y_Bt_empty : MethodName := ⟨"TopYard$Bout", "empty", "()V"⟩
abbrev b_X_clear : ByteArray := prog_1_method_13_code
def y_X_clear : MethodName := ⟨"TopYard", "clear", "()I"⟩
abbrev b_Bt_addWhip : ByteArray := prog_2_method_6_code
def y_Bt_addWhip : MethodName := ⟨"TopYard$Bout", "addWhip", "(III)Z"⟩
abbrev b_X_whip : ByteArray := prog_1_method_14_code
def y_X_whip : MethodName := ⟨"TopYard", "whip", "(III)I"⟩
abbrev b_JM_max1 : ByteArray := prog_15_method_65_code
def y_JM_max1 : MethodName := ⟨"java/lang/Math", "max", "(II)I"⟩
abbrev b_JM_min : ByteArray := prog_15_method_69_code
def y_JM_min : MethodName := ⟨"java/lang/Math", "min", "(II)I"⟩
abbrev b_Sp_begin : ByteArray := prog_10_method_3_code
def y_Sp_begin : MethodName := ⟨"TopYard$Spinner", "begin", "(I)V"⟩
abbrev b_Bt_begin : ByteArray := prog_2_method_9_code
def y_Bt_begin : MethodName := ⟨"TopYard$Bout", "begin", "([I)V"⟩
abbrev b_Bt_at : ByteArray := prog_2_method_3_code
def y_Bt_at : MethodName := ⟨"TopYard$Bout", "at", "(I)LTopYard$Spinner;"⟩
abbrev b_Sp_stands : ByteArray := prog_10_method_4_code
def y_Sp_stands : MethodName := ⟨"TopYard$Spinner", "stands", "()Z"⟩
abbrev b_Bt_lash : ByteArray := prog_2_method_12_code
def y_Bt_lash : MethodName := ⟨"TopYard$Bout", "lash", "(I)V"⟩
abbrev b_Sp_slow : ByteArray := prog_10_method_6_code
def y_Sp_slow : MethodName := ⟨"TopYard$Spinner", "slow", "()V"⟩
abbrev b_Sp_tilt : ByteArray := prog_10_method_7_code
def y_Sp_tilt : MethodName := ⟨"TopYard$Spinner", "tilt", "()V"⟩
abbrev b_JM_floorDiv : ByteArray := prog_15_method_49_code
def y_JM_floorDiv : MethodName := ⟨"java/lang/Math", "floorDiv", "(JJ)J"⟩
abbrev b_JM_floorMod : ByteArray := prog_15_method_50_code
def y_JM_floorMod : MethodName := ⟨"java/lang/Math", "floorMod", "(II)I"⟩
abbrev b_Sp_push : ByteArray := prog_10_method_8_code
def y_Sp_push : MethodName := ⟨"TopYard$Spinner", "push", "(LTopYard$Bowl;)V"⟩
abbrev b_Sp_move : ByteArray := prog_10_method_9_code
def y_Sp_move : MethodName := ⟨"TopYard$Spinner", "move", "()V"⟩
abbrev b_Sp_isWithin : ByteArray := prog_10_method_12_code
def y_Sp_isWithin : MethodName := ⟨"TopYard$Spinner", "isWithin", "(I)Z"⟩
abbrev b_Sp_leave : ByteArray := prog_10_method_10_code
def y_Sp_leave : MethodName := ⟨"TopYard$Spinner", "leave", "(I)V"⟩
abbrev b_Bt_lock : ByteArray := prog_2_method_14_code
def y_Bt_lock : MethodName := ⟨"TopYard$Bout", "lock", "(LTopYard$Spinner;LTopYard$Spinner;)V"⟩
abbrev b_Bt_bounce : ByteArray := prog_2_method_15_code
def y_Bt_bounce : MethodName := ⟨"TopYard$Bout", "bounce", "(LTopYard$Spinner;LTopYard$Spinner;JJJ)V"⟩
abbrev b_Bt_passSpin : ByteArray := prog_2_method_16_code
def y_Bt_passSpin : MethodName := ⟨"TopYard$Bout", "passSpin", "(LTopYard$Spinner;LTopYard$Spinner;)V"⟩
abbrev b_Bt_collide : ByteArray := prog_2_method_13_code
def y_Bt_collide : MethodName := ⟨"TopYard$Bout", "collide", "(LTopYard$Spinner;LTopYard$Spinner;)V"⟩
abbrev b_Sp_fall : ByteArray := prog_10_method_11_code
def y_Sp_fall : MethodName := ⟨"TopYard$Spinner", "fall", "(I)V"⟩
abbrev b_Bt_step : ByteArray := prog_2_method_11_code
def y_Bt_step : MethodName := ⟨"TopYard$Bout", "step", "(LTopYard$Bowl;II)V"⟩
abbrev b_Bt_standing : ByteArray := prog_2_method_10_code
def y_Bt_standing : MethodName := ⟨"TopYard$Bout", "standing", "()I"⟩
abbrev b_Bt_spinUntil : ByteArray := prog_2_method_7_code
def y_Bt_spinUntil : MethodName := ⟨"TopYard$Bout", "spinUntil", "(LTopYard$Bowl;[III)I"⟩
abbrev b_X_spinBout : ByteArray := prog_1_method_54_code
def y_X_spinBout : MethodName := ⟨"TopYard", "spinBout", "(I)I"⟩
abbrev b_X_run : ByteArray := prog_1_method_15_code
def y_X_run : MethodName := ⟨"TopYard", "run", "()I"⟩
abbrev b_Bt_lonePlace : ByteArray := prog_2_method_8_code
def y_Bt_lonePlace : MethodName := ⟨"TopYard$Bout", "lonePlace", "()I"⟩
abbrev b_X_winner : ByteArray := prog_1_method_16_code
def y_X_winner : MethodName := ⟨"TopYard", "winner", "()I"⟩
abbrev b_X_knocks : ByteArray := prog_1_method_17_code
def y_X_knocks : MethodName := ⟨"TopYard", "knocks", "(I)I"⟩
abbrev b_Sp_figure : ByteArray := prog_10_method_13_code
def y_Sp_figure : MethodName := ⟨"TopYard$Spinner", "figure", "(I)I"⟩
abbrev b_X_state : ByteArray := prog_1_method_18_code
def y_X_state : MethodName := ⟨"TopYard", "state", "(III)I"⟩
abbrev b_Ch_begin : ByteArray := prog_4_method_2_code
def y_Ch_begin : MethodName := ⟨"TopYard$Choice", "begin", "()V"⟩
abbrev b_X_choose : ByteArray := prog_1_method_19_code
def y_X_choose : MethodName := ⟨"TopYard", "choose", "()I"⟩
abbrev b_Ch_addRow : ByteArray := prog_4_method_5_code
def y_Ch_addRow : MethodName := ⟨"TopYard$Choice", "addRow", "(I)I"⟩
abbrev b_Ch_addColumn : ByteArray := prog_4_method_6_code
def y_Ch_addColumn : MethodName := ⟨"TopYard$Choice", "addColumn", "(I)I"⟩
abbrev b_X_among : ByteArray := prog_1_method_20_code
def y_X_among : MethodName := ⟨"TopYard", "among", "(II)I"⟩
abbrev b_Ch_has : ByteArray := prog_4_method_4_code
def y_Ch_has : MethodName := ⟨"TopYard$Choice", "has", "(II)Z"⟩
abbrev b_X_pay : ByteArray := prog_1_method_21_code
def y_X_pay : MethodName := ⟨"TopYard", "pay", "(III)I"⟩
abbrev b_X_pays : ByteArray := prog_1_method_22_code
def y_X_pays : MethodName := ⟨"TopYard", "pays", "(II)I"⟩
abbrev b_Ch_isOpen : ByteArray := prog_4_method_3_code
def y_Ch_isOpen : MethodName := ⟨"TopYard$Choice", "isOpen", "()Z"⟩
abbrev b_Sp_fellInRing : ByteArray := prog_10_method_5_code
def y_Sp_fellInRing : MethodName := ⟨"TopYard$Spinner", "fellInRing", "()Z"⟩
abbrev b_X_duel : ByteArray := prog_1_method_55_code
def y_X_duel : MethodName := ⟨"TopYard", "duel", "(IIII)I"⟩
abbrev b_X_fill : ByteArray := prog_1_method_23_code
def y_X_fill : MethodName := ⟨"TopYard", "fill", "()I"⟩
abbrev b_JI_bitCount : ByteArray := prog_14_method_49_code
def y_JI_bitCount : MethodName := ⟨"java/lang/Integer", "bitCount", "(I)I"⟩
abbrev b_JI_numberOfTrailingZeros : ByteArray := prog_14_method_48_code
def y_JI_numberOfTrailingZeros : MethodName := ⟨"java/lang/Integer", "numberOfTrailingZeros", "(I)I"⟩
abbrev b_Ch_minor : ByteArray := prog_4_method_12_code
def y_Ch_minor : MethodName := ⟨"TopYard$Choice", "minor", "(IIII)J"⟩
abbrev b_Ch_expand : ByteArray := prog_4_method_11_code
def y_Ch_expand : MethodName := ⟨"TopYard$Choice", "expand", "(II)J"⟩
abbrev b_Ch_findDeterminants : ByteArray := prog_4_method_10_code
def y_Ch_findDeterminants : MethodName := ⟨"TopYard$Choice", "findDeterminants", "()V"⟩
abbrev b_Ch_cofactor : ByteArray := prog_4_method_15_code
def y_Ch_cofactor : MethodName := ⟨"TopYard$Choice", "cofactor", "(IIII)J"⟩
abbrev b_Ch_changeSigns : ByteArray := prog_4_method_16_code
def y_Ch_changeSigns : MethodName := ⟨"TopYard$Choice", "changeSigns", "()V"⟩
abbrev b_Ch_noShareIsNegative : ByteArray := prog_4_method_17_code
def y_Ch_noShareIsNegative : MethodName := ⟨"TopYard$Choice", "noShareIsNegative", "()Z"⟩
abbrev b_Ch_holdsForRows : ByteArray := prog_4_method_19_code
def y_Ch_holdsForRows : MethodName := ⟨"TopYard$Choice", "holdsForRows", "()Z"⟩
abbrev b_Ch_holdsForColumns : ByteArray := prog_4_method_18_code
def y_Ch_holdsForColumns : MethodName := ⟨"TopYard$Choice", "holdsForColumns", "()Z"⟩
abbrev b_Ch_solveByPart : ByteArray := prog_4_method_14_code
def y_Ch_solveByPart : MethodName := ⟨"TopYard$Choice", "solveByPart", "(II)Z"⟩
abbrev b_Ch_solveBySize : ByteArray := prog_4_method_13_code
def y_Ch_solveBySize : MethodName := ⟨"TopYard$Choice", "solveBySize", "(I)Z"⟩
abbrev b_Ch_solve : ByteArray := prog_4_method_9_code
def y_Ch_solve : MethodName := ⟨"TopYard$Choice", "solve", "()V"⟩
abbrev b_Ch_inMillionths : ByteArray := prog_4_method_8_code
def y_Ch_inMillionths : MethodName := ⟨"TopYard$Choice", "inMillionths", "(J)I"⟩
abbrev b_Ch_valueInMillionths : ByteArray := prog_4_method_7_code
def y_Ch_valueInMillionths : MethodName := ⟨"TopYard$Choice", "valueInMillionths", "()I"⟩
abbrev b_X_value : ByteArray := prog_1_method_24_code
def y_X_value : MethodName := ⟨"TopYard", "value", "()I"⟩
abbrev b_X_mix : ByteArray := prog_1_method_25_code
def y_X_mix : MethodName := ⟨"TopYard", "mix", "(II)I"⟩
abbrev b_X_expected : ByteArray := prog_1_method_26_code
def y_X_expected : MethodName := ⟨"TopYard", "expected", "(II)I"⟩
abbrev b_X_mayBeRow : ByteArray := prog_1_method_56_code
def y_X_mayBeRow : MethodName := ⟨"TopYard", "mayBeRow", "(III)Z"⟩
abbrev b_Pa_add : ByteArray := prog_8_method_2_code
def y_Pa_add : MethodName := ⟨"TopYard$Past", "add", "(III)Z"⟩
abbrev b_X_was : ByteArray := prog_1_method_27_code
def y_X_was : MethodName := ⟨"TopYard", "was", "(III)I"⟩
abbrev b_X_forget : ByteArray := prog_1_method_28_code
def y_X_forget : MethodName := ⟨"TopYard", "forget", "()I"⟩
abbrev b_X_sheetAt : ByteArray := prog_1_method_52_code
def y_X_sheetAt : MethodName := ⟨"TopYard", "sheetAt", "(I)LTopYard$Sheet;"⟩
abbrev b_X_find : ByteArray := prog_1_method_53_code
def y_X_find : MethodName := ⟨"TopYard", "find", "(I)I"⟩
abbrev b_Sh_item : ByteArray := prog_9_method_6_code
def y_Sh_item : MethodName := ⟨"TopYard$Sheet", "item", "(I)I"⟩
abbrev b_X_read : ByteArray := prog_1_method_29_code
def y_X_read : MethodName := ⟨"TopYard", "read", "(I)I"⟩
abbrev b_Pa_speaks : ByteArray := prog_8_method_3_code
def y_Pa_speaks : MethodName := ⟨"TopYard$Past", "speaks", "(II)Z"⟩
abbrev b_Pa_firstLike : ByteArray := prog_8_method_4_code
def y_Pa_firstLike : MethodName := ⟨"TopYard$Past", "firstLike", "(I)I"⟩
abbrev b_X_foretellRows : ByteArray := prog_1_method_57_code
def y_X_foretellRows : MethodName := ⟨"TopYard", "foretellRows", "(I)V"⟩
abbrev b_Pa_sided : ByteArray := prog_8_method_9_code
def y_Pa_sided : MethodName := ⟨"TopYard$Past", "sided", "(III)I"⟩
abbrev b_Pa_surprises : ByteArray := prog_8_method_5_code
def y_Pa_surprises : MethodName := ⟨"TopYard$Past", "surprises", "(I)I"⟩
abbrev b_Pa_chances : ByteArray := prog_8_method_6_code
def y_Pa_chances : MethodName := ⟨"TopYard$Past", "chances", "(I)I"⟩
abbrev b_Pa_doubt : ByteArray := prog_8_method_8_code
def y_Pa_doubt : MethodName := ⟨"TopYard$Past", "doubt", "(I)I"⟩
abbrev b_X_worn : ByteArray := prog_1_method_30_code
def y_X_worn : MethodName := ⟨"TopYard", "worn", "(II)I"⟩
abbrev b_X_most : ByteArray := prog_1_method_31_code
def y_X_most : MethodName := ⟨"TopYard", "most", "()I"⟩
abbrev b_Pa_rowsAsTold : ByteArray := prog_8_method_7_code
def y_Pa_rowsAsTold : MethodName := ⟨"TopYard$Past", "rowsAsTold", "(I)I"⟩
abbrev b_X_explained : ByteArray := prog_1_method_32_code
def y_X_explained : MethodName := ⟨"TopYard", "explained", "(II)I"⟩
abbrev b_Ga_append : ByteArray := prog_5_method_2_code
def y_Ga_append : MethodName := ⟨"TopYard$Game", "append", "(I)Z"⟩
abbrev b_X_type : ByteArray := prog_1_method_33_code
def y_X_type : MethodName := ⟨"TopYard", "type", "(I)I"⟩
abbrev b_X_wipe : ByteArray := prog_1_method_34_code
def y_X_wipe : MethodName := ⟨"TopYard", "wipe", "()I"⟩
abbrev b_Ga_byteAt : ByteArray := prog_5_method_9_code
def y_Ga_byteAt : MethodName := ⟨"TopYard$Game", "byteAt", "(I)I"⟩
abbrev b_Ga_letterAt : ByteArray := prog_5_method_10_code
def y_Ga_letterAt : MethodName := ⟨"TopYard$Game", "letterAt", "(I)I"⟩
abbrev b_Ga_isFigure : ByteArray := prog_5_method_13_code
def y_Ga_isFigure : MethodName := ⟨"TopYard$Game", "isFigure", "(I)Z"⟩
abbrev b_Ga_figuresAt : ByteArray := prog_5_method_11_code
def y_Ga_figuresAt : MethodName := ⟨"TopYard$Game", "figuresAt", "(I)I"⟩
abbrev b_Ga_numberAt : ByteArray := prog_5_method_12_code
def y_Ga_numberAt : MethodName := ⟨"TopYard$Game", "numberAt", "(II)I"⟩
abbrev b_Ga_parse : ByteArray := prog_5_method_8_code
def y_Ga_parse : MethodName := ⟨"TopYard$Game", "parse", "()I"⟩
abbrev b_X_fault : ByteArray := prog_1_method_35_code
def y_X_fault : MethodName := ⟨"TopYard", "fault", "()I"⟩
abbrev b_X_isTopOf : ByteArray := prog_1_method_59_code
def y_X_isTopOf : MethodName := ⟨"TopYard", "isTopOf", "(II)Z"⟩
abbrev b_X_topsOf : ByteArray := prog_1_method_58_code
def y_X_topsOf : MethodName := ⟨"TopYard", "topsOf", "(I)I"⟩
abbrev b_Ga_mostBouts : ByteArray := prog_5_method_4_code
def y_Ga_mostBouts : MethodName := ⟨"TopYard$Game", "mostBouts", "()I"⟩
abbrev b_Ga_winsNeeded : ByteArray := prog_5_method_3_code
def y_Ga_winsNeeded : MethodName := ⟨"TopYard$Game", "winsNeeded", "()I"⟩
abbrev b_X_nthTopOf : ByteArray := prog_1_method_60_code
def y_X_nthTopOf : MethodName := ⟨"TopYard", "nthTopOf", "(II)I"⟩
abbrev b_Ga_turns : ByteArray := prog_5_method_6_code
def y_Ga_turns : MethodName := ⟨"TopYard$Game", "turns", "()I"⟩
abbrev b_Ga_ring : ByteArray := prog_5_method_5_code
def y_Ga_ring : MethodName := ⟨"TopYard$Game", "ring", "()I"⟩
abbrev b_X_playBouts : ByteArray := prog_1_method_61_code
def y_X_playBouts : MethodName := ⟨"TopYard", "playBouts", "(II)V"⟩
abbrev b_Ga_keeps : ByteArray := prog_5_method_7_code
def y_Ga_keeps : MethodName := ⟨"TopYard$Game", "keeps", "()I"⟩
abbrev b_X_keepTops : ByteArray := prog_1_method_62_code
def y_X_keepTops : MethodName := ⟨"TopYard", "keepTops", "(II)I"⟩
abbrev b_X_play : ByteArray := prog_1_method_36_code
def y_X_play : MethodName := ⟨"TopYard", "play", "(II)I"⟩
abbrev b_X_played : ByteArray := prog_1_method_37_code
def y_X_played : MethodName := ⟨"TopYard", "played", "(I)I"⟩
abbrev b_X_met : ByteArray := prog_1_method_38_code
def y_X_met : MethodName := ⟨"TopYard", "met", "(II)I"⟩
abbrev b_X_costOfPair : ByteArray := prog_1_method_65_code
def y_X_costOfPair : MethodName := ⟨"TopYard", "costOfPair", "([III)J"⟩
abbrev b_JM_max2 : ByteArray := prog_15_method_66_code
def y_JM_max2 : MethodName := ⟨"java/lang/Math", "max", "(JJ)J"⟩
abbrev b_X_leastCost : ByteArray := prog_1_method_66_code
def y_X_leastCost : MethodName := ⟨"TopYard", "leastCost", "([III)J"⟩
abbrev b_X_bestMate : ByteArray := prog_1_method_64_code
def y_X_bestMate : MethodName := ⟨"TopYard", "bestMate", "(III)I"⟩
abbrev b_X_mateInPairing : ByteArray := prog_1_method_63_code
def y_X_mateInPairing : MethodName := ⟨"TopYard", "mateInPairing", "(II)I"⟩
abbrev b_X_pairing : ByteArray := prog_1_method_39_code
def y_X_pairing : MethodName := ⟨"TopYard", "pairing", "(II)I"⟩
abbrev b_Pk_begin : ByteArray := prog_7_method_2_code
def y_Pk_begin : MethodName := ⟨"TopYard$Pack", "begin", "(I)V"⟩
abbrev b_To_worth : ByteArray := prog_11_method_2_code
def y_To_worth : MethodName := ⟨"TopYard$Top", "worth", "()I"⟩
abbrev b_Pk_offer : ByteArray := prog_7_method_3_code
def y_Pk_offer : MethodName := ⟨"TopYard$Pack", "offer", "(II)V"⟩
abbrev b_Pk_bestWeight : ByteArray := prog_7_method_4_code
def y_Pk_bestWeight : MethodName := ⟨"TopYard$Pack", "bestWeight", "()I"⟩
abbrev b_X_bag : ByteArray := prog_1_method_40_code
def y_X_bag : MethodName := ⟨"TopYard", "bag", "(III)I"⟩
abbrev b_Sh_isForm : ByteArray := prog_9_method_2_code
def y_Sh_isForm : MethodName := ⟨"TopYard$Sheet", "isForm", "(I)Z"⟩
abbrev b_Sh_begin : ByteArray := prog_9_method_3_code
def y_Sh_begin : MethodName := ⟨"TopYard$Sheet", "begin", "(II)V"⟩
abbrev b_X_sheet : ByteArray := prog_1_method_41_code
def y_X_sheet : MethodName := ⟨"TopYard", "sheet", "(III)I"⟩
abbrev b_X_lose : ByteArray := prog_1_method_42_code
def y_X_lose : MethodName := ⟨"TopYard", "lose", "(I)I"⟩
abbrev b_Sh_findingAt : ByteArray := prog_9_method_4_code
def y_Sh_findingAt : MethodName := ⟨"TopYard$Sheet", "findingAt", "(II)I"⟩
abbrev b_Sh_narrowed : ByteArray := prog_9_method_8_code
def y_Sh_narrowed : MethodName := ⟨"TopYard$Sheet", "narrowed", "(I)I"⟩
abbrev b_Sh_store : ByteArray := prog_9_method_7_code
def y_Sh_store : MethodName := ⟨"TopYard$Sheet", "store", "(II)V"⟩
abbrev b_X_put : ByteArray := prog_1_method_43_code
def y_X_put : MethodName := ⟨"TopYard", "put", "(IIII)I"⟩
abbrev b_X_get : ByteArray := prog_1_method_44_code
def y_X_get : MethodName := ⟨"TopYard", "get", "(III)I"⟩
abbrev b_Sh_spans : ByteArray := prog_9_method_5_code
def y_Sh_spans : MethodName := ⟨"TopYard$Sheet", "spans", "(II)Z"⟩
abbrev b_X_copy : ByteArray := prog_1_method_45_code
def y_X_copy : MethodName := ⟨"TopYard", "copy", "(IIIII)I"⟩
abbrev b_X_write : ByteArray := prog_1_method_46_code
def y_X_write : MethodName := ⟨"TopYard", "write", "(II)I"⟩
abbrev b_X_count : ByteArray := prog_1_method_47_code
def y_X_count : MethodName := ⟨"TopYard", "count", "(I)I"⟩
abbrev b_X_digest : ByteArray := prog_1_method_48_code
def y_X_digest : MethodName := ⟨"TopYard", "digest", "()J"⟩
abbrev b_M_in : ByteArray := prog_13_method_3_code
def y_M_in : MethodName := ⟨"TopYardModel", "in", "(JJJ)Z"⟩
abbrev b_M_c : ByteArray := prog_13_method_4_code
def y_M_c : MethodName := ⟨"TopYardModel", "c", "(I)I"⟩
abbrev b_M_s : ByteArray := prog_13_method_5_code
def y_M_s : MethodName := ⟨"TopYardModel", "s", "(I)I"⟩
abbrev b_M_turn : ByteArray := prog_13_method_6_code
def y_M_turn : MethodName := ⟨"TopYardModel", "turn", "(II)I"⟩
abbrev b_M_isTop : ByteArray := prog_13_method_7_code
def y_M_isTop : MethodName := ⟨"TopYardModel", "isTop", "(I)Z"⟩
abbrev b_M_isOwner : ByteArray := prog_13_method_8_code
def y_M_isOwner : MethodName := ⟨"TopYardModel", "isOwner", "(I)Z"⟩
abbrev b_M_top : ByteArray := prog_13_method_9_code
def y_M_top : MethodName := ⟨"TopYardModel", "top", "(IIIII)I"⟩
abbrev b_M_about : ByteArray := prog_13_method_10_code
def y_M_about : MethodName := ⟨"TopYardModel", "about", "(II)I"⟩
abbrev b_M_wear : ByteArray := prog_13_method_11_code
def y_M_wear : MethodName := ⟨"TopYardModel", "wear", "(II)I"⟩
abbrev b_M_give : ByteArray := prog_13_method_12_code
def y_M_give : MethodName := ⟨"TopYardModel", "give", "(II)I"⟩
abbrev b_M_bowl : ByteArray := prog_13_method_13_code
def y_M_bowl : MethodName := ⟨"TopYardModel", "bowl", "(II)I"⟩
abbrev b_M_dent : ByteArray := prog_13_method_14_code
def y_M_dent : MethodName := ⟨"TopYardModel", "dent", "(III)I"⟩
abbrev b_M_smooth : ByteArray := prog_13_method_15_code
def y_M_smooth : MethodName := ⟨"TopYardModel", "smooth", "()I"⟩
abbrev b_M_heightOf : ByteArray := prog_13_method_16_code
def y_M_heightOf : MethodName := ⟨"TopYardModel", "heightOf", "(II)I"⟩
abbrev b_M_slopeX : ByteArray := prog_13_method_17_code
def y_M_slopeX : MethodName := ⟨"TopYardModel", "slopeX", "(II)I"⟩
abbrev b_M_slopeY : ByteArray := prog_13_method_18_code
def y_M_slopeY : MethodName := ⟨"TopYardModel", "slopeY", "(II)I"⟩
abbrev b_M_height : ByteArray := prog_13_method_19_code
def y_M_height : MethodName := ⟨"TopYardModel", "height", "(III)I"⟩
abbrev b_M_string : ByteArray := prog_13_method_20_code
def y_M_string : MethodName := ⟨"TopYardModel", "string", "(II)I"⟩
abbrev b_M_enter : ByteArray := prog_13_method_21_code
def y_M_enter : MethodName := ⟨"TopYardModel", "enter", "(IIIII)I"⟩
abbrev b_M_clear : ByteArray := prog_13_method_22_code
def y_M_clear : MethodName := ⟨"TopYardModel", "clear", "()I"⟩
abbrev b_M_whip : ByteArray := prog_13_method_23_code
def y_M_whip : MethodName := ⟨"TopYardModel", "whip", "(III)I"⟩
abbrev b_M_begins : ByteArray := prog_13_method_24_code
def y_M_begins : MethodName := ⟨"TopYardModel", "begins", "(IIIIII)V"⟩
abbrev b_M_standing : ByteArray := prog_13_method_25_code
def y_M_standing : MethodName := ⟨"TopYardModel", "standing", "()I"⟩
abbrev b_M_floor65 : ByteArray := prog_13_method_26_code
def y_M_floor65 : MethodName := ⟨"TopYardModel", "floor65", "(J)I"⟩
abbrev b_M_moves : ByteArray := prog_13_method_27_code
def y_M_moves : MethodName := ⟨"TopYardModel", "moves", "()V"⟩
abbrev b_M_knock : ByteArray := prog_13_method_28_code
def y_M_knock : MethodName := ⟨"TopYardModel", "knock", "(II)V"⟩
abbrev b_M_ticks : ByteArray := prog_13_method_29_code
def y_M_ticks : MethodName := ⟨"TopYardModel", "ticks", "(IIZ)V"⟩
abbrev b_M_runsTo : ByteArray := prog_13_method_30_code
def y_M_runsTo : MethodName := ⟨"TopYardModel", "runsTo", "(IIZ)I"⟩
abbrev b_M_runsBout : ByteArray := prog_13_method_31_code
def y_M_runsBout : MethodName := ⟨"TopYardModel", "runsBout", "(I)I"⟩
abbrev b_M_alone : ByteArray := prog_13_method_32_code
def y_M_alone : MethodName := ⟨"TopYardModel", "alone", "()I"⟩
abbrev b_M_run : ByteArray := prog_13_method_33_code
def y_M_run : MethodName := ⟨"TopYardModel", "run", "()I"⟩
abbrev b_M_winner : ByteArray := prog_13_method_34_code
def y_M_winner : MethodName := ⟨"TopYardModel", "winner", "()I"⟩
abbrev b_M_knocks : ByteArray := prog_13_method_35_code
def y_M_knocks : MethodName := ⟨"TopYardModel", "knocks", "(I)I"⟩
abbrev b_M_stateOf : ByteArray := prog_13_method_36_code
def y_M_stateOf : MethodName := ⟨"TopYardModel", "stateOf", "(II)I"⟩
abbrev b_M_state : ByteArray := prog_13_method_37_code
def y_M_state : MethodName := ⟨"TopYardModel", "state", "(III)I"⟩
abbrev b_M_comesTo : ByteArray := prog_13_method_38_code
def y_M_comesTo : MethodName := ⟨"TopYardModel", "comesTo", "(IIII)I"⟩
abbrev b_M_expectedOf : ByteArray := prog_13_method_39_code
def y_M_expectedOf : MethodName := ⟨"TopYardModel", "expectedOf", "(II)I"⟩
abbrev b_M_expected : ByteArray := prog_13_method_40_code
def y_M_expected : MethodName := ⟨"TopYardModel", "expected", "(II)I"⟩
abbrev b_M_choose : ByteArray := prog_13_method_41_code
def y_M_choose : MethodName := ⟨"TopYardModel", "choose", "()I"⟩
abbrev b_M_among : ByteArray := prog_13_method_42_code
def y_M_among : MethodName := ⟨"TopYardModel", "among", "(II)I"⟩
abbrev b_M_isPay : ByteArray := prog_13_method_43_code
def y_M_isPay : MethodName := ⟨"TopYardModel", "isPay", "(II)Z"⟩
abbrev b_M_pay : ByteArray := prog_13_method_44_code
def y_M_pay : MethodName := ⟨"TopYardModel", "pay", "(III)I"⟩
abbrev b_M_pays : ByteArray := prog_13_method_45_code
def y_M_pays : MethodName := ⟨"TopYardModel", "pays", "(II)I"⟩
abbrev b_M_fill : ByteArray := prog_13_method_46_code
def y_M_fill : MethodName := ⟨"TopYardModel", "fill", "()I"⟩
abbrev b_M_ones : ByteArray := prog_13_method_47_code
def y_M_ones : MethodName := ⟨"TopYardModel", "ones", "(I)I"⟩
abbrev b_M_det2 : ByteArray := prog_13_method_48_code
def y_M_det2 : MethodName := ⟨"TopYardModel", "det2", "(IIII)J"⟩
abbrev b_M_det3 : ByteArray := prog_13_method_49_code
def y_M_det3 : MethodName := ⟨"TopYardModel", "det3", "(IIIIII)J"⟩
abbrev b_M_without : ByteArray := prog_13_method_50_code
def y_M_without : MethodName := ⟨"TopYardModel", "without", "(II)I"⟩
abbrev b_M_minor : ByteArray := prog_13_method_51_code
def y_M_minor : MethodName := ⟨"TopYardModel", "minor", "(III)J"⟩
abbrev b_M_takesPart : ByteArray := prog_13_method_52_code
def y_M_takesPart : MethodName := ⟨"TopYardModel", "takesPart", "(II)V"⟩
abbrev b_M_isMix : ByteArray := prog_13_method_53_code
def y_M_isMix : MethodName := ⟨"TopYardModel", "isMix", "()Z"⟩
abbrev b_M_findMix : ByteArray := prog_13_method_54_code
def y_M_findMix : MethodName := ⟨"TopYardModel", "findMix", "()Z"⟩
abbrev b_M_value : ByteArray := prog_13_method_55_code
def y_M_value : MethodName := ⟨"TopYardModel", "value", "()I"⟩
abbrev b_M_mix : ByteArray := prog_13_method_56_code
def y_M_mix : MethodName := ⟨"TopYardModel", "mix", "(II)I"⟩
abbrev b_M_was : ByteArray := prog_13_method_57_code
def y_M_was : MethodName := ⟨"TopYardModel", "was", "(III)I"⟩
abbrev b_M_forget : ByteArray := prog_13_method_58_code
def y_M_forget : MethodName := ⟨"TopYardModel", "forget", "()I"⟩
abbrev b_M_isSheet : ByteArray := prog_13_method_84_code
def y_M_isSheet : MethodName := ⟨"TopYardModel", "isSheet", "(I)Z"⟩
abbrev b_M_met2 : ByteArray := prog_13_method_83_code
def y_M_met2 : MethodName := ⟨"TopYardModel", "met", "(I)I"⟩
abbrev b_M_read : ByteArray := prog_13_method_59_code
def y_M_read : MethodName := ⟨"TopYardModel", "read", "(I)I"⟩
abbrev b_M_isOf : ByteArray := prog_13_method_60_code
def y_M_isOf : MethodName := ⟨"TopYardModel", "isOf", "(II)Z"⟩
abbrev b_M_findWorn : ByteArray := prog_13_method_61_code
def y_M_findWorn : MethodName := ⟨"TopYardModel", "findWorn", "(I)V"⟩
abbrev b_M_doubt : ByteArray := prog_13_method_62_code
def y_M_doubt : MethodName := ⟨"TopYardModel", "doubt", "()I"⟩
abbrev b_M_worn : ByteArray := prog_13_method_63_code
def y_M_worn : MethodName := ⟨"TopYardModel", "worn", "(II)I"⟩
abbrev b_M_most : ByteArray := prog_13_method_64_code
def y_M_most : MethodName := ⟨"TopYardModel", "most", "()I"⟩
abbrev b_M_explained : ByteArray := prog_13_method_65_code
def y_M_explained : MethodName := ⟨"TopYardModel", "explained", "(II)I"⟩
abbrev b_M_type : ByteArray := prog_13_method_66_code
def y_M_type : MethodName := ⟨"TopYardModel", "type", "(I)I"⟩
abbrev b_M_wipe : ByteArray := prog_13_method_67_code
def y_M_wipe : MethodName := ⟨"TopYardModel", "wipe", "()I"⟩
abbrev b_M_ruleOf : ByteArray := prog_13_method_68_code
def y_M_ruleOf : MethodName := ⟨"TopYardModel", "ruleOf", "(I)I"⟩
abbrev b_M_isRule : ByteArray := prog_13_method_69_code
def y_M_isRule : MethodName := ⟨"TopYardModel", "isRule", "(II)Z"⟩
abbrev b_M_isFigure : ByteArray := prog_13_method_70_code
def y_M_isFigure : MethodName := ⟨"TopYardModel", "isFigure", "(I)Z"⟩
abbrev b_M_reads : ByteArray := prog_13_method_71_code
def y_M_reads : MethodName := ⟨"TopYardModel", "reads", "()V"⟩
abbrev b_M_fault : ByteArray := prog_13_method_72_code
def y_M_fault : MethodName := ⟨"TopYardModel", "fault", "()I"⟩
abbrev b_M_topsOf : ByteArray := prog_13_method_73_code
def y_M_topsOf : MethodName := ⟨"TopYardModel", "topsOf", "(I)I"⟩
abbrev b_M_topOf : ByteArray := prog_13_method_74_code
def y_M_topOf : MethodName := ⟨"TopYardModel", "topOf", "(II)I"⟩
abbrev b_M_play : ByteArray := prog_13_method_75_code
def y_M_play : MethodName := ⟨"TopYardModel", "play", "(II)I"⟩
abbrev b_M_played : ByteArray := prog_13_method_76_code
def y_M_played : MethodName := ⟨"TopYardModel", "played", "(I)I"⟩
abbrev b_M_met1 : ByteArray := prog_13_method_77_code
def y_M_met1 : MethodName := ⟨"TopYardModel", "met", "(II)I"⟩
abbrev b_M_first : ByteArray := prog_13_method_78_code
def y_M_first : MethodName := ⟨"TopYardModel", "first", "(I)I"⟩
abbrev b_M_costs : ByteArray := prog_13_method_79_code
def y_M_costs : MethodName := ⟨"TopYardModel", "costs", "(II)I"⟩
abbrev b_M_findPairs : ByteArray := prog_13_method_80_code
def y_M_findPairs : MethodName := ⟨"TopYardModel", "findPairs", "()V"⟩
abbrev b_M_pairing : ByteArray := prog_13_method_81_code
def y_M_pairing : MethodName := ⟨"TopYardModel", "pairing", "(II)I"⟩
abbrev b_M_bag : ByteArray := prog_13_method_82_code
def y_M_bag : MethodName := ⟨"TopYardModel", "bag", "(III)I"⟩
abbrev b_M_sheet : ByteArray := prog_13_method_85_code
def y_M_sheet : MethodName := ⟨"TopYardModel", "sheet", "(III)I"⟩
abbrev b_M_lose : ByteArray := prog_13_method_86_code
def y_M_lose : MethodName := ⟨"TopYardModel", "lose", "(I)I"⟩
abbrev b_M_lacks : ByteArray := prog_13_method_87_code
def y_M_lacks : MethodName := ⟨"TopYardModel", "lacks", "(III)I"⟩
abbrev b_M_cut : ByteArray := prog_13_method_88_code
def y_M_cut : MethodName := ⟨"TopYardModel", "cut", "(II)I"⟩
abbrev b_M_put : ByteArray := prog_13_method_89_code
def y_M_put : MethodName := ⟨"TopYardModel", "put", "(IIII)I"⟩
abbrev b_M_get : ByteArray := prog_13_method_90_code
def y_M_get : MethodName := ⟨"TopYardModel", "get", "(III)I"⟩
abbrev b_M_copy : ByteArray := prog_13_method_91_code
def y_M_copy : MethodName := ⟨"TopYardModel", "copy", "(IIIII)I"⟩
abbrev b_M_write : ByteArray := prog_13_method_92_code
def y_M_write : MethodName := ⟨"TopYardModel", "write", "(II)I"⟩
abbrev b_M_count : ByteArray := prog_13_method_93_code
def y_M_count : MethodName := ⟨"TopYardModel", "count", "(I)I"⟩
abbrev b_M_digest : ByteArray := prog_13_method_94_code
def y_M_digest : MethodName := ⟨"TopYardModel", "digest", "()J"⟩
/-! which layout a world has -/
def IsX (Y : Lay) : Prop := ykd Y = kdX ∧ yln Y = lnX ∧ ysr Y = srX ∧ ymd Y = true ∧ t0X ≤ yn Y
def IsM (Y : Lay) : Prop := ykd Y = kdM ∧ yln Y = lnM ∧ ysr Y = srM ∧ ymd Y = true ∧ t0M ≤ yn Y
theorem ibl {i : Int32} {n : Nat} (h : ib i n = true) : ix i < n := by
  simp only [ib, Bool.and_eq_true, decide_eq_true_eq] at h
  exact h.2
theorem rf_cat (o : Option Nat) : (va_rf o).category = 1 := by cases o <;> rfl
theorem kX {Y : Lay} {a k : Nat} (hY : IsX Y) (h : kdX a = k) : ykd Y a = k := by rw [hY.1]; exact h
theorem lX {Y : Lay} {a k : Nat} (hY : IsX Y) (h : lnX a = k) : yln Y a = k := by rw [hY.2.1]; exact h
theorem nX {Y : Lay} {a : Nat} (hY : IsX Y) (h : a < t0X) : a < yn Y := Nat.lt_of_lt_of_le h hY.2.2.2.2
theorem sX {Y : Lay} {a j b : Nat} (hY : IsX Y) (h : srX a j = b) : ysr Y a j = b := by rw [hY.2.2.1]; exact h
theorem kdX_out {b : Nat} (h : t0X ≤ b) : kdX b = 8 := by
  unfold kdX
  rw [List.getD_eq_getElem?_getD, List.getElem?_eq_none (by simpa [t0X] using h)]
  rfl
theorem kdX_in {b k : Nat} (h : kdX b = k) (hk : k ≠ 8) : b < t0X := by
  rcases Nat.lt_or_ge b t0X with q | q
  · exact q
  · exact absurd (h.symm.trans (kdX_out q)) hk
theorem kM {Y : Lay} {a k : Nat} (hY : IsM Y) (h : kdM a = k) : ykd Y a = k := by rw [hY.1]; exact h
theorem lM {Y : Lay} {a k : Nat} (hY : IsM Y) (h : lnM a = k) : yln Y a = k := by rw [hY.2.1]; exact h
theorem nM {Y : Lay} {a : Nat} (hY : IsM Y) (h : a < t0M) : a < yn Y := Nat.lt_of_lt_of_le h hY.2.2.2.2
theorem sM {Y : Lay} {a j b : Nat} (hY : IsM Y) (h : srM a j = b) : ysr Y a j = b := by rw [hY.2.2.1]; exact h
theorem kdM_out {b : Nat} (h : t0M ≤ b) : kdM b = 8 := by
  unfold kdM
  rw [List.getD_eq_getElem?_getD, List.getElem?_eq_none (by simpa [t0M] using h)]
  rfl
theorem kdM_in {b k : Nat} (h : kdM b = k) (hk : k ≠ 8) : b < t0M := by
  rcases Nat.lt_or_ge b t0M with q | q
  · exact q
  · exact absurd (h.symm.trans (kdM_out q)) hk
theorem tbX_0_0_a : ∀ b, b < t0X → kdX b = 0 → kdX (srX b 0) = 14 ∧ srX b 0 < t0X ∧ lnX (srX b 0) = 4 := by decide +kernel
theorem tbX_0_0 {Y : Lay} {b : Nat} (hY : IsX Y) (h : ykd Y b = 0) : ykd Y (srX b 0) = 14 ∧ srX b 0 < yn Y ∧ yln Y (srX b 0) = 4 := by
  rw [hY.1] at h
  obtain ⟨h1, h2, h3⟩ := tbX_0_0_a b (kdX_in h (by decide)) h
  exact ⟨kX hY h1, nX hY h2, lX hY h3⟩
theorem tbX_0_2_a : ∀ b, b < t0X → kdX b = 0 → kdX (srX b 2) = 11 ∧ srX b 2 < t0X ∧ lnX (srX b 2) = 8 := by decide +kernel
theorem tbX_0_2 {Y : Lay} {b : Nat} (hY : IsX Y) (h : ykd Y b = 0) : ykd Y (srX b 2) = 11 ∧ srX b 2 < yn Y ∧ yln Y (srX b 2) = 8 := by
  rw [hY.1] at h
  obtain ⟨h1, h2, h3⟩ := tbX_0_2_a b (kdX_in h (by decide)) h
  exact ⟨kX hY h1, nX hY h2, lX hY h3⟩
theorem tbX_0_3_a : ∀ b, b < t0X → kdX b = 0 → kdX (srX b 3) = 11 ∧ srX b 3 < t0X ∧ lnX (srX b 3) = 8 := by decide +kernel
theorem tbX_0_3 {Y : Lay} {b : Nat} (hY : IsX Y) (h : ykd Y b = 0) : ykd Y (srX b 3) = 11 ∧ srX b 3 < yn Y ∧ yln Y (srX b 3) = 8 := by
  rw [hY.1] at h
  obtain ⟨h1, h2, h3⟩ := tbX_0_3_a b (kdX_in h (by decide)) h
  exact ⟨kX hY h1, nX hY h2, lX hY h3⟩
theorem tbX_0_4_a : ∀ b, b < t0X → kdX b = 0 → kdX (srX b 4) = 11 ∧ srX b 4 < t0X ∧ lnX (srX b 4) = 8 := by decide +kernel
theorem tbX_0_4 {Y : Lay} {b : Nat} (hY : IsX Y) (h : ykd Y b = 0) : ykd Y (srX b 4) = 11 ∧ srX b 4 < yn Y ∧ yln Y (srX b 4) = 8 := by
  rw [hY.1] at h
  obtain ⟨h1, h2, h3⟩ := tbX_0_4_a b (kdX_in h (by decide)) h
  exact ⟨kX hY h1, nX hY h2, lX hY h3⟩
theorem tbX_6_3_a : ∀ b, b < t0X → kdX b = 6 → kdX (srX b 3) = 11 ∧ srX b 3 < t0X ∧ lnX (srX b 3) = 120 := by decide +kernel
theorem tbX_6_3 {Y : Lay} {b : Nat} (hY : IsX Y) (h : ykd Y b = 6) : ykd Y (srX b 3) = 11 ∧ srX b 3 < yn Y ∧ yln Y (srX b 3) = 120 := by
  rw [hY.1] at h
  obtain ⟨h1, h2, h3⟩ := tbX_6_3_a b (kdX_in h (by decide)) h
  exact ⟨kX hY h1, nX hY h2, lX hY h3⟩
theorem teX_13_a : ∀ b, b < t0X → kdX b = 13 → ∀ i, i < 4 → kdX (srX b i) = 6 ∧ srX b i < t0X ∧ lnX (srX b i) = 0 := by decide +kernel
theorem teX_13 {Y : Lay} {b i : Nat} (hY : IsX Y) (h : ykd Y b = 13) (hi : i < 4) : ykd Y (srX b i) = 6 ∧ srX b i < yn Y ∧ yln Y (srX b i) = 0 := by
  rw [hY.1] at h
  obtain ⟨h1, h2, h3⟩ := teX_13_a b (kdX_in h (by decide)) h i hi
  exact ⟨kX hY h1, nX hY h2, lX hY h3⟩
theorem teX_14_a : ∀ b, b < t0X → kdX b = 14 → ∀ i, i < 4 → kdX (srX b i) = 7 ∧ srX b i < t0X ∧ lnX (srX b i) = 0 := by decide +kernel
theorem teX_14 {Y : Lay} {b i : Nat} (hY : IsX Y) (h : ykd Y b = 14) (hi : i < 4) : ykd Y (srX b i) = 7 ∧ srX b i < yn Y ∧ yln Y (srX b i) = 0 := by
  rw [hY.1] at h
  obtain ⟨h1, h2, h3⟩ := teX_14_a b (kdX_in h (by decide)) h i hi
  exact ⟨kX hY h1, nX hY h2, lX hY h3⟩
theorem teX_16_a : ∀ b, b < t0X → kdX b = 16 → ∀ i, i < 4 → kdX (srX b i) = 11 ∧ srX b i < t0X ∧ lnX (srX b i) = 4 := by decide +kernel
theorem teX_16 {Y : Lay} {b i : Nat} (hY : IsX Y) (h : ykd Y b = 16) (hi : i < 4) : ykd Y (srX b i) = 11 ∧ srX b i < yn Y ∧ yln Y (srX b i) = 4 := by
  rw [hY.1] at h
  obtain ⟨h1, h2, h3⟩ := teX_16_a b (kdX_in h (by decide)) h i hi
  exact ⟨kX hY h1, nX hY h2, lX hY h3⟩
