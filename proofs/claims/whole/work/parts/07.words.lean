abbrev b_X_within : ByteArray := prog_1_method_49_code
def y_X_within : MethodName := ⟨"TopYard", "within", "(III)Z"⟩
abbrev b_Hd_alongX : ByteArray := prog_6_method_2_code
def y_Hd_alongX : MethodName := ⟨"TopYard$Headings", "alongX", "(I)I"⟩
abbrev b_Hd_alongY : ByteArray := prog_6_method_3_code
def y_Hd_alongY : MethodName := ⟨"TopYard$Headings", "alongY", "(I)I"⟩
abbrev b_X_turn : ByteArray := prog_1_method_2_code
def y_X_turn : MethodName := ⟨"TopYard", "turn", "(II)I"⟩
abbrev b_X_isOwner : ByteArray := prog_1_method_50_code
def y_X_isOwner : MethodName := ⟨"TopYard", "isOwner", "(I)Z"⟩
abbrev b_X_top : ByteArray := prog_1_method_3_code
def y_X_top : MethodName := ⟨"TopYard", "top", "(IIIII)I"⟩
abbrev b_X_topAt : ByteArray := prog_1_method_51_code
def y_X_topAt : MethodName := ⟨"TopYard", "topAt", "(I)LTopYard$Top;"⟩
abbrev b_X_about : ByteArray := prog_1_method_4_code
def y_X_about : MethodName := ⟨"TopYard", "about", "(II)I"⟩
abbrev b_X_wear : ByteArray := prog_1_method_5_code
def y_X_wear : MethodName := ⟨"TopYard", "wear", "(II)I"⟩
abbrev b_X_give : ByteArray := prog_1_method_6_code
def y_X_give : MethodName := ⟨"TopYard", "give", "(II)I"⟩
abbrev b_X_bowl : ByteArray := prog_1_method_7_code
def y_X_bowl : MethodName := ⟨"TopYard", "bowl", "(II)I"⟩
abbrev b_Bw_mayDent : ByteArray := prog_3_method_2_code
def y_Bw_mayDent : MethodName := ⟨"TopYard$Bowl", "mayDent", "(II)Z"⟩
abbrev b_Bw_raise : ByteArray := prog_3_method_3_code
def y_Bw_raise : MethodName := ⟨"TopYard$Bowl", "raise", "(III)Z"⟩
abbrev b_X_dent : ByteArray := prog_1_method_8_code
def y_X_dent : MethodName := ⟨"TopYard", "dent", "(III)I"⟩
abbrev b_JA_fill : ByteArray := prog_17_method_103_code
def y_JA_fill : MethodName := ⟨"java/util/Arrays", "fill", "([II)V"⟩
abbrev b_Bw_flatten : ByteArray := prog_3_method_4_code
def y_Bw_flatten : MethodName := ⟨"TopYard$Bowl", "flatten", "()V"⟩
abbrev b_X_smooth : ByteArray := prog_1_method_9_code
def y_X_smooth : MethodName := ⟨"TopYard", "smooth", "()I"⟩
abbrev b_Bw_heightAt : ByteArray := prog_3_method_5_code
def y_Bw_heightAt : MethodName := ⟨"TopYard$Bowl", "heightAt", "(II)I"⟩
abbrev b_Bw_slopeAlongX : ByteArray := prog_3_method_6_code
def y_Bw_slopeAlongX : MethodName := ⟨"TopYard$Bowl", "slopeAlongX", "(II)I"⟩
abbrev b_Bw_slopeAlongY : ByteArray := prog_3_method_7_code
def y_Bw_slopeAlongY : MethodName := ⟨"TopYard$Bowl", "slopeAlongY", "(II)I"⟩
abbrev b_X_height : ByteArray := prog_1_method_10_code
def y_X_height : MethodName := ⟨"TopYard", "height", "(III)I"⟩
abbrev b_X_string : ByteArray := prog_1_method_11_code
def y_X_string : MethodName := ⟨"TopYard", "string", "(II)I"⟩
abbrev b_Bt_at : ByteArray := prog_2_method_3_code
def y_Bt_at : MethodName := ⟨"TopYard$Bout", "at", "(I)LTopYard$Spinner;"⟩
abbrev b_Bt_holds : ByteArray := prog_2_method_4_code
def y_Bt_holds : MethodName := ⟨"TopYard$Bout", "holds", "(I)Z"⟩
abbrev b_Bt_addSpinner : ByteArray := prog_2_method_5_code
def y_Bt_addSpinner : MethodName := ⟨"TopYard$Bout", "addSpinner", "(LTopYard$Top;I)LTopYard$Spinner;"⟩
abbrev b_Sp_set : ByteArray := prog_10_method_2_code
def y_Sp_set : MethodName := ⟨"TopYard$Spinner", "set", "(IIII)V"⟩
abbrev b_X_enter : ByteArray := prog_1_method_12_code
def y_X_enter : MethodName := ⟨"TopYard", "enter", "(IIIII)I"⟩
abbrev b_Bt_empty : ByteArray := prog_2_method_2_code
def y_Bt_empty : MethodName := ⟨"TopYard$Bout", "empty", "()V"⟩
abbrev b_X_clear : ByteArray := prog_1_method_13_code
def y_X_clear : MethodName := ⟨"TopYard", "clear", "()I"⟩
abbrev b_Bt_addWhip : ByteArray := prog_2_method_6_code
def y_Bt_addWhip : MethodName := ⟨"TopYard$Bout", "addWhip", "(III)Z"⟩
abbrev b_X_whip : ByteArray := prog_1_method_14_code
def y_X_whip : MethodName := ⟨"TopYard", "whip", "(III)I"⟩
abbrev b_Sp_owner : ByteArray := prog_10_method_4_code
def y_Sp_owner : MethodName := ⟨"TopYard$Spinner", "owner", "()I"⟩
abbrev b_JM_max1 : ByteArray := prog_15_method_65_code
def y_JM_max1 : MethodName := ⟨"java/lang/Math", "max", "(II)I"⟩
abbrev b_JM_min : ByteArray := prog_15_method_69_code
def y_JM_min : MethodName := ⟨"java/lang/Math", "min", "(II)I"⟩
abbrev b_Sp_begin : ByteArray := prog_10_method_3_code
def y_Sp_begin : MethodName := ⟨"TopYard$Spinner", "begin", "(I)V"⟩
abbrev b_Bt_begin : ByteArray := prog_2_method_9_code
def y_Bt_begin : MethodName := ⟨"TopYard$Bout", "begin", "([I)V"⟩
abbrev b_Sp_stands : ByteArray := prog_10_method_5_code
def y_Sp_stands : MethodName := ⟨"TopYard$Spinner", "stands", "()Z"⟩
abbrev b_Bt_lash : ByteArray := prog_2_method_13_code
def y_Bt_lash : MethodName := ⟨"TopYard$Bout", "lash", "(I)V"⟩
abbrev b_Sp_slow : ByteArray := prog_10_method_7_code
def y_Sp_slow : MethodName := ⟨"TopYard$Spinner", "slow", "()V"⟩
abbrev b_Sp_tilt : ByteArray := prog_10_method_8_code
def y_Sp_tilt : MethodName := ⟨"TopYard$Spinner", "tilt", "()V"⟩
abbrev b_JM_floorDiv : ByteArray := prog_15_method_49_code
def y_JM_floorDiv : MethodName := ⟨"java/lang/Math", "floorDiv", "(JJ)J"⟩
abbrev b_JM_floorMod : ByteArray := prog_15_method_50_code
def y_JM_floorMod : MethodName := ⟨"java/lang/Math", "floorMod", "(II)I"⟩
abbrev b_Sp_push : ByteArray := prog_10_method_9_code
def y_Sp_push : MethodName := ⟨"TopYard$Spinner", "push", "(LTopYard$Bowl;)V"⟩
abbrev b_Sp_move : ByteArray := prog_10_method_10_code
def y_Sp_move : MethodName := ⟨"TopYard$Spinner", "move", "()V"⟩
abbrev b_Sp_isWithin : ByteArray := prog_10_method_13_code
def y_Sp_isWithin : MethodName := ⟨"TopYard$Spinner", "isWithin", "(I)Z"⟩
abbrev b_Sp_leave : ByteArray := prog_10_method_11_code
def y_Sp_leave : MethodName := ⟨"TopYard$Spinner", "leave", "(I)V"⟩
abbrev b_Bt_lock : ByteArray := prog_2_method_15_code
def y_Bt_lock : MethodName := ⟨"TopYard$Bout", "lock", "(LTopYard$Spinner;LTopYard$Spinner;)V"⟩
abbrev b_Bt_bounce : ByteArray := prog_2_method_16_code
def y_Bt_bounce : MethodName := ⟨"TopYard$Bout", "bounce", "(LTopYard$Spinner;LTopYard$Spinner;JJJ)V"⟩
abbrev b_Bt_passSpin : ByteArray := prog_2_method_17_code
def y_Bt_passSpin : MethodName := ⟨"TopYard$Bout", "passSpin", "(LTopYard$Spinner;LTopYard$Spinner;)V"⟩
abbrev b_Bt_collide : ByteArray := prog_2_method_14_code
def y_Bt_collide : MethodName := ⟨"TopYard$Bout", "collide", "(LTopYard$Spinner;LTopYard$Spinner;)V"⟩
abbrev b_Sp_fall : ByteArray := prog_10_method_12_code
def y_Sp_fall : MethodName := ⟨"TopYard$Spinner", "fall", "(I)V"⟩
abbrev b_Bt_step : ByteArray := prog_2_method_12_code
def y_Bt_step : MethodName := ⟨"TopYard$Bout", "step", "(LTopYard$Bowl;II)V"⟩
abbrev b_Bt_standsAt : ByteArray := prog_2_method_10_code
def y_Bt_standsAt : MethodName := ⟨"TopYard$Bout", "standsAt", "(I)Z"⟩
abbrev b_Bt_standing : ByteArray := prog_2_method_11_code
def y_Bt_standing : MethodName := ⟨"TopYard$Bout", "standing", "()I"⟩
abbrev b_Bt_spinUntil : ByteArray := prog_2_method_7_code
def y_Bt_spinUntil : MethodName := ⟨"TopYard$Bout", "spinUntil", "(LTopYard$Bowl;[III)I"⟩
abbrev b_X_spinBout : ByteArray := prog_1_method_54_code
def y_X_spinBout : MethodName := ⟨"TopYard", "spinBout", "(I)I"⟩
abbrev b_X_run : ByteArray := prog_1_method_15_code
def y_X_run : MethodName := ⟨"TopYard", "run", "()I"⟩
abbrev b_Bt_lonePlace : ByteArray := prog_2_method_8_code
def y_Bt_lonePlace : MethodName := ⟨"TopYard$Bout", "lonePlace", "()I"⟩
abbrev b_X_winner : ByteArray := prog_1_method_16_code
def y_X_winner : MethodName := ⟨"TopYard", "winner", "()I"⟩
abbrev b_X_knocks : ByteArray := prog_1_method_17_code
def y_X_knocks : MethodName := ⟨"TopYard", "knocks", "(I)I"⟩
abbrev b_Sp_figure : ByteArray := prog_10_method_14_code
def y_Sp_figure : MethodName := ⟨"TopYard$Spinner", "figure", "(I)I"⟩
abbrev b_X_state : ByteArray := prog_1_method_18_code
def y_X_state : MethodName := ⟨"TopYard", "state", "(III)I"⟩
abbrev b_Ch_begin : ByteArray := prog_4_method_2_code
def y_Ch_begin : MethodName := ⟨"TopYard$Choice", "begin", "()V"⟩
abbrev b_X_choose : ByteArray := prog_1_method_19_code
def y_X_choose : MethodName := ⟨"TopYard", "choose", "()I"⟩
abbrev b_Ch_addRow : ByteArray := prog_4_method_5_code
def y_Ch_addRow : MethodName := ⟨"TopYard$Choice", "addRow", "(I)I"⟩
abbrev b_Ch_addColumn : ByteArray := prog_4_method_6_code
def y_Ch_addColumn : MethodName := ⟨"TopYard$Choice", "addColumn", "(I)I"⟩
abbrev b_X_among : ByteArray := prog_1_method_20_code
def y_X_among : MethodName := ⟨"TopYard", "among", "(II)I"⟩
abbrev b_Ch_has : ByteArray := prog_4_method_4_code
def y_Ch_has : MethodName := ⟨"TopYard$Choice", "has", "(II)Z"⟩
abbrev b_X_pay : ByteArray := prog_1_method_21_code
def y_X_pay : MethodName := ⟨"TopYard", "pay", "(III)I"⟩
abbrev b_X_pays : ByteArray := prog_1_method_22_code
def y_X_pays : MethodName := ⟨"TopYard", "pays", "(II)I"⟩
abbrev b_Ch_isOpen : ByteArray := prog_4_method_3_code
def y_Ch_isOpen : MethodName := ⟨"TopYard$Choice", "isOpen", "()Z"⟩
abbrev b_Sp_fellInRing : ByteArray := prog_10_method_6_code
def y_Sp_fellInRing : MethodName := ⟨"TopYard$Spinner", "fellInRing", "()Z"⟩
abbrev b_X_duel : ByteArray := prog_1_method_55_code
def y_X_duel : MethodName := ⟨"TopYard", "duel", "(IIII)I"⟩
abbrev b_X_fill : ByteArray := prog_1_method_23_code
def y_X_fill : MethodName := ⟨"TopYard", "fill", "()I"⟩
abbrev b_JI_bitCount : ByteArray := prog_14_method_49_code
def y_JI_bitCount : MethodName := ⟨"java/lang/Integer", "bitCount", "(I)I"⟩
abbrev b_JI_numberOfTrailingZeros : ByteArray := prog_14_method_48_code
def y_JI_numberOfTrailingZeros : MethodName := ⟨"java/lang/Integer", "numberOfTrailingZeros", "(I)I"⟩
abbrev b_Ch_minor : ByteArray := prog_4_method_12_code
def y_Ch_minor : MethodName := ⟨"TopYard$Choice", "minor", "(IIII)J"⟩
abbrev b_Ch_expand : ByteArray := prog_4_method_11_code
def y_Ch_expand : MethodName := ⟨"TopYard$Choice", "expand", "(II)J"⟩
abbrev b_Ch_findDeterminants : ByteArray := prog_4_method_10_code
def y_Ch_findDeterminants : MethodName := ⟨"TopYard$Choice", "findDeterminants", "()V"⟩
abbrev b_Ch_cofactor : ByteArray := prog_4_method_15_code
def y_Ch_cofactor : MethodName := ⟨"TopYard$Choice", "cofactor", "(IIII)J"⟩
abbrev b_Ch_changeSigns : ByteArray := prog_4_method_16_code
def y_Ch_changeSigns : MethodName := ⟨"TopYard$Choice", "changeSigns", "()V"⟩
abbrev b_Ch_noShareIsNegative : ByteArray := prog_4_method_17_code
def y_Ch_noShareIsNegative : MethodName := ⟨"TopYard$Choice", "noShareIsNegative", "()Z"⟩
abbrev b_Ch_holdsForRows : ByteArray := prog_4_method_19_code
def y_Ch_holdsForRows : MethodName := ⟨"TopYard$Choice", "holdsForRows", "()Z"⟩
abbrev b_Ch_holdsForColumns : ByteArray := prog_4_method_18_code
def y_Ch_holdsForColumns : MethodName := ⟨"TopYard$Choice", "holdsForColumns", "()Z"⟩
abbrev b_Ch_solveByPart : ByteArray := prog_4_method_14_code
def y_Ch_solveByPart : MethodName := ⟨"TopYard$Choice", "solveByPart", "(II)Z"⟩
abbrev b_Ch_solveBySize : ByteArray := prog_4_method_13_code
def y_Ch_solveBySize : MethodName := ⟨"TopYard$Choice", "solveBySize", "(I)Z"⟩
abbrev b_Ch_solve : ByteArray := prog_4_method_9_code
def y_Ch_solve : MethodName := ⟨"TopYard$Choice", "solve", "()V"⟩
abbrev b_Ch_inMillionths : ByteArray := prog_4_method_8_code
def y_Ch_inMillionths : MethodName := ⟨"TopYard$Choice", "inMillionths", "(J)I"⟩
abbrev b_Ch_valueInMillionths : ByteArray := prog_4_method_7_code
def y_Ch_valueInMillionths : MethodName := ⟨"TopYard$Choice", "valueInMillionths", "()I"⟩
abbrev b_X_value : ByteArray := prog_1_method_24_code
def y_X_value : MethodName := ⟨"TopYard", "value", "()I"⟩
abbrev b_X_mix : ByteArray := prog_1_method_25_code
def y_X_mix : MethodName := ⟨"TopYard", "mix", "(II)I"⟩
abbrev b_X_expected : ByteArray := prog_1_method_26_code
def y_X_expected : MethodName := ⟨"TopYard", "expected", "(II)I"⟩
abbrev b_X_mayBeRow : ByteArray := prog_1_method_56_code
def y_X_mayBeRow : MethodName := ⟨"TopYard", "mayBeRow", "(III)Z"⟩
abbrev b_Pa_add : ByteArray := prog_8_method_2_code
def y_Pa_add : MethodName := ⟨"TopYard$Past", "add", "(III)Z"⟩
abbrev b_X_was : ByteArray := prog_1_method_27_code
def y_X_was : MethodName := ⟨"TopYard", "was", "(III)I"⟩
abbrev b_X_forget : ByteArray := prog_1_method_28_code
def y_X_forget : MethodName := ⟨"TopYard", "forget", "()I"⟩
abbrev b_X_sheetAt : ByteArray := prog_1_method_52_code
def y_X_sheetAt : MethodName := ⟨"TopYard", "sheetAt", "(I)LTopYard$Sheet;"⟩
abbrev b_X_find : ByteArray := prog_1_method_53_code
def y_X_find : MethodName := ⟨"TopYard", "find", "(I)I"⟩
abbrev b_Sh_item : ByteArray := prog_9_method_6_code
def y_Sh_item : MethodName := ⟨"TopYard$Sheet", "item", "(I)I"⟩
abbrev b_X_read : ByteArray := prog_1_method_29_code
def y_X_read : MethodName := ⟨"TopYard", "read", "(I)I"⟩
abbrev b_Pa_speaks : ByteArray := prog_8_method_3_code
def y_Pa_speaks : MethodName := ⟨"TopYard$Past", "speaks", "(II)Z"⟩
abbrev b_Pa_firstLike : ByteArray := prog_8_method_4_code
def y_Pa_firstLike : MethodName := ⟨"TopYard$Past", "firstLike", "(I)I"⟩
abbrev b_X_foretellRows : ByteArray := prog_1_method_57_code
def y_X_foretellRows : MethodName := ⟨"TopYard", "foretellRows", "(I)V"⟩
abbrev b_Pa_sided : ByteArray := prog_8_method_9_code
def y_Pa_sided : MethodName := ⟨"TopYard$Past", "sided", "(III)I"⟩
abbrev b_Pa_surprises : ByteArray := prog_8_method_5_code
def y_Pa_surprises : MethodName := ⟨"TopYard$Past", "surprises", "(I)I"⟩
abbrev b_Pa_chances : ByteArray := prog_8_method_6_code
def y_Pa_chances : MethodName := ⟨"TopYard$Past", "chances", "(I)I"⟩
abbrev b_Pa_doubt : ByteArray := prog_8_method_8_code
def y_Pa_doubt : MethodName := ⟨"TopYard$Past", "doubt", "(I)I"⟩
abbrev b_X_worn : ByteArray := prog_1_method_30_code
def y_X_worn : MethodName := ⟨"TopYard", "worn", "(II)I"⟩
abbrev b_X_most : ByteArray := prog_1_method_31_code
def y_X_most : MethodName := ⟨"TopYard", "most", "()I"⟩
abbrev b_Pa_rowsAsTold : ByteArray := prog_8_method_7_code
def y_Pa_rowsAsTold : MethodName := ⟨"TopYard$Past", "rowsAsTold", "(I)I"⟩
abbrev b_X_explained : ByteArray := prog_1_method_32_code
def y_X_explained : MethodName := ⟨"TopYard", "explained", "(II)I"⟩
abbrev b_Ga_append : ByteArray := prog_5_method_2_code
def y_Ga_append : MethodName := ⟨"TopYard$Game", "append", "(I)Z"⟩
abbrev b_X_type : ByteArray := prog_1_method_33_code
def y_X_type : MethodName := ⟨"TopYard", "type", "(I)I"⟩
abbrev b_X_wipe : ByteArray := prog_1_method_34_code
def y_X_wipe : MethodName := ⟨"TopYard", "wipe", "()I"⟩
abbrev b_Ga_byteAt : ByteArray := prog_5_method_9_code
def y_Ga_byteAt : MethodName := ⟨"TopYard$Game", "byteAt", "(I)I"⟩
abbrev b_Ga_letterAt : ByteArray := prog_5_method_10_code
def y_Ga_letterAt : MethodName := ⟨"TopYard$Game", "letterAt", "(I)I"⟩
abbrev b_Ga_isFigure : ByteArray := prog_5_method_13_code
def y_Ga_isFigure : MethodName := ⟨"TopYard$Game", "isFigure", "(I)Z"⟩
abbrev b_Ga_figuresAt : ByteArray := prog_5_method_11_code
def y_Ga_figuresAt : MethodName := ⟨"TopYard$Game", "figuresAt", "(I)I"⟩
abbrev b_Ga_numberAt : ByteArray := prog_5_method_12_code
def y_Ga_numberAt : MethodName := ⟨"TopYard$Game", "numberAt", "(II)I"⟩
abbrev b_Ga_parse : ByteArray := prog_5_method_8_code
def y_Ga_parse : MethodName := ⟨"TopYard$Game", "parse", "()I"⟩
abbrev b_X_fault : ByteArray := prog_1_method_35_code
def y_X_fault : MethodName := ⟨"TopYard", "fault", "()I"⟩
abbrev b_X_isTopOf : ByteArray := prog_1_method_59_code
def y_X_isTopOf : MethodName := ⟨"TopYard", "isTopOf", "(II)Z"⟩
abbrev b_X_topsOf : ByteArray := prog_1_method_58_code
def y_X_topsOf : MethodName := ⟨"TopYard", "topsOf", "(I)I"⟩
abbrev b_Ga_mostBouts : ByteArray := prog_5_method_4_code
def y_Ga_mostBouts : MethodName := ⟨"TopYard$Game", "mostBouts", "()I"⟩
abbrev b_Ga_winsNeeded : ByteArray := prog_5_method_3_code
def y_Ga_winsNeeded : MethodName := ⟨"TopYard$Game", "winsNeeded", "()I"⟩
abbrev b_X_nthTopOf : ByteArray := prog_1_method_60_code
def y_X_nthTopOf : MethodName := ⟨"TopYard", "nthTopOf", "(II)I"⟩
abbrev b_Ga_turns : ByteArray := prog_5_method_6_code
def y_Ga_turns : MethodName := ⟨"TopYard$Game", "turns", "()I"⟩
abbrev b_Ga_ring : ByteArray := prog_5_method_5_code
def y_Ga_ring : MethodName := ⟨"TopYard$Game", "ring", "()I"⟩
abbrev b_X_playBouts : ByteArray := prog_1_method_61_code
def y_X_playBouts : MethodName := ⟨"TopYard", "playBouts", "(II)V"⟩
abbrev b_Ga_keeps : ByteArray := prog_5_method_7_code
def y_Ga_keeps : MethodName := ⟨"TopYard$Game", "keeps", "()I"⟩
abbrev b_X_keepTops : ByteArray := prog_1_method_62_code
def y_X_keepTops : MethodName := ⟨"TopYard", "keepTops", "(II)I"⟩
abbrev b_X_play : ByteArray := prog_1_method_36_code
def y_X_play : MethodName := ⟨"TopYard", "play", "(II)I"⟩
abbrev b_X_played : ByteArray := prog_1_method_37_code
def y_X_played : MethodName := ⟨"TopYard", "played", "(I)I"⟩
abbrev b_X_met : ByteArray := prog_1_method_38_code
def y_X_met : MethodName := ⟨"TopYard", "met", "(II)I"⟩
abbrev b_X_costOfPair : ByteArray := prog_1_method_65_code
def y_X_costOfPair : MethodName := ⟨"TopYard", "costOfPair", "([III)J"⟩
abbrev b_JM_max2 : ByteArray := prog_15_method_66_code
def y_JM_max2 : MethodName := ⟨"java/lang/Math", "max", "(JJ)J"⟩
abbrev b_X_leastCost : ByteArray := prog_1_method_66_code
def y_X_leastCost : MethodName := ⟨"TopYard", "leastCost", "([III)J"⟩
abbrev b_X_bestMate : ByteArray := prog_1_method_64_code
def y_X_bestMate : MethodName := ⟨"TopYard", "bestMate", "(III)I"⟩
abbrev b_X_mateInPairing : ByteArray := prog_1_method_63_code
def y_X_mateInPairing : MethodName := ⟨"TopYard", "mateInPairing", "(II)I"⟩
abbrev b_X_pairing : ByteArray := prog_1_method_39_code
def y_X_pairing : MethodName := ⟨"TopYard", "pairing", "(II)I"⟩
abbrev b_Pk_begin : ByteArray := prog_7_method_2_code
def y_Pk_begin : MethodName := ⟨"TopYard$Pack", "begin", "(I)V"⟩
abbrev b_To_worth : ByteArray := prog_11_method_2_code
def y_To_worth : MethodName := ⟨"TopYard$Top", "worth", "()I"⟩
abbrev b_Pk_offer : ByteArray := prog_7_method_3_code
def y_Pk_offer : MethodName := ⟨"TopYard$Pack", "offer", "(II)V"⟩
abbrev b_Pk_bestWeight : ByteArray := prog_7_method_4_code
def y_Pk_bestWeight : MethodName := ⟨"TopYard$Pack", "bestWeight", "()I"⟩
abbrev b_X_bag : ByteArray := prog_1_method_40_code
def y_X_bag : MethodName := ⟨"TopYard", "bag", "(III)I"⟩
abbrev b_Sh_isForm : ByteArray := prog_9_method_2_code
def y_Sh_isForm : MethodName := ⟨"TopYard$Sheet", "isForm", "(I)Z"⟩
abbrev b_Sh_begin : ByteArray := prog_9_method_3_code
def y_Sh_begin : MethodName := ⟨"TopYard$Sheet", "begin", "(II)V"⟩
abbrev b_X_sheet : ByteArray := prog_1_method_41_code
def y_X_sheet : MethodName := ⟨"TopYard", "sheet", "(III)I"⟩
abbrev b_X_lose : ByteArray := prog_1_method_42_code
def y_X_lose : MethodName := ⟨"TopYard", "lose", "(I)I"⟩
abbrev b_Sh_findingAt : ByteArray := prog_9_method_4_code
def y_Sh_findingAt : MethodName := ⟨"TopYard$Sheet", "findingAt", "(II)I"⟩
abbrev b_Sh_narrowed : ByteArray := prog_9_method_8_code
def y_Sh_narrowed : MethodName := ⟨"TopYard$Sheet", "narrowed", "(I)I"⟩
abbrev b_Sh_store : ByteArray := prog_9_method_7_code
def y_Sh_store : MethodName := ⟨"TopYard$Sheet", "store", "(II)V"⟩
abbrev b_X_put : ByteArray := prog_1_method_43_code
def y_X_put : MethodName := ⟨"TopYard", "put", "(IIII)I"⟩
abbrev b_X_get : ByteArray := prog_1_method_44_code
def y_X_get : MethodName := ⟨"TopYard", "get", "(III)I"⟩
abbrev b_Sh_spans : ByteArray := prog_9_method_5_code
def y_Sh_spans : MethodName := ⟨"TopYard$Sheet", "spans", "(II)Z"⟩
abbrev b_X_copy : ByteArray := prog_1_method_45_code
def y_X_copy : MethodName := ⟨"TopYard", "copy", "(IIIII)I"⟩
abbrev b_X_write : ByteArray := prog_1_method_46_code
def y_X_write : MethodName := ⟨"TopYard", "write", "(II)I"⟩
abbrev b_X_count : ByteArray := prog_1_method_47_code
def y_X_count : MethodName := ⟨"TopYard", "count", "(I)I"⟩
abbrev b_X_digest : ByteArray := prog_1_method_48_code
def y_X_digest : MethodName := ⟨"TopYard", "digest", "()J"⟩
abbrev b_M_in : ByteArray := prog_13_method_3_code
def y_M_in : MethodName := ⟨"TopYardModel", "in", "(JJJ)Z"⟩
abbrev b_M_c : ByteArray := prog_13_method_4_code
def y_M_c : MethodName := ⟨"TopYardModel", "c", "(I)I"⟩
abbrev b_M_s : ByteArray := prog_13_method_5_code
def y_M_s : MethodName := ⟨"TopYardModel", "s", "(I)I"⟩
abbrev b_M_turn : ByteArray := prog_13_method_6_code
def y_M_turn : MethodName := ⟨"TopYardModel", "turn", "(II)I"⟩
abbrev b_M_isTop : ByteArray := prog_13_method_7_code
def y_M_isTop : MethodName := ⟨"TopYardModel", "isTop", "(I)Z"⟩
abbrev b_M_isOwner : ByteArray := prog_13_method_8_code
def y_M_isOwner : MethodName := ⟨"TopYardModel", "isOwner", "(I)Z"⟩
abbrev b_M_top : ByteArray := prog_13_method_9_code
def y_M_top : MethodName := ⟨"TopYardModel", "top", "(IIIII)I"⟩
abbrev b_M_about : ByteArray := prog_13_method_10_code
def y_M_about : MethodName := ⟨"TopYardModel", "about", "(II)I"⟩
abbrev b_M_wear : ByteArray := prog_13_method_11_code
def y_M_wear : MethodName := ⟨"TopYardModel", "wear", "(II)I"⟩
abbrev b_M_give : ByteArray := prog_13_method_12_code
def y_M_give : MethodName := ⟨"TopYardModel", "give", "(II)I"⟩
abbrev b_M_bowl : ByteArray := prog_13_method_13_code
def y_M_bowl : MethodName := ⟨"TopYardModel", "bowl", "(II)I"⟩
abbrev b_M_dent : ByteArray := prog_13_method_14_code
def y_M_dent : MethodName := ⟨"TopYardModel", "dent", "(III)I"⟩
abbrev b_M_smooth : ByteArray := prog_13_method_15_code
def y_M_smooth : MethodName := ⟨"TopYardModel", "smooth", "()I"⟩
abbrev b_M_heightOf : ByteArray := prog_13_method_16_code
def y_M_heightOf : MethodName := ⟨"TopYardModel", "heightOf", "(II)I"⟩
abbrev b_M_slopeX : ByteArray := prog_13_method_17_code
def y_M_slopeX : MethodName := ⟨"TopYardModel", "slopeX", "(II)I"⟩
abbrev b_M_slopeY : ByteArray := prog_13_method_18_code
def y_M_slopeY : MethodName := ⟨"TopYardModel", "slopeY", "(II)I"⟩
abbrev b_M_height : ByteArray := prog_13_method_19_code
def y_M_height : MethodName := ⟨"TopYardModel", "height", "(III)I"⟩
abbrev b_M_string : ByteArray := prog_13_method_20_code
def y_M_string : MethodName := ⟨"TopYardModel", "string", "(II)I"⟩
abbrev b_M_enter : ByteArray := prog_13_method_21_code
def y_M_enter : MethodName := ⟨"TopYardModel", "enter", "(IIIII)I"⟩
abbrev b_M_clear : ByteArray := prog_13_method_22_code
def y_M_clear : MethodName := ⟨"TopYardModel", "clear", "()I"⟩
abbrev b_M_whip : ByteArray := prog_13_method_23_code
def y_M_whip : MethodName := ⟨"TopYardModel", "whip", "(III)I"⟩
abbrev b_M_begins : ByteArray := prog_13_method_24_code
def y_M_begins : MethodName := ⟨"TopYardModel", "begins", "(IIIIII)V"⟩
abbrev b_M_standing : ByteArray := prog_13_method_25_code
def y_M_standing : MethodName := ⟨"TopYardModel", "standing", "()I"⟩
abbrev b_M_floor65 : ByteArray := prog_13_method_26_code
def y_M_floor65 : MethodName := ⟨"TopYardModel", "floor65", "(J)I"⟩
abbrev b_M_moves : ByteArray := prog_13_method_27_code
def y_M_moves : MethodName := ⟨"TopYardModel", "moves", "()V"⟩
abbrev b_M_knock : ByteArray := prog_13_method_28_code
def y_M_knock : MethodName := ⟨"TopYardModel", "knock", "(II)V"⟩
abbrev b_M_ticks : ByteArray := prog_13_method_29_code
def y_M_ticks : MethodName := ⟨"TopYardModel", "ticks", "(IIZ)V"⟩
abbrev b_M_runsTo : ByteArray := prog_13_method_30_code
def y_M_runsTo : MethodName := ⟨"TopYardModel", "runsTo", "(IIZ)I"⟩
abbrev b_M_runsBout : ByteArray := prog_13_method_31_code
def y_M_runsBout : MethodName := ⟨"TopYardModel", "runsBout", "(I)I"⟩
abbrev b_M_alone : ByteArray := prog_13_method_32_code
def y_M_alone : MethodName := ⟨"TopYardModel", "alone", "()I"⟩
abbrev b_M_run : ByteArray := prog_13_method_33_code
def y_M_run : MethodName := ⟨"TopYardModel", "run", "()I"⟩
abbrev b_M_winner : ByteArray := prog_13_method_34_code
def y_M_winner : MethodName := ⟨"TopYardModel", "winner", "()I"⟩
abbrev b_M_knocks : ByteArray := prog_13_method_35_code
def y_M_knocks : MethodName := ⟨"TopYardModel", "knocks", "(I)I"⟩
abbrev b_M_stateOf : ByteArray := prog_13_method_36_code
def y_M_stateOf : MethodName := ⟨"TopYardModel", "stateOf", "(II)I"⟩
abbrev b_M_state : ByteArray := prog_13_method_37_code
def y_M_state : MethodName := ⟨"TopYardModel", "state", "(III)I"⟩
abbrev b_M_comesTo : ByteArray := prog_13_method_38_code
def y_M_comesTo : MethodName := ⟨"TopYardModel", "comesTo", "(IIII)I"⟩
abbrev b_M_expectedOf : ByteArray := prog_13_method_39_code
def y_M_expectedOf : MethodName := ⟨"TopYardModel", "expectedOf", "(II)I"⟩
abbrev b_M_expected : ByteArray := prog_13_method_40_code
def y_M_expected : MethodName := ⟨"TopYardModel", "expected", "(II)I"⟩
abbrev b_M_choose : ByteArray := prog_13_method_41_code
def y_M_choose : MethodName := ⟨"TopYardModel", "choose", "()I"⟩
abbrev b_M_among : ByteArray := prog_13_method_42_code
def y_M_among : MethodName := ⟨"TopYardModel", "among", "(II)I"⟩
abbrev b_M_isPay : ByteArray := prog_13_method_43_code
def y_M_isPay : MethodName := ⟨"TopYardModel", "isPay", "(II)Z"⟩
abbrev b_M_pay : ByteArray := prog_13_method_44_code
def y_M_pay : MethodName := ⟨"TopYardModel", "pay", "(III)I"⟩
abbrev b_M_pays : ByteArray := prog_13_method_45_code
def y_M_pays : MethodName := ⟨"TopYardModel", "pays", "(II)I"⟩
abbrev b_M_fill : ByteArray := prog_13_method_46_code
def y_M_fill : MethodName := ⟨"TopYardModel", "fill", "()I"⟩
abbrev b_M_ones : ByteArray := prog_13_method_47_code
def y_M_ones : MethodName := ⟨"TopYardModel", "ones", "(I)I"⟩
abbrev b_M_det2 : ByteArray := prog_13_method_48_code
def y_M_det2 : MethodName := ⟨"TopYardModel", "det2", "(IIII)J"⟩
abbrev b_M_det3 : ByteArray := prog_13_method_49_code
def y_M_det3 : MethodName := ⟨"TopYardModel", "det3", "(IIIIII)J"⟩
abbrev b_M_without : ByteArray := prog_13_method_50_code
def y_M_without : MethodName := ⟨"TopYardModel", "without", "(II)I"⟩
abbrev b_M_minor : ByteArray := prog_13_method_51_code
def y_M_minor : MethodName := ⟨"TopYardModel", "minor", "(III)J"⟩
abbrev b_M_takesPart : ByteArray := prog_13_method_52_code
def y_M_takesPart : MethodName := ⟨"TopYardModel", "takesPart", "(II)V"⟩
abbrev b_M_isMix : ByteArray := prog_13_method_53_code
def y_M_isMix : MethodName := ⟨"TopYardModel", "isMix", "()Z"⟩
abbrev b_M_findMix : ByteArray := prog_13_method_54_code
def y_M_findMix : MethodName := ⟨"TopYardModel", "findMix", "()Z"⟩
abbrev b_M_value : ByteArray := prog_13_method_55_code
def y_M_value : MethodName := ⟨"TopYardModel", "value", "()I"⟩
abbrev b_M_mix : ByteArray := prog_13_method_56_code
def y_M_mix : MethodName := ⟨"TopYardModel", "mix", "(II)I"⟩
abbrev b_M_was : ByteArray := prog_13_method_57_code
def y_M_was : MethodName := ⟨"TopYardModel", "was", "(III)I"⟩
abbrev b_M_forget : ByteArray := prog_13_method_58_code
def y_M_forget : MethodName := ⟨"TopYardModel", "forget", "()I"⟩
abbrev b_M_isSheet : ByteArray := prog_13_method_84_code
def y_M_isSheet : MethodName := ⟨"TopYardModel", "isSheet", "(I)Z"⟩
abbrev b_M_met2 : ByteArray := prog_13_method_83_code
def y_M_met2 : MethodName := ⟨"TopYardModel", "met", "(I)I"⟩
abbrev b_M_read : ByteArray := prog_13_method_59_code
def y_M_read : MethodName := ⟨"TopYardModel", "read", "(I)I"⟩
abbrev b_M_isOf : ByteArray := prog_13_method_60_code
def y_M_isOf : MethodName := ⟨"TopYardModel", "isOf", "(II)Z"⟩
abbrev b_M_findWorn : ByteArray := prog_13_method_61_code
def y_M_findWorn : MethodName := ⟨"TopYardModel", "findWorn", "(I)V"⟩
abbrev b_M_doubt : ByteArray := prog_13_method_62_code
def y_M_doubt : MethodName := ⟨"TopYardModel", "doubt", "()I"⟩
abbrev b_M_worn : ByteArray := prog_13_method_63_code
def y_M_worn : MethodName := ⟨"TopYardModel", "worn", "(II)I"⟩
abbrev b_M_most : ByteArray := prog_13_method_64_code
def y_M_most : MethodName := ⟨"TopYardModel", "most", "()I"⟩
abbrev b_M_explained : ByteArray := prog_13_method_65_code
def y_M_explained : MethodName := ⟨"TopYardModel", "explained", "(II)I"⟩
abbrev b_M_type : ByteArray := prog_13_method_66_code
def y_M_type : MethodName := ⟨"TopYardModel", "type", "(I)I"⟩
abbrev b_M_wipe : ByteArray := prog_13_method_67_code
def y_M_wipe : MethodName := ⟨"TopYardModel", "wipe", "()I"⟩
abbrev b_M_ruleOf : ByteArray := prog_13_method_68_code
def y_M_ruleOf : MethodName := ⟨"TopYardModel", "ruleOf", "(I)I"⟩
abbrev b_M_isRule : ByteArray := prog_13_method_69_code
def y_M_isRule : MethodName := ⟨"TopYardModel", "isRule", "(II)Z"⟩
abbrev b_M_isFigure : ByteArray := prog_13_method_70_code
def y_M_isFigure : MethodName := ⟨"TopYardModel", "isFigure", "(I)Z"⟩
abbrev b_M_reads : ByteArray := prog_13_method_71_code
def y_M_reads : MethodName := ⟨"TopYardModel", "reads", "()V"⟩
abbrev b_M_fault : ByteArray := prog_13_method_72_code
def y_M_fault : MethodName := ⟨"TopYardModel", "fault", "()I"⟩
abbrev b_M_topsOf : ByteArray := prog_13_method_73_code
def y_M_topsOf : MethodName := ⟨"TopYardModel", "topsOf", "(I)I"⟩
abbrev b_M_topOf : ByteArray := prog_13_method_74_code
def y_M_topOf : MethodName := ⟨"TopYardModel", "topOf", "(II)I"⟩
abbrev b_M_play : ByteArray := prog_13_method_75_code
def y_M_play : MethodName := ⟨"TopYardModel", "play", "(II)I"⟩
abbrev b_M_played : ByteArray := prog_13_method_76_code
def y_M_played : MethodName := ⟨"TopYardModel", "played", "(I)I"⟩
abbrev b_M_met1 : ByteArray := prog_13_method_77_code
def y_M_met1 : MethodName := ⟨"TopYardModel", "met", "(II)I"⟩
abbrev b_M_first : ByteArray := prog_13_method_78_code
def y_M_first : MethodName := ⟨"TopYardModel", "first", "(I)I"⟩
abbrev b_M_costs : ByteArray := prog_13_method_79_code
def y_M_costs : MethodName := ⟨"TopYardModel", "costs", "(II)I"⟩
abbrev b_M_findPairs : ByteArray := prog_13_method_80_code
def y_M_findPairs : MethodName := ⟨"TopYardModel", "findPairs", "()V"⟩
abbrev b_M_pairing : ByteArray := prog_13_method_81_code
def y_M_pairing : MethodName := ⟨"TopYardModel", "pairing", "(II)I"⟩
abbrev b_M_bag : ByteArray := prog_13_method_82_code
def y_M_bag : MethodName := ⟨"TopYardModel", "bag", "(III)I"⟩
abbrev b_M_sheet : ByteArray := prog_13_method_85_code
def y_M_sheet : MethodName := ⟨"TopYardModel", "sheet", "(III)I"⟩
abbrev b_M_lose : ByteArray := prog_13_method_86_code
def y_M_lose : MethodName := ⟨"TopYardModel", "lose", "(I)I"⟩
abbrev b_M_lacks : ByteArray := prog_13_method_87_code
def y_M_lacks : MethodName := ⟨"TopYardModel", "lacks", "(III)I"⟩
abbrev b_M_cut : ByteArray := prog_13_method_88_code
def y_M_cut : MethodName := ⟨"TopYardModel", "cut", "(II)I"⟩
abbrev b_M_put : ByteArray := prog_13_method_89_code
def y_M_put : MethodName := ⟨"TopYardModel", "put", "(IIII)I"⟩
abbrev b_M_get : ByteArray := prog_13_method_90_code
def y_M_get : MethodName := ⟨"TopYardModel", "get", "(III)I"⟩
abbrev b_M_copy : ByteArray := prog_13_method_91_code
def y_M_copy : MethodName := ⟨"TopYardModel", "copy", "(IIIII)I"⟩
abbrev b_M_write : ByteArray := prog_13_method_92_code
def y_M_write : MethodName := ⟨"TopYardModel", "write", "(II)I"⟩
abbrev b_M_count : ByteArray := prog_13_method_93_code
def y_M_count : MethodName := ⟨"TopYardModel", "count", "(I)I"⟩
abbrev b_M_digest : ByteArray := prog_13_method_94_code
def y_M_digest : MethodName := ⟨"TopYardModel", "digest", "()J"⟩
abbrev b_X_init : ByteArray := prog_1_method_1_code
def y_X_init : MethodName := ⟨"TopYard", "<init>", "()V"⟩
abbrev b_Bt_init : ByteArray := prog_2_method_1_code
def y_Bt_init : MethodName := ⟨"TopYard$Bout", "<init>", "()V"⟩
abbrev b_Bw_init : ByteArray := prog_3_method_1_code
def y_Bw_init : MethodName := ⟨"TopYard$Bowl", "<init>", "()V"⟩
abbrev b_Ch_init : ByteArray := prog_4_method_1_code
def y_Ch_init : MethodName := ⟨"TopYard$Choice", "<init>", "()V"⟩
abbrev b_Ga_init : ByteArray := prog_5_method_1_code
def y_Ga_init : MethodName := ⟨"TopYard$Game", "<init>", "()V"⟩
abbrev b_Pk_init : ByteArray := prog_7_method_1_code
def y_Pk_init : MethodName := ⟨"TopYard$Pack", "<init>", "()V"⟩
abbrev b_Pa_init : ByteArray := prog_8_method_1_code
def y_Pa_init : MethodName := ⟨"TopYard$Past", "<init>", "()V"⟩
abbrev b_Sh_init : ByteArray := prog_9_method_1_code
def y_Sh_init : MethodName := ⟨"TopYard$Sheet", "<init>", "()V"⟩
abbrev b_Sp_init : ByteArray := prog_10_method_1_code
def y_Sp_init : MethodName := ⟨"TopYard$Spinner", "<init>", "()V"⟩
abbrev b_To_init : ByteArray := prog_11_method_1_code
def y_To_init : MethodName := ⟨"TopYard$Top", "<init>", "(IIIII)V"⟩
abbrev b_M_init : ByteArray := prog_13_method_1_code
def y_M_init : MethodName := ⟨"TopYardModel", "<init>", "()V"⟩
theorem wd_0 : (Jvm.Cond.fieldLink "TopYard$Headings" (9 : Nat) "TopYard$Headings" "QUARTER" "[I") ∈ TT := mt2 (i := 109) rfl rfl
theorem wd_1 : (Jvm.Cond.fieldLink "TopYard" (15 : Nat) "TopYard" "topCount" "I") ∈ TT := mt2 (i := 57) rfl rfl
theorem wd_2 : (Jvm.Cond.fieldLink "TopYard" (11 : Nat) "TopYard" "tops" "[LTopYard$Top;") ∈ TT := mt2 (i := 56) rfl rfl
theorem wd_3 : (Jvm.Cond.fieldLink "TopYard" (114 : Nat) "TopYard$Top" "weight" "I") ∈ TT := mt2 (i := 129) rfl rfl
theorem wd_4 : (Jvm.Cond.fieldLink "TopYard" (117 : Nat) "TopYard$Top" "rim" "I") ∈ TT := mt2 (i := 132) rfl rfl
theorem wd_5 : (Jvm.Cond.fieldLink "TopYard" (120 : Nat) "TopYard$Top" "peg" "I") ∈ TT := mt2 (i := 135) rfl rfl
theorem wd_6 : (Jvm.Cond.fieldLink "TopYard" (123 : Nat) "TopYard$Top" "sense" "I") ∈ TT := mt2 (i := 138) rfl rfl
theorem wd_7 : (Jvm.Cond.fieldLink "TopYard" (126 : Nat) "TopYard$Top" "owner" "I") ∈ TT := mt2 (i := 141) rfl rfl
theorem wd_8 : (Jvm.Cond.fieldLink "TopYard" (129 : Nat) "TopYard$Top" "wear" "I") ∈ TT := mt2 (i := 144) rfl rfl
theorem wd_9 : (Jvm.Cond.fieldLink "TopYard" (22 : Nat) "TopYard" "bowl" "LTopYard$Bowl;") ∈ TT := mt2 (i := 58) rfl rfl
theorem wd_10 : (Jvm.Cond.fieldLink "TopYard" (132 : Nat) "TopYard$Bowl" "radius" "I") ∈ TT := mt1 (i := 34) rfl rfl
theorem wd_11 : (Jvm.Cond.fieldLink "TopYard" (135 : Nat) "TopYard$Bowl" "ring" "I") ∈ TT := mt1 (i := 37) rfl rfl
theorem wd_12 : (Jvm.Cond.fieldLink "TopYard$Bowl" (16 : Nat) "TopYard$Bowl" "dents" "I") ∈ TT := mt1 (i := 38) rfl rfl
theorem wd_13 : (Jvm.Cond.fieldLink "TopYard$Bowl" (19 : Nat) "TopYard$Bowl" "raised" "[I") ∈ TT := mt1 (i := 40) rfl rfl
theorem wd_14 : (Jvm.Cond.fieldLink "TopYard" (145 : Nat) "TopYard$Bowl" "dents" "I") ∈ TT := mt1 (i := 39) rfl rfl
theorem wd_15 : (Jvm.Cond.constant "TopYard" (151 : Nat) (-2147483648 : Int32)) ∈ TT := mt2 (i := 203) rfl rfl
theorem wd_16 : (Jvm.Cond.fieldLink "TopYard" (26 : Nat) "TopYard" "strengths" "[I") ∈ TT := mt2 (i := 59) rfl rfl
theorem wd_17 : (Jvm.Cond.fieldLink "TopYard$Bout" (17 : Nat) "TopYard$Bout" "size" "I") ∈ TT := mt1 (i := 130) rfl rfl
theorem wd_18 : (Jvm.Cond.fieldLink "TopYard$Bout" (13 : Nat) "TopYard$Bout" "spinners" "[LTopYard$Spinner;") ∈ TT := mt1 (i := 129) rfl rfl
theorem wd_19 : (Jvm.Cond.fieldLink "TopYard$Bout" (45 : Nat) "TopYard$Spinner" "number" "I") ∈ TT := mt1 (i := 67) rfl rfl
theorem wd_20 : (Jvm.Cond.fieldLink "TopYard$Bout" (48 : Nat) "TopYard$Spinner" "top" "LTopYard$Top;") ∈ TT := mt1 (i := 65) rfl rfl
theorem wd_21 : (Jvm.Cond.fieldLink "TopYard$Spinner" (22 : Nat) "TopYard$Spinner" "cellX" "I") ∈ TT := mt1 (i := 68) rfl rfl
theorem wd_22 : (Jvm.Cond.fieldLink "TopYard$Spinner" (25 : Nat) "TopYard$Spinner" "cellY" "I") ∈ TT := mt1 (i := 69) rfl rfl
theorem wd_23 : (Jvm.Cond.fieldLink "TopYard$Spinner" (28 : Nat) "TopYard$Spinner" "firstHeading" "I") ∈ TT := mt1 (i := 70) rfl rfl
theorem wd_24 : (Jvm.Cond.fieldLink "TopYard$Spinner" (31 : Nat) "TopYard$Spinner" "turns" "I") ∈ TT := mt1 (i := 71) rfl rfl
theorem wd_25 : (Jvm.Cond.fieldLink "TopYard" (33 : Nat) "TopYard" "bout" "LTopYard$Bout;") ∈ TT := mt2 (i := 60) rfl rfl
theorem wd_26 : (Jvm.Cond.fieldLink "TopYard" (175 : Nat) "TopYard$Bout" "size" "I") ∈ TT := mt1 (i := 131) rfl rfl
theorem wd_27 : (Jvm.Cond.fieldLink "TopYard$Bout" (31 : Nat) "TopYard$Bout" "whips" "I") ∈ TT := mt1 (i := 135) rfl rfl
theorem wd_28 : (Jvm.Cond.fieldLink "TopYard$Bout" (21 : Nat) "TopYard$Bout" "whipPlaces" "[I") ∈ TT := mt1 (i := 132) rfl rfl
theorem wd_29 : (Jvm.Cond.fieldLink "TopYard$Bout" (25 : Nat) "TopYard$Bout" "whipTicks" "[I") ∈ TT := mt1 (i := 133) rfl rfl
theorem wd_30 : (Jvm.Cond.fieldLink "TopYard$Bout" (28 : Nat) "TopYard$Bout" "whipSpins" "[I") ∈ TT := mt1 (i := 134) rfl rfl
theorem wd_31 : (Jvm.Cond.fieldLink "TopYard" (184 : Nat) "TopYard$Bout" "whips" "I") ∈ TT := mt1 (i := 136) rfl rfl
theorem wd_32 : (Jvm.Cond.fieldLink "TopYard$Spinner" (9 : Nat) "TopYard$Spinner" "top" "LTopYard$Top;") ∈ TT := mt1 (i := 64) rfl rfl
theorem wd_33 : (Jvm.Cond.fieldLink "TopYard$Spinner" (97 : Nat) "TopYard$Top" "owner" "I") ∈ TT := mt2 (i := 140) rfl rfl
theorem wd_34 : (Jvm.Cond.fieldLink "TopYard$Spinner" (34 : Nat) "TopYard$Spinner" "fate" "I") ∈ TT := mt1 (i := 91) rfl rfl
theorem wd_35 : (Jvm.Cond.fieldLink "TopYard$Spinner" (37 : Nat) "TopYard$Top" "weight" "I") ∈ TT := mt2 (i := 128) rfl rfl
theorem wd_36 : (Jvm.Cond.fieldLink "TopYard$Spinner" (19 : Nat) "TopYard$Spinner" "weight" "I") ∈ TT := mt1 (i := 72) rfl rfl
theorem wd_37 : (Jvm.Cond.fieldLink "TopYard$Spinner" (46 : Nat) "TopYard$Top" "rim" "I") ∈ TT := mt2 (i := 131) rfl rfl
theorem wd_38 : (Jvm.Cond.fieldLink "TopYard$Spinner" (49 : Nat) "TopYard$Spinner" "rim" "I") ∈ TT := mt1 (i := 74) rfl rfl
theorem wd_39 : (Jvm.Cond.fieldLink "TopYard$Spinner" (50 : Nat) "TopYard$Top" "sense" "I") ∈ TT := mt2 (i := 137) rfl rfl
theorem wd_40 : (Jvm.Cond.fieldLink "TopYard$Spinner" (53 : Nat) "TopYard$Spinner" "sense" "I") ∈ TT := mt1 (i := 76) rfl rfl
theorem wd_41 : (Jvm.Cond.fieldLink "TopYard$Spinner" (54 : Nat) "TopYard$Top" "peg" "I") ∈ TT := mt2 (i := 134) rfl rfl
theorem wd_42 : (Jvm.Cond.fieldLink "TopYard$Spinner" (57 : Nat) "TopYard$Top" "wear" "I") ∈ TT := mt2 (i := 143) rfl rfl
theorem wd_43 : (Jvm.Cond.fieldLink "TopYard$Spinner" (60 : Nat) "TopYard$Spinner" "drag" "I") ∈ TT := mt1 (i := 78) rfl rfl
theorem wd_44 : (Jvm.Cond.fieldLink "TopYard$Spinner" (63 : Nat) "TopYard$Spinner" "x" "J") ∈ TT := mt1 (i := 79) rfl rfl
theorem wd_45 : (Jvm.Cond.fieldLink "TopYard$Spinner" (67 : Nat) "TopYard$Spinner" "y" "J") ∈ TT := mt1 (i := 81) rfl rfl
theorem wd_46 : (Jvm.Cond.fieldLink "TopYard$Spinner" (70 : Nat) "TopYard$Spinner" "heading" "I") ∈ TT := mt1 (i := 87) rfl rfl
theorem wd_47 : (Jvm.Cond.fieldLink "TopYard$Spinner" (79 : Nat) "TopYard$Spinner" "p" "J") ∈ TT := mt1 (i := 83) rfl rfl
theorem wd_48 : (Jvm.Cond.fieldLink "TopYard$Spinner" (85 : Nat) "TopYard$Spinner" "q" "J") ∈ TT := mt1 (i := 85) rfl rfl
theorem wd_49 : (Jvm.Cond.fieldLink "TopYard$Spinner" (91 : Nat) "TopYard$Spinner" "spin" "I") ∈ TT := mt1 (i := 88) rfl rfl
theorem wd_50 : (Jvm.Cond.fieldLink "TopYard$Spinner" (94 : Nat) "TopYard$Spinner" "lean" "I") ∈ TT := mt1 (i := 90) rfl rfl
theorem wd_51 : (Jvm.Cond.fieldLink "TopYard$Bout" (34 : Nat) "TopYard$Bout" "knockCount" "I") ∈ TT := mt1 (i := 137) rfl rfl
theorem wd_52 : (Jvm.Cond.fieldLink "TopYard$Bout" (37 : Nat) "TopYard$Bout" "lockCount" "I") ∈ TT := mt1 (i := 139) rfl rfl
theorem wd_53 : (Jvm.Cond.fieldLink "TopYard$Bout" (109 : Nat) "TopYard$Spinner" "spin" "I") ∈ TT := mt1 (i := 89) rfl rfl
theorem wd_54 : (Jvm.Cond.constantLong "TopYard$Spinner" (100 : Nat) (65 : Int64)) ∈ TT := mt3 (i := 73) rfl rfl
theorem wd_55 : (Jvm.Cond.constantLong "TopYard$Spinner" (106 : Nat) (2 : Int64)) ∈ TT := mt3 (i := 77) rfl rfl
theorem wd_56 : (Jvm.Cond.constantLong "TopYard$Spinner" (119 : Nat) (16 : Int64)) ∈ TT := mt3 (i := 87) rfl rfl
theorem wd_57 : (Jvm.Cond.fieldLink "TopYard$Bout" (126 : Nat) "TopYard$Spinner" "p" "J") ∈ TT := mt1 (i := 84) rfl rfl
theorem wd_58 : (Jvm.Cond.fieldLink "TopYard$Bout" (132 : Nat) "TopYard$Spinner" "q" "J") ∈ TT := mt1 (i := 86) rfl rfl
theorem wd_59 : (Jvm.Cond.fieldLink "TopYard$Bout" (129 : Nat) "TopYard$Spinner" "weight" "I") ∈ TT := mt1 (i := 73) rfl rfl
theorem wd_60 : (Jvm.Cond.fieldLink "TopYard$Bout" (147 : Nat) "TopYard$Spinner" "sense" "I") ∈ TT := mt1 (i := 77) rfl rfl
theorem wd_61 : (Jvm.Cond.fieldLink "TopYard$Bout" (112 : Nat) "TopYard$Spinner" "x" "J") ∈ TT := mt1 (i := 80) rfl rfl
theorem wd_62 : (Jvm.Cond.fieldLink "TopYard$Bout" (116 : Nat) "TopYard$Spinner" "y" "J") ∈ TT := mt1 (i := 82) rfl rfl
theorem wd_63 : (Jvm.Cond.constantLong "TopYard$Bout" (119 : Nat) (65 : Int64)) ∈ TT := mt3 (i := 100) rfl rfl
theorem wd_64 : (Jvm.Cond.constantLong "TopYard$Bout" (121 : Nat) (13 : Int64)) ∈ TT := mt3 (i := 101) rfl rfl
theorem wd_65 : (Jvm.Cond.fieldLink "TopYard$Bout" (123 : Nat) "TopYard$Spinner" "rim" "I") ∈ TT := mt1 (i := 75) rfl rfl
theorem wd_66 : (Jvm.Cond.constantLong "TopYard$Bout" (138 : Nat) (2 : Int64)) ∈ TT := mt3 (i := 105) rfl rfl
theorem wd_67 : (Jvm.Cond.fieldLink "TopYard$Bout" (94 : Nat) "TopYard$Bowl" "radius" "I") ∈ TT := mt1 (i := 35) rfl rfl
theorem wd_68 : (Jvm.Cond.fieldLink "TopYard" (197 : Nat) "TopYard$Bout" "lockCount" "I") ∈ TT := mt1 (i := 140) rfl rfl
theorem wd_69 : (Jvm.Cond.fieldLink "TopYard" (194 : Nat) "TopYard$Bout" "knockCount" "I") ∈ TT := mt1 (i := 138) rfl rfl
theorem wd_70 : (Jvm.Cond.fieldLink "TopYard$Choice" (11 : Nat) "TopYard$Choice" "rowCount" "I") ∈ TT := mt1 (i := 166) rfl rfl
theorem wd_71 : (Jvm.Cond.fieldLink "TopYard$Choice" (15 : Nat) "TopYard$Choice" "columnCount" "I") ∈ TT := mt1 (i := 168) rfl rfl
theorem wd_72 : (Jvm.Cond.fieldLink "TopYard$Choice" (27 : Nat) "TopYard$Choice" "pay" "[[I") ∈ TT := mt1 (i := 174) rfl rfl
theorem wd_73 : (Jvm.Cond.fieldLink "TopYard" (43 : Nat) "TopYard" "choice" "LTopYard$Choice;") ∈ TT := mt2 (i := 62) rfl rfl
theorem wd_74 : (Jvm.Cond.fieldLink "TopYard" (207 : Nat) "TopYard$Choice" "rowCount" "I") ∈ TT := mt1 (i := 167) rfl rfl
theorem wd_75 : (Jvm.Cond.fieldLink "TopYard" (210 : Nat) "TopYard$Choice" "columnCount" "I") ∈ TT := mt1 (i := 169) rfl rfl
theorem wd_76 : (Jvm.Cond.fieldLink "TopYard$Choice" (18 : Nat) "TopYard$Choice" "rowTops" "[I") ∈ TT := mt1 (i := 170) rfl rfl
theorem wd_77 : (Jvm.Cond.fieldLink "TopYard$Choice" (22 : Nat) "TopYard$Choice" "columnTops" "[I") ∈ TT := mt1 (i := 172) rfl rfl
theorem wd_78 : (Jvm.Cond.fieldLink "TopYard" (225 : Nat) "TopYard$Choice" "pay" "[[I") ∈ TT := mt1 (i := 175) rfl rfl
theorem wd_79 : (Jvm.Cond.fieldLink "TopYard" (37 : Nat) "TopYard" "pair" "LTopYard$Bout;") ∈ TT := mt2 (i := 61) rfl rfl
theorem wd_80 : (Jvm.Cond.fieldLink "TopYard" (233 : Nat) "TopYard$Choice" "rowTops" "[I") ∈ TT := mt1 (i := 171) rfl rfl
theorem wd_81 : (Jvm.Cond.fieldLink "TopYard" (236 : Nat) "TopYard$Choice" "columnTops" "[I") ∈ TT := mt1 (i := 173) rfl rfl
theorem wd_82 : (Jvm.Cond.constant "java/lang/Integer" (265 : Nat) (1431655765 : Int32)) ∈ TT := mt3 (i := 210) rfl rfl
theorem wd_83 : (Jvm.Cond.constant "java/lang/Integer" (266 : Nat) (858993459 : Int32)) ∈ TT := mt3 (i := 211) rfl rfl
theorem wd_84 : (Jvm.Cond.constant "java/lang/Integer" (267 : Nat) (252645135 : Int32)) ∈ TT := mt3 (i := 212) rfl rfl
theorem wd_85 : (Jvm.Cond.constant "java/lang/Integer" (264 : Nat) (65536 : Int32)) ∈ TT := mt3 (i := 220) rfl rfl
theorem wd_86 : (Jvm.Cond.fieldLink "TopYard$Choice" (37 : Nat) "TopYard$Choice" "determinants" "[J") ∈ TT := mt1 (i := 180) rfl rfl
theorem wd_87 : (Jvm.Cond.fieldLink "TopYard$Choice" (40 : Nat) "TopYard$Choice" "total" "J") ∈ TT := mt1 (i := 181) rfl rfl
theorem wd_88 : (Jvm.Cond.fieldLink "TopYard$Choice" (44 : Nat) "TopYard$Choice" "determinant" "J") ∈ TT := mt1 (i := 182) rfl rfl
theorem wd_89 : (Jvm.Cond.fieldLink "TopYard$Choice" (30 : Nat) "TopYard$Choice" "rowShares" "[J") ∈ TT := mt1 (i := 176) rfl rfl
theorem wd_90 : (Jvm.Cond.fieldLink "TopYard$Choice" (34 : Nat) "TopYard$Choice" "columnShares" "[J") ∈ TT := mt1 (i := 178) rfl rfl
theorem wd_91 : (Jvm.Cond.constantLong "TopYard$Choice" (59 : Nat) (1000000 : Int64)) ∈ TT := mt4 (i := 22) rfl rfl
theorem wd_92 : (Jvm.Cond.constantLong "TopYard$Choice" (53 : Nat) (20 : Int64)) ∈ TT := mt4 (i := 17) rfl rfl
theorem wd_93 : (Jvm.Cond.fieldLink "TopYard" (253 : Nat) "TopYard$Choice" "columnShares" "[J") ∈ TT := mt1 (i := 179) rfl rfl
theorem wd_94 : (Jvm.Cond.fieldLink "TopYard" (249 : Nat) "TopYard$Choice" "rowShares" "[J") ∈ TT := mt1 (i := 177) rfl rfl
theorem wd_95 : (Jvm.Cond.fieldLink "TopYard$Past" (9 : Nat) "TopYard$Past" "size" "I") ∈ TT := mt1 (i := 211) rfl rfl
theorem wd_96 : (Jvm.Cond.fieldLink "TopYard$Past" (15 : Nat) "TopYard$Past" "firsts" "[I") ∈ TT := mt1 (i := 213) rfl rfl
theorem wd_97 : (Jvm.Cond.fieldLink "TopYard$Past" (19 : Nat) "TopYard$Past" "seconds" "[I") ∈ TT := mt1 (i := 215) rfl rfl
theorem wd_98 : (Jvm.Cond.fieldLink "TopYard$Past" (22 : Nat) "TopYard$Past" "outcomes" "[I") ∈ TT := mt1 (i := 217) rfl rfl
theorem wd_99 : (Jvm.Cond.fieldLink "TopYard" (50 : Nat) "TopYard" "past" "LTopYard$Past;") ∈ TT := mt2 (i := 63) rfl rfl
theorem wd_100 : (Jvm.Cond.fieldLink "TopYard" (266 : Nat) "TopYard$Past" "size" "I") ∈ TT := mt1 (i := 212) rfl rfl
theorem wd_101 : (Jvm.Cond.fieldLink "TopYard" (76 : Nat) "TopYard" "sheets" "[LTopYard$Sheet;") ∈ TT := mt2 (i := 68) rfl rfl
theorem wd_102 : (Jvm.Cond.fieldLink "TopYard" (80 : Nat) "TopYard" "latestFinding" "I") ∈ TT := mt2 (i := 69) rfl rfl
theorem wd_103 : (Jvm.Cond.fieldLink "TopYard$Sheet" (19 : Nat) "TopYard$Sheet" "length" "I") ∈ TT := mt2 (i := 43) rfl rfl
theorem wd_104 : (Jvm.Cond.fieldLink "TopYard$Sheet" (22 : Nat) "TopYard$Sheet" "items" "[I") ∈ TT := mt2 (i := 45) rfl rfl
theorem wd_105 : (Jvm.Cond.fieldLink "TopYard" (271 : Nat) "TopYard$Sheet" "lost" "Z") ∈ TT := mt2 (i := 40) rfl rfl
theorem wd_106 : (Jvm.Cond.fieldLink "TopYard" (278 : Nat) "TopYard$Sheet" "length" "I") ∈ TT := mt2 (i := 44) rfl rfl
theorem wd_107 : (Jvm.Cond.fieldLink "TopYard" (406 : Nat) "TopYard$Past" "expectations" "[I") ∈ TT := mt1 (i := 219) rfl rfl
theorem wd_108 : (Jvm.Cond.fieldLink "TopYard" (409 : Nat) "TopYard$Past" "firsts" "[I") ∈ TT := mt1 (i := 214) rfl rfl
theorem wd_109 : (Jvm.Cond.fieldLink "TopYard" (412 : Nat) "TopYard$Past" "seconds" "[I") ∈ TT := mt1 (i := 216) rfl rfl
theorem wd_110 : (Jvm.Cond.fieldLink "TopYard$Past" (25 : Nat) "TopYard$Past" "expectations" "[I") ∈ TT := mt1 (i := 218) rfl rfl
theorem wd_111 : (Jvm.Cond.constantLong "TopYard$Past" (43 : Nat) (1000000 : Int64)) ∈ TT := mt4 (i := 100) rfl rfl
theorem wd_112 : (Jvm.Cond.constant "TopYard" (297 : Nat) (1000001 : Int32)) ∈ TT := mt4 (i := 105) rfl rfl
theorem wd_113 : (Jvm.Cond.fieldLink "TopYard$Game" (9 : Nat) "TopYard$Game" "length" "I") ∈ TT := mt1 (i := 237) rfl rfl
theorem wd_114 : (Jvm.Cond.fieldLink "TopYard$Game" (15 : Nat) "TopYard$Game" "bytes" "[I") ∈ TT := mt1 (i := 239) rfl rfl
theorem wd_115 : (Jvm.Cond.fieldLink "TopYard" (57 : Nat) "TopYard" "game" "LTopYard$Game;") ∈ TT := mt2 (i := 64) rfl rfl
theorem wd_116 : (Jvm.Cond.fieldLink "TopYard" (304 : Nat) "TopYard$Game" "length" "I") ∈ TT := mt1 (i := 238) rfl rfl
theorem wd_117 : (Jvm.Cond.fieldLink "TopYard$Game" (51 : Nat) "TopYard$Game" "LETTERS" "[C") ∈ TT := mt4 (i := 147) rfl rfl
theorem wd_118 : (Jvm.Cond.fieldLink "TopYard$Game" (22 : Nat) "TopYard$Game" "USUAL_NUMBERS" "[I") ∈ TT := mt4 (i := 134) rfl rfl
theorem wd_119 : (Jvm.Cond.fieldLink "TopYard$Game" (19 : Nat) "TopYard$Game" "numbers" "[I") ∈ TT := mt2 (i := 0) rfl rfl
theorem wd_120 : (Jvm.Cond.methodLink "TopYard$Game" (25 : Nat) ({ cls := "java/lang/System", name := "arraycopy", desc := "(Ljava/lang/Object;ILjava/lang/Object;II)V" } : Jvm.MethodName)) ∈ TT := mt4 (i := 136) rfl rfl
theorem wd_121 : (Jvm.Cond.fieldLink "TopYard$Game" (42 : Nat) "TopYard$Game" "LEAST_NUMBERS" "[I") ∈ TT := mt4 (i := 160) rfl rfl
theorem wd_122 : (Jvm.Cond.fieldLink "TopYard$Game" (45 : Nat) "TopYard$Game" "MOST_NUMBERS" "[I") ∈ TT := mt4 (i := 162) rfl rfl
theorem wd_123 : (Jvm.Cond.fieldLink "TopYard" (61 : Nat) "TopYard" "lastGame" "[I") ∈ TT := mt2 (i := 65) rfl rfl
theorem wd_124 : (Jvm.Cond.fieldLink "TopYard" (64 : Nat) "TopYard" "meetings" "[I") ∈ TT := mt2 (i := 66) rfl rfl
theorem wd_125 : (Jvm.Cond.constantLong "TopYard" (452 : Nat) (-1 : Int64)) ∈ TT := mt4 (i := 237) rfl rfl
theorem wd_126 : (Jvm.Cond.fieldLink "TopYard$Pack" (18 : Nat) "TopYard$Pack" "limit" "I") ∈ TT := mt2 (i := 18) rfl rfl
theorem wd_127 : (Jvm.Cond.fieldLink "TopYard$Pack" (22 : Nat) "TopYard$Pack" "offers" "I") ∈ TT := mt2 (i := 19) rfl rfl
theorem wd_128 : (Jvm.Cond.fieldLink "TopYard$Pack" (11 : Nat) "TopYard$Pack" "worths" "[I") ∈ TT := mt2 (i := 14) rfl rfl
theorem wd_129 : (Jvm.Cond.constant "TopYard$Pack" (34 : Nat) (-2147483648 : Int32)) ∈ TT := mt5 (i := 11) rfl rfl
theorem wd_130 : (Jvm.Cond.fieldLink "TopYard$Pack" (15 : Nat) "TopYard$Pack" "bits" "[I") ∈ TT := mt2 (i := 16) rfl rfl
theorem wd_131 : (Jvm.Cond.fieldLink "TopYard$Top" (16 : Nat) "TopYard$Top" "rim" "I") ∈ TT := mt2 (i := 130) rfl rfl
theorem wd_132 : (Jvm.Cond.fieldLink "TopYard$Top" (19 : Nat) "TopYard$Top" "peg" "I") ∈ TT := mt2 (i := 133) rfl rfl
theorem wd_133 : (Jvm.Cond.fieldLink "TopYard$Top" (7 : Nat) "TopYard$Top" "wear" "I") ∈ TT := mt2 (i := 142) rfl rfl
theorem wd_134 : (Jvm.Cond.fieldLink "TopYard" (70 : Nat) "TopYard" "pack" "LTopYard$Pack;") ∈ TT := mt2 (i := 67) rfl rfl
theorem wd_135 : (Jvm.Cond.fieldLink "TopYard" (337 : Nat) "TopYard$Pack" "bits" "[I") ∈ TT := mt2 (i := 17) rfl rfl
theorem wd_136 : (Jvm.Cond.fieldLink "TopYard" (340 : Nat) "TopYard$Pack" "worths" "[I") ∈ TT := mt2 (i := 15) rfl rfl
theorem wd_137 : (Jvm.Cond.fieldLink "TopYard$Sheet" (9 : Nat) "TopYard$Sheet" "lost" "Z") ∈ TT := mt2 (i := 39) rfl rfl
theorem wd_138 : (Jvm.Cond.fieldLink "TopYard$Sheet" (15 : Nat) "TopYard$Sheet" "form" "I") ∈ TT := mt2 (i := 41) rfl rfl
theorem wd_139 : (Jvm.Cond.fieldLink "TopYard" (354 : Nat) "TopYard$Sheet" "form" "I") ∈ TT := mt2 (i := 42) rfl rfl
theorem wd_140 : (Jvm.Cond.fieldLink "TopYard" (360 : Nat) "TopYard$Sheet" "items" "[I") ∈ TT := mt2 (i := 46) rfl rfl
theorem wd_141 : (Jvm.Cond.methodLink "TopYard" (363 : Nat) ({ cls := "java/lang/System", name := "arraycopy", desc := "(Ljava/lang/Object;ILjava/lang/Object;II)V" } : Jvm.MethodName)) ∈ TT := mt5 (i := 71) rfl rfl
theorem wd_142 : (Jvm.Cond.constantLong "TopYard" (374 : Nat) (17 : Int64)) ∈ TT := mt5 (i := 85) rfl rfl
theorem wd_143 : (Jvm.Cond.constantLong "TopYard" (376 : Nat) (31 : Int64)) ∈ TT := mt5 (i := 86) rfl rfl
theorem wd_144 : (Jvm.Cond.fieldLink "TopYardModel" (7 : Nat) "TopYardModel" "cs" "[I") ∈ TT := mt5 (i := 98) rfl rfl
theorem wd_145 : (Jvm.Cond.constantLong "TopYardModel" (162 : Nat) (35 : Int64)) ∈ TT := mt6 (i := 64) rfl rfl
theorem wd_146 : (Jvm.Cond.fieldLink "TopYardModel" (175 : Nat) "TopYardModel" "tops" "I") ∈ TT := mt5 (i := 99) rfl rfl
theorem wd_147 : (Jvm.Cond.constantLong "TopYardModel" (178 : Nat) (7 : Int64)) ∈ TT := mt6 (i := 86) rfl rfl
theorem wd_148 : (Jvm.Cond.constantLong "TopYardModel" (180 : Nat) (50 : Int64)) ∈ TT := mt6 (i := 80) rfl rfl
theorem wd_149 : (Jvm.Cond.constantLong "TopYardModel" (182 : Nat) (12 : Int64)) ∈ TT := mt6 (i := 81) rfl rfl
theorem wd_150 : (Jvm.Cond.constantLong "TopYardModel" (184 : Nat) (9 : Int64)) ∈ TT := mt6 (i := 82) rfl rfl
theorem wd_151 : (Jvm.Cond.fieldLink "TopYardModel" (13 : Nat) "TopYardModel" "weights" "[I") ∈ TT := mt5 (i := 100) rfl rfl
theorem wd_152 : (Jvm.Cond.fieldLink "TopYardModel" (16 : Nat) "TopYardModel" "rims" "[I") ∈ TT := mt5 (i := 101) rfl rfl
theorem wd_153 : (Jvm.Cond.fieldLink "TopYardModel" (19 : Nat) "TopYardModel" "pegs" "[I") ∈ TT := mt5 (i := 102) rfl rfl
theorem wd_154 : (Jvm.Cond.fieldLink "TopYardModel" (22 : Nat) "TopYardModel" "senses" "[I") ∈ TT := mt5 (i := 103) rfl rfl
theorem wd_155 : (Jvm.Cond.fieldLink "TopYardModel" (25 : Nat) "TopYardModel" "owners" "[I") ∈ TT := mt5 (i := 104) rfl rfl
theorem wd_156 : (Jvm.Cond.fieldLink "TopYardModel" (28 : Nat) "TopYardModel" "wears" "[I") ∈ TT := mt5 (i := 105) rfl rfl
theorem wd_157 : (Jvm.Cond.constantLong "TopYardModel" (193 : Nat) (5 : Int64)) ∈ TT := mt6 (i := 107) rfl rfl
theorem wd_158 : (Jvm.Cond.constantLong "TopYardModel" (195 : Nat) (30 : Int64)) ∈ TT := mt6 (i := 108) rfl rfl
theorem wd_159 : (Jvm.Cond.fieldLink "TopYardModel" (34 : Nat) "TopYardModel" "radius" "I") ∈ TT := mt5 (i := 107) rfl rfl
theorem wd_160 : (Jvm.Cond.fieldLink "TopYardModel" (38 : Nat) "TopYardModel" "ring" "I") ∈ TT := mt5 (i := 108) rfl rfl
theorem wd_161 : (Jvm.Cond.constantLong "TopYardModel" (197 : Nat) (-31 : Int64)) ∈ TT := mt6 (i := 113) rfl rfl
theorem wd_162 : (Jvm.Cond.constantLong "TopYardModel" (199 : Nat) (31 : Int64)) ∈ TT := mt6 (i := 114) rfl rfl
theorem wd_163 : (Jvm.Cond.constantLong "TopYardModel" (201 : Nat) (-20 : Int64)) ∈ TT := mt6 (i := 115) rfl rfl
theorem wd_164 : (Jvm.Cond.constantLong "TopYardModel" (203 : Nat) (20 : Int64)) ∈ TT := mt6 (i := 116) rfl rfl
theorem wd_165 : (Jvm.Cond.fieldLink "TopYardModel" (205 : Nat) "TopYardModel" "dents" "I") ∈ TT := mt5 (i := 109) rfl rfl
theorem wd_166 : (Jvm.Cond.fieldLink "TopYardModel" (41 : Nat) "TopYardModel" "dentX" "[I") ∈ TT := mt5 (i := 110) rfl rfl
theorem wd_167 : (Jvm.Cond.fieldLink "TopYardModel" (44 : Nat) "TopYardModel" "dentY" "[I") ∈ TT := mt5 (i := 111) rfl rfl
theorem wd_168 : (Jvm.Cond.fieldLink "TopYardModel" (47 : Nat) "TopYardModel" "dentHigh" "[I") ∈ TT := mt5 (i := 112) rfl rfl
theorem wd_169 : (Jvm.Cond.constantLong "TopYardModel" (212 : Nat) (-32 : Int64)) ∈ TT := mt6 (i := 125) rfl rfl
theorem wd_170 : (Jvm.Cond.constantLong "TopYardModel" (214 : Nat) (32 : Int64)) ∈ TT := mt6 (i := 126) rfl rfl
theorem wd_171 : (Jvm.Cond.constant "TopYardModel" (218 : Nat) (-2147483648 : Int32)) ∈ TT := mt6 (i := 128) rfl rfl
theorem wd_172 : (Jvm.Cond.constantLong "TopYardModel" (216 : Nat) (2 : Int64)) ∈ TT := mt6 (i := 127) rfl rfl
theorem wd_173 : (Jvm.Cond.constantLong "TopYardModel" (225 : Nat) (200 : Int64)) ∈ TT := mt6 (i := 145) rfl rfl
theorem wd_174 : (Jvm.Cond.fieldLink "TopYardModel" (31 : Nat) "TopYardModel" "strengths" "[I") ∈ TT := mt5 (i := 106) rfl rfl
theorem wd_175 : (Jvm.Cond.constantLong "TopYardModel" (227 : Nat) (-30 : Int64)) ∈ TT := mt6 (i := 150) rfl rfl
theorem wd_176 : (Jvm.Cond.constantLong "TopYardModel" (229 : Nat) (60 : Int64)) ∈ TT := mt6 (i := 151) rfl rfl
theorem wd_177 : (Jvm.Cond.fieldLink "TopYardModel" (231 : Nat) "TopYardModel" "puts" "I") ∈ TT := mt5 (i := 113) rfl rfl
theorem wd_178 : (Jvm.Cond.fieldLink "TopYardModel" (50 : Nat) "TopYardModel" "putTop" "[I") ∈ TT := mt5 (i := 114) rfl rfl
theorem wd_179 : (Jvm.Cond.fieldLink "TopYardModel" (53 : Nat) "TopYardModel" "putX" "[I") ∈ TT := mt5 (i := 115) rfl rfl
theorem wd_180 : (Jvm.Cond.fieldLink "TopYardModel" (56 : Nat) "TopYardModel" "putY" "[I") ∈ TT := mt5 (i := 116) rfl rfl
theorem wd_181 : (Jvm.Cond.fieldLink "TopYardModel" (59 : Nat) "TopYardModel" "putHeading" "[I") ∈ TT := mt5 (i := 117) rfl rfl
theorem wd_182 : (Jvm.Cond.fieldLink "TopYardModel" (62 : Nat) "TopYardModel" "putTurns" "[I") ∈ TT := mt5 (i := 118) rfl rfl
theorem wd_183 : (Jvm.Cond.fieldLink "TopYardModel" (234 : Nat) "TopYardModel" "whips" "I") ∈ TT := mt5 (i := 119) rfl rfl
theorem wd_184 : (Jvm.Cond.constantLong "TopYardModel" (237 : Nat) (3 : Int64)) ∈ TT := mt6 (i := 160) rfl rfl
theorem wd_185 : (Jvm.Cond.constantLong "TopYardModel" (239 : Nat) (400 : Int64)) ∈ TT := mt6 (i := 161) rfl rfl
theorem wd_186 : (Jvm.Cond.constantLong "TopYardModel" (241 : Nat) (100 : Int64)) ∈ TT := mt6 (i := 162) rfl rfl
theorem wd_187 : (Jvm.Cond.fieldLink "TopYardModel" (65 : Nat) "TopYardModel" "whipPlace" "[I") ∈ TT := mt5 (i := 120) rfl rfl
theorem wd_188 : (Jvm.Cond.fieldLink "TopYardModel" (68 : Nat) "TopYardModel" "whipTick" "[I") ∈ TT := mt5 (i := 121) rfl rfl
theorem wd_189 : (Jvm.Cond.fieldLink "TopYardModel" (71 : Nat) "TopYardModel" "whipSpin" "[I") ∈ TT := mt5 (i := 122) rfl rfl
theorem wd_190 : (Jvm.Cond.fieldLink "TopYardModel" (74 : Nat) "TopYardModel" "who" "[I") ∈ TT := mt5 (i := 124) rfl rfl
theorem wd_191 : (Jvm.Cond.fieldLink "TopYardModel" (77 : Nat) "TopYardModel" "xs" "[J") ∈ TT := mt5 (i := 125) rfl rfl
theorem wd_192 : (Jvm.Cond.constantLong "TopYardModel" (243 : Nat) (65 : Int64)) ∈ TT := mt6 (i := 175) rfl rfl
theorem wd_193 : (Jvm.Cond.fieldLink "TopYardModel" (81 : Nat) "TopYardModel" "ys" "[J") ∈ TT := mt5 (i := 126) rfl rfl
theorem wd_194 : (Jvm.Cond.fieldLink "TopYardModel" (84 : Nat) "TopYardModel" "headings" "[I") ∈ TT := mt5 (i := 127) rfl rfl
theorem wd_195 : (Jvm.Cond.fieldLink "TopYardModel" (87 : Nat) "TopYardModel" "ps" "[J") ∈ TT := mt5 (i := 128) rfl rfl
theorem wd_196 : (Jvm.Cond.fieldLink "TopYardModel" (90 : Nat) "TopYardModel" "qs" "[J") ∈ TT := mt5 (i := 129) rfl rfl
theorem wd_197 : (Jvm.Cond.fieldLink "TopYardModel" (93 : Nat) "TopYardModel" "spins" "[I") ∈ TT := mt5 (i := 130) rfl rfl
theorem wd_198 : (Jvm.Cond.fieldLink "TopYardModel" (96 : Nat) "TopYardModel" "leans" "[I") ∈ TT := mt5 (i := 131) rfl rfl
theorem wd_199 : (Jvm.Cond.fieldLink "TopYardModel" (99 : Nat) "TopYardModel" "hows" "[I") ∈ TT := mt5 (i := 132) rfl rfl
theorem wd_200 : (Jvm.Cond.fieldLink "TopYardModel" (245 : Nat) "TopYardModel" "places" "I") ∈ TT := mt5 (i := 123) rfl rfl
theorem wd_201 : (Jvm.Cond.constantLong "TopYardModel" (248 : Nat) (64 : Int64)) ∈ TT := mt6 (i := 195) rfl rfl
theorem wd_202 : (Jvm.Cond.constantLong "TopYardModel" (254 : Nat) (16 : Int64)) ∈ TT := mt6 (i := 196) rfl rfl
theorem wd_203 : (Jvm.Cond.constantLong "TopYardModel" (256 : Nat) (4225 : Int64)) ∈ TT := mt6 (i := 197) rfl rfl
theorem wd_204 : (Jvm.Cond.constantLong "TopYardModel" (258 : Nat) (13 : Int64)) ∈ TT := mt6 (i := 202) rfl rfl
theorem wd_205 : (Jvm.Cond.fieldLink "TopYardModel" (260 : Nat) "TopYardModel" "knockMany" "I") ∈ TT := mt5 (i := 133) rfl rfl
theorem wd_206 : (Jvm.Cond.fieldLink "TopYardModel" (263 : Nat) "TopYardModel" "lockMany" "I") ∈ TT := mt5 (i := 134) rfl rfl
theorem wd_207 : (Jvm.Cond.fieldLink "TopYardModel" (305 : Nat) "TopYardModel" "rowMany" "I") ∈ TT := mt5 (i := 135) rfl rfl
theorem wd_208 : (Jvm.Cond.fieldLink "TopYardModel" (308 : Nat) "TopYardModel" "columnMany" "I") ∈ TT := mt5 (i := 136) rfl rfl
theorem wd_209 : (Jvm.Cond.fieldLink "TopYardModel" (105 : Nat) "TopYardModel" "columnTop" "[I") ∈ TT := mt5 (i := 138) rfl rfl
theorem wd_210 : (Jvm.Cond.fieldLink "TopYardModel" (102 : Nat) "TopYardModel" "rowTop" "[I") ∈ TT := mt5 (i := 137) rfl rfl
theorem wd_211 : (Jvm.Cond.fieldLink "TopYardModel" (108 : Nat) "TopYardModel" "pays" "[I") ∈ TT := mt5 (i := 139) rfl rfl
theorem wd_212 : (Jvm.Cond.constantLong "TopYardModel" (315 : Nat) (-9 : Int64)) ∈ TT := mt7 (i := 11) rfl rfl
theorem wd_213 : (Jvm.Cond.fieldLink "TopYardModel" (111 : Nat) "TopYardModel" "part" "[J") ∈ TT := mt5 (i := 140) rfl rfl
theorem wd_214 : (Jvm.Cond.fieldLink "TopYardModel" (328 : Nat) "TopYardModel" "total" "J") ∈ TT := mt5 (i := 144) rfl rfl
theorem wd_215 : (Jvm.Cond.fieldLink "TopYardModel" (332 : Nat) "TopYardModel" "determinant" "J") ∈ TT := mt5 (i := 145) rfl rfl
theorem wd_216 : (Jvm.Cond.fieldLink "TopYardModel" (114 : Nat) "TopYardModel" "adjoint" "[J") ∈ TT := mt5 (i := 141) rfl rfl
theorem wd_217 : (Jvm.Cond.fieldLink "TopYardModel" (117 : Nat) "TopYardModel" "rowShare" "[J") ∈ TT := mt5 (i := 142) rfl rfl
theorem wd_218 : (Jvm.Cond.fieldLink "TopYardModel" (120 : Nat) "TopYardModel" "columnShare" "[J") ∈ TT := mt5 (i := 143) rfl rfl
theorem wd_219 : (Jvm.Cond.constantLong "TopYardModel" (352 : Nat) (1000000 : Int64)) ∈ TT := mt7 (i := 54) rfl rfl
theorem wd_220 : (Jvm.Cond.constantLong "TopYardModel" (354 : Nat) (-1 : Int64)) ∈ TT := mt7 (i := 63) rfl rfl
theorem wd_221 : (Jvm.Cond.fieldLink "TopYardModel" (356 : Nat) "TopYardModel" "wasMany" "I") ∈ TT := mt5 (i := 146) rfl rfl
theorem wd_222 : (Jvm.Cond.fieldLink "TopYardModel" (123 : Nat) "TopYardModel" "wasA" "[I") ∈ TT := mt5 (i := 147) rfl rfl
theorem wd_223 : (Jvm.Cond.fieldLink "TopYardModel" (126 : Nat) "TopYardModel" "wasB" "[I") ∈ TT := mt5 (i := 148) rfl rfl
theorem wd_224 : (Jvm.Cond.fieldLink "TopYardModel" (129 : Nat) "TopYardModel" "came" "[I") ∈ TT := mt5 (i := 149) rfl rfl
theorem wd_225 : (Jvm.Cond.fieldLink "TopYardModel" (426 : Nat) "TopYardModel" "latest" "I") ∈ TT := mt5 (i := 164) rfl rfl
theorem wd_226 : (Jvm.Cond.fieldLink "TopYardModel" (150 : Nat) "TopYardModel" "forms" "[I") ∈ TT := mt5 (i := 160) rfl rfl
theorem wd_227 : (Jvm.Cond.fieldLink "TopYardModel" (153 : Nat) "TopYardModel" "sizes" "[I") ∈ TT := mt5 (i := 161) rfl rfl
theorem wd_228 : (Jvm.Cond.fieldLink "TopYardModel" (156 : Nat) "TopYardModel" "items" "[I") ∈ TT := mt5 (i := 162) rfl rfl
theorem wd_229 : (Jvm.Cond.fieldLink "TopYardModel" (369 : Nat) "TopYardModel" "surprises" "I") ∈ TT := mt5 (i := 150) rfl rfl
theorem wd_230 : (Jvm.Cond.fieldLink "TopYardModel" (372 : Nat) "TopYardModel" "chances" "I") ∈ TT := mt5 (i := 151) rfl rfl
theorem wd_231 : (Jvm.Cond.constantLong "TopYardModel" (385 : Nat) (255 : Int64)) ∈ TT := mt7 (i := 108) rfl rfl
theorem wd_232 : (Jvm.Cond.fieldLink "TopYardModel" (387 : Nat) "TopYardModel" "typed" "I") ∈ TT := mt5 (i := 153) rfl rfl
theorem wd_233 : (Jvm.Cond.fieldLink "TopYardModel" (132 : Nat) "TopYardModel" "text" "[I") ∈ TT := mt5 (i := 152) rfl rfl
theorem wd_234 : (Jvm.Cond.constantLong "TopYardModel" (390 : Nat) (48 : Int64)) ∈ TT := mt7 (i := 128) rfl rfl
theorem wd_235 : (Jvm.Cond.constantLong "TopYardModel" (392 : Nat) (57 : Int64)) ∈ TT := mt7 (i := 129) rfl rfl
theorem wd_236 : (Jvm.Cond.fieldLink "TopYardModel" (135 : Nat) "TopYardModel" "rules" "[I") ∈ TT := mt5 (i := 155) rfl rfl
theorem wd_237 : (Jvm.Cond.fieldLink "TopYardModel" (394 : Nat) "TopYardModel" "fault" "I") ∈ TT := mt5 (i := 154) rfl rfl
theorem wd_238 : (Jvm.Cond.fieldLink "TopYardModel" (138 : Nat) "TopYardModel" "playedOf" "[I") ∈ TT := mt5 (i := 156) rfl rfl
theorem wd_239 : (Jvm.Cond.fieldLink "TopYardModel" (141 : Nat) "TopYardModel" "mets" "[I") ∈ TT := mt5 (i := 157) rfl rfl
theorem wd_240 : (Jvm.Cond.fieldLink "TopYardModel" (144 : Nat) "TopYardModel" "leastOf" "[I") ∈ TT := mt5 (i := 158) rfl rfl
theorem wd_241 : (Jvm.Cond.constantLong "TopYardModel" (424 : Nat) (500 : Int64)) ∈ TT := mt7 (i := 172) rfl rfl
theorem wd_242 : (Jvm.Cond.fieldLink "TopYardModel" (147 : Nat) "TopYardModel" "bagTop" "[I") ∈ TT := mt5 (i := 159) rfl rfl
theorem wd_243 : (Jvm.Cond.fieldLink "TopYardModel" (159 : Nat) "TopYardModel" "moved" "[I") ∈ TT := mt5 (i := 163) rfl rfl
theorem wd_244 : (Jvm.Cond.constantLong "TopYardModel" (435 : Nat) (17 : Int64)) ∈ TT := mt7 (i := 212) rfl rfl
theorem wd_245 : (Jvm.Cond.methodLink "TopYard" (1 : Nat) ({ cls := "java/lang/Object", name := "<init>", desc := "()V" } : Jvm.MethodName)) ∈ TT := mt1 (i := 22) rfl rfl
theorem wd_246 : (Jvm.Cond.classLink "TopYard" (9 : Nat) "TopYard$Top") ∈ TT := mt1 (i := 25) rfl rfl
theorem wd_247 : (Jvm.Cond.classLink "TopYard" (19 : Nat) "TopYard$Bowl") ∈ TT := mt1 (i := 27) rfl rfl
theorem wd_248 : (Jvm.Cond.instantiable "TopYard$Bowl" (4 : Nat)) ∈ TT := mt1 (i := 28) rfl rfl
theorem wd_249 : (Jvm.Cond.initialized "TopYard$Bowl") ∈ TT := mt1 (i := 2) rfl rfl
theorem wd_250 : (Jvm.Cond.methodLink "TopYard$Bowl" (1 : Nat) ({ cls := "java/lang/Object", name := "<init>", desc := "()V" } : Jvm.MethodName)) ∈ TT := mt1 (i := 32) rfl rfl
theorem wd_251 : (Jvm.Cond.fieldLink "TopYard$Bowl" (7 : Nat) "TopYard$Bowl" "radius" "I") ∈ TT := mt1 (i := 33) rfl rfl
theorem wd_252 : (Jvm.Cond.fieldLink "TopYard$Bowl" (13 : Nat) "TopYard$Bowl" "ring" "I") ∈ TT := mt1 (i := 36) rfl rfl
theorem wd_253 : (Jvm.Cond.arrayClass Jvm.ClassFile.FieldType.int) ∈ TT := mt1 (i := 50) rfl rfl
theorem wd_254 : (Jvm.Cond.methodLink "TopYard" (21 : Nat) ({ cls := "TopYard$Bowl", name := "<init>", desc := "()V" } : Jvm.MethodName)) ∈ TT := mt1 (i := 29) rfl rfl
theorem wd_255 : (Jvm.Cond.instanceMethod ({ cls := "TopYard$Bowl", name := "<init>", desc := "()V" } : Jvm.MethodName)) ∈ TT := mt1 (i := 30) rfl rfl
theorem wd_256 : (Jvm.Cond.code ({ cls := "TopYard$Bowl", name := "<init>", desc := "()V" } : Jvm.MethodName) prog_3_method_1_code (1 : Nat) (Option.none : Option Jvm.ClassFile.FieldType)) ∈ TT := mt1 (i := 31) rfl rfl
theorem wd_257 : (Jvm.Cond.classLink "TopYard" (30 : Nat) "TopYard$Bout") ∈ TT := mt1 (i := 51) rfl rfl
theorem wd_258 : (Jvm.Cond.instantiable "TopYard$Bout" (8 : Nat)) ∈ TT := mt1 (i := 52) rfl rfl
theorem wd_259 : (Jvm.Cond.initialized "TopYard$Bout") ∈ TT := mt1 (i := 3) rfl rfl
theorem wd_260 : (Jvm.Cond.methodLink "TopYard$Bout" (3 : Nat) ({ cls := "java/lang/Object", name := "<init>", desc := "()V" } : Jvm.MethodName)) ∈ TT := mt1 (i := 56) rfl rfl
theorem wd_261 : (Jvm.Cond.classLink "TopYard$Bout" (11 : Nat) "TopYard$Spinner") ∈ TT := mt1 (i := 57) rfl rfl
theorem wd_262 : (Jvm.Cond.instantiable "TopYard$Spinner" (18 : Nat)) ∈ TT := mt1 (i := 59) rfl rfl
theorem wd_263 : (Jvm.Cond.initialized "TopYard$Spinner") ∈ TT := mt1 (i := 4) rfl rfl
theorem wd_264 : (Jvm.Cond.methodLink "TopYard$Spinner" (3 : Nat) ({ cls := "java/lang/Object", name := "<init>", desc := "()V" } : Jvm.MethodName)) ∈ TT := mt1 (i := 63) rfl rfl
theorem wd_265 : (Jvm.Cond.fieldLink "TopYard$Spinner" (15 : Nat) "TopYard$Spinner" "number" "I") ∈ TT := mt1 (i := 66) rfl rfl
theorem wd_266 : (Jvm.Cond.methodLink "TopYard$Bout" (40 : Nat) ({ cls := "TopYard$Spinner", name := "<init>", desc := "()V" } : Jvm.MethodName)) ∈ TT := mt1 (i := 60) rfl rfl
theorem wd_267 : (Jvm.Cond.instanceMethod ({ cls := "TopYard$Spinner", name := "<init>", desc := "()V" } : Jvm.MethodName)) ∈ TT := mt1 (i := 61) rfl rfl
theorem wd_268 : (Jvm.Cond.code ({ cls := "TopYard$Spinner", name := "<init>", desc := "()V" } : Jvm.MethodName) prog_10_method_1_code (1 : Nat) (Option.none : Option Jvm.ClassFile.FieldType)) ∈ TT := mt1 (i := 62) rfl rfl
theorem wd_269 : (Jvm.Cond.methodLink "TopYard" (32 : Nat) ({ cls := "TopYard$Bout", name := "<init>", desc := "()V" } : Jvm.MethodName)) ∈ TT := mt1 (i := 53) rfl rfl
theorem wd_270 : (Jvm.Cond.instanceMethod ({ cls := "TopYard$Bout", name := "<init>", desc := "()V" } : Jvm.MethodName)) ∈ TT := mt1 (i := 54) rfl rfl
theorem wd_271 : (Jvm.Cond.code ({ cls := "TopYard$Bout", name := "<init>", desc := "()V" } : Jvm.MethodName) prog_2_method_1_code (2 : Nat) (Option.none : Option Jvm.ClassFile.FieldType)) ∈ TT := mt1 (i := 55) rfl rfl
theorem wd_272 : (Jvm.Cond.classLink "TopYard" (40 : Nat) "TopYard$Choice") ∈ TT := mt1 (i := 158) rfl rfl
theorem wd_273 : (Jvm.Cond.instantiable "TopYard$Choice" (10 : Nat)) ∈ TT := mt1 (i := 159) rfl rfl
theorem wd_274 : (Jvm.Cond.initialized "TopYard$Choice") ∈ TT := mt1 (i := 5) rfl rfl
theorem wd_275 : (Jvm.Cond.methodLink "TopYard$Choice" (5 : Nat) ({ cls := "java/lang/Object", name := "<init>", desc := "()V" } : Jvm.MethodName)) ∈ TT := mt1 (i := 163) rfl rfl
theorem wd_276 : (Jvm.Cond.classLink "TopYard$Choice" (25 : Nat) "[[I") ∈ TT := mt1 (i := 164) rfl rfl
theorem wd_277 : (Jvm.Cond.arrayClass Jvm.ClassFile.FieldType.long) ∈ TT := mt1 (i := 204) rfl rfl
theorem wd_278 : (Jvm.Cond.methodLink "TopYard" (42 : Nat) ({ cls := "TopYard$Choice", name := "<init>", desc := "()V" } : Jvm.MethodName)) ∈ TT := mt1 (i := 160) rfl rfl
theorem wd_279 : (Jvm.Cond.instanceMethod ({ cls := "TopYard$Choice", name := "<init>", desc := "()V" } : Jvm.MethodName)) ∈ TT := mt1 (i := 161) rfl rfl
theorem wd_280 : (Jvm.Cond.code ({ cls := "TopYard$Choice", name := "<init>", desc := "()V" } : Jvm.MethodName) prog_4_method_1_code (1 : Nat) (Option.none : Option Jvm.ClassFile.FieldType)) ∈ TT := mt1 (i := 162) rfl rfl
theorem wd_281 : (Jvm.Cond.classLink "TopYard" (47 : Nat) "TopYard$Past") ∈ TT := mt1 (i := 205) rfl rfl
theorem wd_282 : (Jvm.Cond.instantiable "TopYard$Past" (5 : Nat)) ∈ TT := mt1 (i := 206) rfl rfl
theorem wd_283 : (Jvm.Cond.initialized "TopYard$Past") ∈ TT := mt1 (i := 6) rfl rfl
theorem wd_284 : (Jvm.Cond.methodLink "TopYard$Past" (3 : Nat) ({ cls := "java/lang/Object", name := "<init>", desc := "()V" } : Jvm.MethodName)) ∈ TT := mt1 (i := 210) rfl rfl
theorem wd_285 : (Jvm.Cond.methodLink "TopYard" (49 : Nat) ({ cls := "TopYard$Past", name := "<init>", desc := "()V" } : Jvm.MethodName)) ∈ TT := mt1 (i := 207) rfl rfl
theorem wd_286 : (Jvm.Cond.instanceMethod ({ cls := "TopYard$Past", name := "<init>", desc := "()V" } : Jvm.MethodName)) ∈ TT := mt1 (i := 208) rfl rfl
theorem wd_287 : (Jvm.Cond.code ({ cls := "TopYard$Past", name := "<init>", desc := "()V" } : Jvm.MethodName) prog_8_method_1_code (1 : Nat) (Option.none : Option Jvm.ClassFile.FieldType)) ∈ TT := mt1 (i := 209) rfl rfl
theorem wd_288 : (Jvm.Cond.classLink "TopYard" (54 : Nat) "TopYard$Game") ∈ TT := mt1 (i := 231) rfl rfl
theorem wd_289 : (Jvm.Cond.instantiable "TopYard$Game" (3 : Nat)) ∈ TT := mt1 (i := 232) rfl rfl
theorem wd_290 : (Jvm.Cond.initialized "TopYard$Game") ∈ TT := mt1 (i := 7) rfl rfl
theorem wd_291 : (Jvm.Cond.methodLink "TopYard$Game" (3 : Nat) ({ cls := "java/lang/Object", name := "<init>", desc := "()V" } : Jvm.MethodName)) ∈ TT := mt1 (i := 236) rfl rfl
theorem wd_292 : (Jvm.Cond.methodLink "TopYard" (56 : Nat) ({ cls := "TopYard$Game", name := "<init>", desc := "()V" } : Jvm.MethodName)) ∈ TT := mt1 (i := 233) rfl rfl
theorem wd_293 : (Jvm.Cond.instanceMethod ({ cls := "TopYard$Game", name := "<init>", desc := "()V" } : Jvm.MethodName)) ∈ TT := mt1 (i := 234) rfl rfl
theorem wd_294 : (Jvm.Cond.code ({ cls := "TopYard$Game", name := "<init>", desc := "()V" } : Jvm.MethodName) prog_5_method_1_code (1 : Nat) (Option.none : Option Jvm.ClassFile.FieldType)) ∈ TT := mt1 (i := 235) rfl rfl
theorem wd_295 : (Jvm.Cond.classLink "TopYard" (67 : Nat) "TopYard$Pack") ∈ TT := mt2 (i := 8) rfl rfl
theorem wd_296 : (Jvm.Cond.instantiable "TopYard$Pack" (4 : Nat)) ∈ TT := mt2 (i := 9) rfl rfl
theorem wd_297 : (Jvm.Cond.initialized "TopYard$Pack") ∈ TT := mt1 (i := 8) rfl rfl
theorem wd_298 : (Jvm.Cond.methodLink "TopYard$Pack" (3 : Nat) ({ cls := "java/lang/Object", name := "<init>", desc := "()V" } : Jvm.MethodName)) ∈ TT := mt2 (i := 13) rfl rfl
theorem wd_299 : (Jvm.Cond.methodLink "TopYard" (69 : Nat) ({ cls := "TopYard$Pack", name := "<init>", desc := "()V" } : Jvm.MethodName)) ∈ TT := mt2 (i := 10) rfl rfl
theorem wd_300 : (Jvm.Cond.instanceMethod ({ cls := "TopYard$Pack", name := "<init>", desc := "()V" } : Jvm.MethodName)) ∈ TT := mt2 (i := 11) rfl rfl
theorem wd_301 : (Jvm.Cond.code ({ cls := "TopYard$Pack", name := "<init>", desc := "()V" } : Jvm.MethodName) prog_7_method_1_code (1 : Nat) (Option.none : Option Jvm.ClassFile.FieldType)) ∈ TT := mt2 (i := 12) rfl rfl
theorem wd_302 : (Jvm.Cond.classLink "TopYard" (74 : Nat) "TopYard$Sheet") ∈ TT := mt2 (i := 29) rfl rfl
theorem wd_303 : (Jvm.Cond.instantiable "TopYard$Sheet" (4 : Nat)) ∈ TT := mt2 (i := 34) rfl rfl
theorem wd_304 : (Jvm.Cond.initialized "TopYard$Sheet") ∈ TT := mt1 (i := 10) rfl rfl
theorem wd_305 : (Jvm.Cond.methodLink "TopYard$Sheet" (3 : Nat) ({ cls := "java/lang/Object", name := "<init>", desc := "()V" } : Jvm.MethodName)) ∈ TT := mt2 (i := 38) rfl rfl
theorem wd_306 : (Jvm.Cond.methodLink "TopYard" (89 : Nat) ({ cls := "TopYard$Sheet", name := "<init>", desc := "()V" } : Jvm.MethodName)) ∈ TT := mt2 (i := 35) rfl rfl
theorem wd_307 : (Jvm.Cond.instanceMethod ({ cls := "TopYard$Sheet", name := "<init>", desc := "()V" } : Jvm.MethodName)) ∈ TT := mt2 (i := 36) rfl rfl
theorem wd_308 : (Jvm.Cond.code ({ cls := "TopYard$Sheet", name := "<init>", desc := "()V" } : Jvm.MethodName) prog_9_method_1_code (1 : Nat) (Option.none : Option Jvm.ClassFile.FieldType)) ∈ TT := mt2 (i := 37) rfl rfl
theorem wd_309 : (Jvm.Cond.methodLink "TopYardModel" (1 : Nat) ({ cls := "java/lang/Object", name := "<init>", desc := "()V" } : Jvm.MethodName)) ∈ TT := mt5 (i := 97) rfl rfl
theorem wd_310 : (Jvm.Cond.instantiable "TopYard$Top" (6 : Nat)) ∈ TT := mt2 (i := 122) rfl rfl
theorem wd_311 : (Jvm.Cond.initialized "TopYard$Top") ∈ TT := mt1 (i := 13) rfl rfl
theorem wd_312 : (Jvm.Cond.methodLink "TopYard" (107 : Nat) ({ cls := "TopYard$Top", name := "<init>", desc := "(IIIII)V" } : Jvm.MethodName)) ∈ TT := mt2 (i := 123) rfl rfl
theorem wd_313 : (Jvm.Cond.instanceMethod ({ cls := "TopYard$Top", name := "<init>", desc := "(IIIII)V" } : Jvm.MethodName)) ∈ TT := mt2 (i := 124) rfl rfl
theorem wd_314 : (Jvm.Cond.code ({ cls := "TopYard$Top", name := "<init>", desc := "(IIIII)V" } : Jvm.MethodName) prog_11_method_1_code (6 : Nat) (Option.none : Option Jvm.ClassFile.FieldType)) ∈ TT := mt2 (i := 125) rfl rfl
theorem wd_315 : (Jvm.Cond.methodLink "TopYard$Top" (1 : Nat) ({ cls := "java/lang/Object", name := "<init>", desc := "()V" } : Jvm.MethodName)) ∈ TT := mt2 (i := 126) rfl rfl
theorem wd_316 : (Jvm.Cond.fieldLink "TopYard$Top" (13 : Nat) "TopYard$Top" "weight" "I") ∈ TT := mt2 (i := 127) rfl rfl
theorem wd_317 : (Jvm.Cond.fieldLink "TopYard$Top" (22 : Nat) "TopYard$Top" "sense" "I") ∈ TT := mt2 (i := 136) rfl rfl
theorem wd_318 : (Jvm.Cond.fieldLink "TopYard$Top" (25 : Nat) "TopYard$Top" "owner" "I") ∈ TT := mt2 (i := 139) rfl rfl
theorem wd_319 : (Jvm.Cond.classLink "TopYardLaw" (7 : Nat) "TopYard") ∈ TT := mt1 (i := 17) rfl rfl
theorem wd_320 : (Jvm.Cond.instantiable "TopYard" (14 : Nat)) ∈ TT := mt1 (i := 18) rfl rfl
theorem wd_321 : (Jvm.Cond.initialized "TopYard") ∈ TT := mt1 (i := 1) rfl rfl
theorem wd_322 : (Jvm.Cond.methodLink "TopYardLaw" (9 : Nat) ({ cls := "TopYard", name := "<init>", desc := "()V" } : Jvm.MethodName)) ∈ TT := mt1 (i := 19) rfl rfl
theorem wd_323 : (Jvm.Cond.instanceMethod ({ cls := "TopYard", name := "<init>", desc := "()V" } : Jvm.MethodName)) ∈ TT := mt1 (i := 20) rfl rfl
theorem wd_324 : (Jvm.Cond.code ({ cls := "TopYard", name := "<init>", desc := "()V" } : Jvm.MethodName) prog_1_method_1_code (2 : Nat) (Option.none : Option Jvm.ClassFile.FieldType)) ∈ TT := mt1 (i := 21) rfl rfl
theorem wd_325 : (Jvm.Cond.classLink "TopYardLaw" (10 : Nat) "TopYardModel") ∈ TT := mt5 (i := 92) rfl rfl
theorem wd_326 : (Jvm.Cond.instantiable "TopYardModel" (67 : Nat)) ∈ TT := mt5 (i := 93) rfl rfl
theorem wd_327 : (Jvm.Cond.initialized "TopYardModel") ∈ TT := mt1 (i := 11) rfl rfl
theorem wd_328 : (Jvm.Cond.methodLink "TopYardLaw" (12 : Nat) ({ cls := "TopYardModel", name := "<init>", desc := "()V" } : Jvm.MethodName)) ∈ TT := mt5 (i := 94) rfl rfl
theorem wd_329 : (Jvm.Cond.instanceMethod ({ cls := "TopYardModel", name := "<init>", desc := "()V" } : Jvm.MethodName)) ∈ TT := mt5 (i := 95) rfl rfl
theorem wd_330 : (Jvm.Cond.code ({ cls := "TopYardModel", name := "<init>", desc := "()V" } : Jvm.MethodName) prog_13_method_1_code (2 : Nat) (Option.none : Option Jvm.ClassFile.FieldType)) ∈ TT := mt5 (i := 96) rfl rfl
theorem wd_331 : (Jvm.Cond.methodLink "TopYardLaw" (18 : Nat) ({ cls := "TopYard", name := "top", desc := "(IIIII)I" } : Jvm.MethodName)) ∈ TT := mt2 (i := 115) rfl rfl
theorem wd_332 : (Jvm.Cond.instanceMethod ({ cls := "TopYard", name := "top", desc := "(IIIII)I" } : Jvm.MethodName)) ∈ TT := mt2 (i := 116) rfl rfl
theorem wd_333 : (Jvm.Cond.code ({ cls := "TopYard", name := "top", desc := "(IIIII)I" } : Jvm.MethodName) prog_1_method_3_code (7 : Nat) (Option.some Jvm.ClassFile.FieldType.int)) ∈ TT := mt2 (i := 118) rfl rfl
theorem wd_334 : (Jvm.Cond.selects "TopYard" ({ cls := "TopYard", name := "top", desc := "(IIIII)I" } : Jvm.MethodName) ({ cls := "TopYard", name := "top", desc := "(IIIII)I" } : Jvm.MethodName)) ∈ TT := mt2 (i := 117) rfl rfl
theorem wd_335 : (Jvm.Cond.methodLink "TopYard$Bout" (102 : Nat) ({ cls := "TopYard$Bout", name := "collide", desc := "(LTopYard$Spinner;LTopYard$Spinner;)V" } : Jvm.MethodName)) ∈ TT := mt3 (i := 96) rfl rfl
theorem wd_336 : (Jvm.Cond.instanceMethod ({ cls := "TopYard$Bout", name := "collide", desc := "(LTopYard$Spinner;LTopYard$Spinner;)V" } : Jvm.MethodName)) ∈ TT := mt3 (i := 98) rfl rfl
theorem wd_337 : (Jvm.Cond.code ({ cls := "TopYard$Bout", name := "collide", desc := "(LTopYard$Spinner;LTopYard$Spinner;)V" } : Jvm.MethodName) prog_2_method_14_code (13 : Nat) (Option.none : Option Jvm.ClassFile.FieldType)) ∈ TT := mt3 (i := 99) rfl rfl
theorem wd_338 : (Jvm.Cond.methodLink "TopYard$Bout" (106 : Nat) ({ cls := "TopYard$Spinner", name := "fall", desc := "(I)V" } : Jvm.MethodName)) ∈ TT := mt3 (i := 113) rfl rfl
theorem wd_339 : (Jvm.Cond.instanceMethod ({ cls := "TopYard$Spinner", name := "fall", desc := "(I)V" } : Jvm.MethodName)) ∈ TT := mt3 (i := 114) rfl rfl
theorem wd_340 : (Jvm.Cond.selects "TopYard$Spinner" ({ cls := "TopYard$Spinner", name := "fall", desc := "(I)V" } : Jvm.MethodName) ({ cls := "TopYard$Spinner", name := "fall", desc := "(I)V" } : Jvm.MethodName)) ∈ TT := mt3 (i := 115) rfl rfl
theorem wd_341 : (Jvm.Cond.code ({ cls := "TopYard$Spinner", name := "fall", desc := "(I)V" } : Jvm.MethodName) prog_10_method_12_code (2 : Nat) (Option.none : Option Jvm.ClassFile.FieldType)) ∈ TT := mt3 (i := 116) rfl rfl
theorem wd_342 : (Jvm.Cond.methodLink "TopYard$Bout" (135 : Nat) ({ cls := "TopYard$Bout", name := "lock", desc := "(LTopYard$Spinner;LTopYard$Spinner;)V" } : Jvm.MethodName)) ∈ TT := mt3 (i := 102) rfl rfl
theorem wd_343 : (Jvm.Cond.static ({ cls := "TopYard$Bout", name := "lock", desc := "(LTopYard$Spinner;LTopYard$Spinner;)V" } : Jvm.MethodName)) ∈ TT := mt3 (i := 103) rfl rfl
theorem wd_344 : (Jvm.Cond.code ({ cls := "TopYard$Bout", name := "lock", desc := "(LTopYard$Spinner;LTopYard$Spinner;)V" } : Jvm.MethodName) prog_2_method_15_code (8 : Nat) (Option.none : Option Jvm.ClassFile.FieldType)) ∈ TT := mt3 (i := 104) rfl rfl
theorem wd_345 : (Jvm.Cond.methodLink "TopYard$Bout" (140 : Nat) ({ cls := "TopYard$Bout", name := "bounce", desc := "(LTopYard$Spinner;LTopYard$Spinner;JJJ)V" } : Jvm.MethodName)) ∈ TT := mt3 (i := 106) rfl rfl
theorem wd_346 : (Jvm.Cond.static ({ cls := "TopYard$Bout", name := "bounce", desc := "(LTopYard$Spinner;LTopYard$Spinner;JJJ)V" } : Jvm.MethodName)) ∈ TT := mt3 (i := 107) rfl rfl
theorem wd_347 : (Jvm.Cond.code ({ cls := "TopYard$Bout", name := "bounce", desc := "(LTopYard$Spinner;LTopYard$Spinner;JJJ)V" } : Jvm.MethodName) prog_2_method_16_code (14 : Nat) (Option.none : Option Jvm.ClassFile.FieldType)) ∈ TT := mt3 (i := 108) rfl rfl
theorem wd_348 : (Jvm.Cond.methodLink "TopYard$Bout" (144 : Nat) ({ cls := "TopYard$Bout", name := "passSpin", desc := "(LTopYard$Spinner;LTopYard$Spinner;)V" } : Jvm.MethodName)) ∈ TT := mt3 (i := 109) rfl rfl
theorem wd_349 : (Jvm.Cond.static ({ cls := "TopYard$Bout", name := "passSpin", desc := "(LTopYard$Spinner;LTopYard$Spinner;)V" } : Jvm.MethodName)) ∈ TT := mt3 (i := 110) rfl rfl
theorem wd_350 : (Jvm.Cond.code ({ cls := "TopYard$Bout", name := "passSpin", desc := "(LTopYard$Spinner;LTopYard$Spinner;)V" } : Jvm.MethodName) prog_2_method_17_code (4 : Nat) (Option.none : Option Jvm.ClassFile.FieldType)) ∈ TT := mt3 (i := 111) rfl rfl
theorem wd_351 : (Jvm.Cond.methodLink "TopYard$Bout" (150 : Nat) ({ cls := "java/lang/Math", name := "max", desc := "(II)I" } : Jvm.MethodName)) ∈ TT := mt3 (i := 112) rfl rfl
theorem wd_352 : (Jvm.Cond.static ({ cls := "java/lang/Math", name := "max", desc := "(II)I" } : Jvm.MethodName)) ∈ TT := mt3 (i := 42) rfl rfl
theorem wd_353 : (Jvm.Cond.initialized "java/lang/Math") ∈ TT := mt1 (i := 14) rfl rfl
theorem wd_354 : (Jvm.Cond.code ({ cls := "java/lang/Math", name := "max", desc := "(II)I" } : Jvm.MethodName) prog_15_method_65_code (2 : Nat) (Option.some Jvm.ClassFile.FieldType.int)) ∈ TT := mt3 (i := 43) rfl rfl
theorem wd_355 : (Jvm.Cond.methodLink "TopYard$Bout" (41 : Nat) ({ cls := "TopYard$Bout", name := "at", desc := "(I)LTopYard$Spinner;" } : Jvm.MethodName)) ∈ TT := mt2 (i := 229) rfl rfl
theorem wd_356 : (Jvm.Cond.instanceMethod ({ cls := "TopYard$Bout", name := "at", desc := "(I)LTopYard$Spinner;" } : Jvm.MethodName)) ∈ TT := mt2 (i := 230) rfl rfl
theorem wd_357 : (Jvm.Cond.selects "TopYard$Bout" ({ cls := "TopYard$Bout", name := "at", desc := "(I)LTopYard$Spinner;" } : Jvm.MethodName) ({ cls := "TopYard$Bout", name := "at", desc := "(I)LTopYard$Spinner;" } : Jvm.MethodName)) ∈ TT := mt2 (i := 231) rfl rfl
theorem wd_358 : (Jvm.Cond.code ({ cls := "TopYard$Bout", name := "at", desc := "(I)LTopYard$Spinner;" } : Jvm.MethodName) prog_2_method_3_code (2 : Nat) (Option.some (Jvm.ClassFile.FieldType.object "TopYard$Spinner"))) ∈ TT := mt2 (i := 232) rfl rfl
theorem wd_359 : (Jvm.Cond.methodLink "TopYard$Bout" (52 : Nat) ({ cls := "TopYard$Bout", name := "begin", desc := "([I)V" } : Jvm.MethodName)) ∈ TT := mt3 (i := 29) rfl rfl
theorem wd_360 : (Jvm.Cond.instanceMethod ({ cls := "TopYard$Bout", name := "begin", desc := "([I)V" } : Jvm.MethodName)) ∈ TT := mt3 (i := 31) rfl rfl
theorem wd_361 : (Jvm.Cond.code ({ cls := "TopYard$Bout", name := "begin", desc := "([I)V" } : Jvm.MethodName) prog_2_method_9_code (5 : Nat) (Option.none : Option Jvm.ClassFile.FieldType)) ∈ TT := mt3 (i := 32) rfl rfl
theorem wd_362 : (Jvm.Cond.methodLink "TopYard$Bout" (56 : Nat) ({ cls := "TopYard$Bout", name := "step", desc := "(LTopYard$Bowl;II)V" } : Jvm.MethodName)) ∈ TT := mt3 (i := 49) rfl rfl
theorem wd_363 : (Jvm.Cond.instanceMethod ({ cls := "TopYard$Bout", name := "step", desc := "(LTopYard$Bowl;II)V" } : Jvm.MethodName)) ∈ TT := mt3 (i := 51) rfl rfl
theorem wd_364 : (Jvm.Cond.code ({ cls := "TopYard$Bout", name := "step", desc := "(LTopYard$Bowl;II)V" } : Jvm.MethodName) prog_2_method_12_code (8 : Nat) (Option.none : Option Jvm.ClassFile.FieldType)) ∈ TT := mt3 (i := 52) rfl rfl
theorem wd_365 : (Jvm.Cond.methodLink "TopYard$Bout" (60 : Nat) ({ cls := "TopYard$Bout", name := "standing", desc := "()I" } : Jvm.MethodName)) ∈ TT := mt3 (i := 117) rfl rfl
theorem wd_366 : (Jvm.Cond.instanceMethod ({ cls := "TopYard$Bout", name := "standing", desc := "()I" } : Jvm.MethodName)) ∈ TT := mt3 (i := 119) rfl rfl
theorem wd_367 : (Jvm.Cond.code ({ cls := "TopYard$Bout", name := "standing", desc := "()I" } : Jvm.MethodName) prog_2_method_11_code (3 : Nat) (Option.some Jvm.ClassFile.FieldType.int)) ∈ TT := mt3 (i := 120) rfl rfl
theorem wd_368 : (Jvm.Cond.methodLink "TopYard$Bout" (64 : Nat) ({ cls := "TopYard$Bout", name := "standsAt", desc := "(I)Z" } : Jvm.MethodName)) ∈ TT := mt3 (i := 121) rfl rfl
theorem wd_369 : (Jvm.Cond.instanceMethod ({ cls := "TopYard$Bout", name := "standsAt", desc := "(I)Z" } : Jvm.MethodName)) ∈ TT := mt3 (i := 123) rfl rfl
theorem wd_370 : (Jvm.Cond.code ({ cls := "TopYard$Bout", name := "standsAt", desc := "(I)Z" } : Jvm.MethodName) prog_2_method_10_code (3 : Nat) (Option.some Jvm.ClassFile.FieldType.boolean)) ∈ TT := mt3 (i := 124) rfl rfl
theorem wd_371 : (Jvm.Cond.methodLink "TopYard$Bout" (68 : Nat) ({ cls := "TopYard$Spinner", name := "owner", desc := "()I" } : Jvm.MethodName)) ∈ TT := mt3 (i := 33) rfl rfl
theorem wd_372 : (Jvm.Cond.instanceMethod ({ cls := "TopYard$Spinner", name := "owner", desc := "()I" } : Jvm.MethodName)) ∈ TT := mt3 (i := 34) rfl rfl
theorem wd_373 : (Jvm.Cond.selects "TopYard$Spinner" ({ cls := "TopYard$Spinner", name := "owner", desc := "()I" } : Jvm.MethodName) ({ cls := "TopYard$Spinner", name := "owner", desc := "()I" } : Jvm.MethodName)) ∈ TT := mt3 (i := 35) rfl rfl
theorem wd_374 : (Jvm.Cond.code ({ cls := "TopYard$Spinner", name := "owner", desc := "()I" } : Jvm.MethodName) prog_10_method_4_code (1 : Nat) (Option.some Jvm.ClassFile.FieldType.int)) ∈ TT := mt3 (i := 36) rfl rfl
theorem wd_375 : (Jvm.Cond.methodLink "TopYard$Bout" (71 : Nat) ({ cls := "TopYard$Spinner", name := "begin", desc := "(I)V" } : Jvm.MethodName)) ∈ TT := mt3 (i := 37) rfl rfl
theorem wd_376 : (Jvm.Cond.instanceMethod ({ cls := "TopYard$Spinner", name := "begin", desc := "(I)V" } : Jvm.MethodName)) ∈ TT := mt3 (i := 38) rfl rfl
theorem wd_377 : (Jvm.Cond.selects "TopYard$Spinner" ({ cls := "TopYard$Spinner", name := "begin", desc := "(I)V" } : Jvm.MethodName) ({ cls := "TopYard$Spinner", name := "begin", desc := "(I)V" } : Jvm.MethodName)) ∈ TT := mt3 (i := 39) rfl rfl
theorem wd_378 : (Jvm.Cond.code ({ cls := "TopYard$Spinner", name := "begin", desc := "(I)V" } : Jvm.MethodName) prog_10_method_3_code (2 : Nat) (Option.none : Option Jvm.ClassFile.FieldType)) ∈ TT := mt3 (i := 40) rfl rfl
theorem wd_379 : (Jvm.Cond.methodLink "TopYard$Bout" (74 : Nat) ({ cls := "TopYard$Spinner", name := "stands", desc := "()Z" } : Jvm.MethodName)) ∈ TT := mt3 (i := 57) rfl rfl
theorem wd_380 : (Jvm.Cond.instanceMethod ({ cls := "TopYard$Spinner", name := "stands", desc := "()Z" } : Jvm.MethodName)) ∈ TT := mt3 (i := 58) rfl rfl
theorem wd_381 : (Jvm.Cond.selects "TopYard$Spinner" ({ cls := "TopYard$Spinner", name := "stands", desc := "()Z" } : Jvm.MethodName) ({ cls := "TopYard$Spinner", name := "stands", desc := "()Z" } : Jvm.MethodName)) ∈ TT := mt3 (i := 59) rfl rfl
theorem wd_382 : (Jvm.Cond.code ({ cls := "TopYard$Spinner", name := "stands", desc := "()Z" } : Jvm.MethodName) prog_10_method_5_code (1 : Nat) (Option.some Jvm.ClassFile.FieldType.boolean)) ∈ TT := mt3 (i := 60) rfl rfl
theorem wd_383 : (Jvm.Cond.methodLink "TopYard$Bout" (78 : Nat) ({ cls := "TopYard$Bout", name := "lash", desc := "(I)V" } : Jvm.MethodName)) ∈ TT := mt3 (i := 53) rfl rfl
theorem wd_384 : (Jvm.Cond.instanceMethod ({ cls := "TopYard$Bout", name := "lash", desc := "(I)V" } : Jvm.MethodName)) ∈ TT := mt3 (i := 55) rfl rfl
theorem wd_385 : (Jvm.Cond.code ({ cls := "TopYard$Bout", name := "lash", desc := "(I)V" } : Jvm.MethodName) prog_2_method_13_code (4 : Nat) (Option.none : Option Jvm.ClassFile.FieldType)) ∈ TT := mt3 (i := 56) rfl rfl
theorem wd_386 : (Jvm.Cond.methodLink "TopYard$Bout" (81 : Nat) ({ cls := "TopYard$Spinner", name := "slow", desc := "()V" } : Jvm.MethodName)) ∈ TT := mt3 (i := 61) rfl rfl
theorem wd_387 : (Jvm.Cond.instanceMethod ({ cls := "TopYard$Spinner", name := "slow", desc := "()V" } : Jvm.MethodName)) ∈ TT := mt3 (i := 62) rfl rfl
theorem wd_388 : (Jvm.Cond.selects "TopYard$Spinner" ({ cls := "TopYard$Spinner", name := "slow", desc := "()V" } : Jvm.MethodName) ({ cls := "TopYard$Spinner", name := "slow", desc := "()V" } : Jvm.MethodName)) ∈ TT := mt3 (i := 63) rfl rfl
theorem wd_389 : (Jvm.Cond.code ({ cls := "TopYard$Spinner", name := "slow", desc := "()V" } : Jvm.MethodName) prog_10_method_7_code (1 : Nat) (Option.none : Option Jvm.ClassFile.FieldType)) ∈ TT := mt3 (i := 64) rfl rfl
theorem wd_390 : (Jvm.Cond.methodLink "TopYard$Bout" (84 : Nat) ({ cls := "TopYard$Spinner", name := "tilt", desc := "()V" } : Jvm.MethodName)) ∈ TT := mt3 (i := 65) rfl rfl
theorem wd_391 : (Jvm.Cond.instanceMethod ({ cls := "TopYard$Spinner", name := "tilt", desc := "()V" } : Jvm.MethodName)) ∈ TT := mt3 (i := 66) rfl rfl
theorem wd_392 : (Jvm.Cond.selects "TopYard$Spinner" ({ cls := "TopYard$Spinner", name := "tilt", desc := "()V" } : Jvm.MethodName) ({ cls := "TopYard$Spinner", name := "tilt", desc := "()V" } : Jvm.MethodName)) ∈ TT := mt3 (i := 67) rfl rfl
theorem wd_393 : (Jvm.Cond.code ({ cls := "TopYard$Spinner", name := "tilt", desc := "()V" } : Jvm.MethodName) prog_10_method_8_code (1 : Nat) (Option.none : Option Jvm.ClassFile.FieldType)) ∈ TT := mt3 (i := 68) rfl rfl
theorem wd_394 : (Jvm.Cond.methodLink "TopYard$Bout" (87 : Nat) ({ cls := "TopYard$Spinner", name := "push", desc := "(LTopYard$Bowl;)V" } : Jvm.MethodName)) ∈ TT := mt3 (i := 69) rfl rfl
theorem wd_395 : (Jvm.Cond.instanceMethod ({ cls := "TopYard$Spinner", name := "push", desc := "(LTopYard$Bowl;)V" } : Jvm.MethodName)) ∈ TT := mt3 (i := 70) rfl rfl
theorem wd_396 : (Jvm.Cond.selects "TopYard$Spinner" ({ cls := "TopYard$Spinner", name := "push", desc := "(LTopYard$Bowl;)V" } : Jvm.MethodName) ({ cls := "TopYard$Spinner", name := "push", desc := "(LTopYard$Bowl;)V" } : Jvm.MethodName)) ∈ TT := mt3 (i := 71) rfl rfl
theorem wd_397 : (Jvm.Cond.code ({ cls := "TopYard$Spinner", name := "push", desc := "(LTopYard$Bowl;)V" } : Jvm.MethodName) prog_10_method_9_code (4 : Nat) (Option.none : Option Jvm.ClassFile.FieldType)) ∈ TT := mt3 (i := 72) rfl rfl
theorem wd_398 : (Jvm.Cond.methodLink "TopYard$Bout" (91 : Nat) ({ cls := "TopYard$Spinner", name := "move", desc := "()V" } : Jvm.MethodName)) ∈ TT := mt3 (i := 83) rfl rfl
theorem wd_399 : (Jvm.Cond.instanceMethod ({ cls := "TopYard$Spinner", name := "move", desc := "()V" } : Jvm.MethodName)) ∈ TT := mt3 (i := 84) rfl rfl
theorem wd_400 : (Jvm.Cond.selects "TopYard$Spinner" ({ cls := "TopYard$Spinner", name := "move", desc := "()V" } : Jvm.MethodName) ({ cls := "TopYard$Spinner", name := "move", desc := "()V" } : Jvm.MethodName)) ∈ TT := mt3 (i := 85) rfl rfl
theorem wd_401 : (Jvm.Cond.code ({ cls := "TopYard$Spinner", name := "move", desc := "()V" } : Jvm.MethodName) prog_10_method_10_code (1 : Nat) (Option.none : Option Jvm.ClassFile.FieldType)) ∈ TT := mt3 (i := 86) rfl rfl
theorem wd_402 : (Jvm.Cond.methodLink "TopYard$Bout" (99 : Nat) ({ cls := "TopYard$Spinner", name := "leave", desc := "(I)V" } : Jvm.MethodName)) ∈ TT := mt3 (i := 88) rfl rfl
theorem wd_403 : (Jvm.Cond.instanceMethod ({ cls := "TopYard$Spinner", name := "leave", desc := "(I)V" } : Jvm.MethodName)) ∈ TT := mt3 (i := 89) rfl rfl
theorem wd_404 : (Jvm.Cond.selects "TopYard$Spinner" ({ cls := "TopYard$Spinner", name := "leave", desc := "(I)V" } : Jvm.MethodName) ({ cls := "TopYard$Spinner", name := "leave", desc := "(I)V" } : Jvm.MethodName)) ∈ TT := mt3 (i := 90) rfl rfl
theorem wd_405 : (Jvm.Cond.code ({ cls := "TopYard$Spinner", name := "leave", desc := "(I)V" } : Jvm.MethodName) prog_10_method_11_code (2 : Nat) (Option.none : Option Jvm.ClassFile.FieldType)) ∈ TT := mt3 (i := 91) rfl rfl
theorem wd_406 : (Jvm.Cond.methodLink "TopYard$Bowl" (23 : Nat) ({ cls := "TopYard$Bowl", name := "mayDent", desc := "(II)Z" } : Jvm.MethodName)) ∈ TT := mt2 (i := 189) rfl rfl
theorem wd_407 : (Jvm.Cond.static ({ cls := "TopYard$Bowl", name := "mayDent", desc := "(II)Z" } : Jvm.MethodName)) ∈ TT := mt2 (i := 183) rfl rfl
theorem wd_408 : (Jvm.Cond.code ({ cls := "TopYard$Bowl", name := "mayDent", desc := "(II)Z" } : Jvm.MethodName) prog_3_method_2_code (2 : Nat) (Option.some Jvm.ClassFile.FieldType.boolean)) ∈ TT := mt2 (i := 184) rfl rfl
theorem wd_409 : (Jvm.Cond.methodLink "TopYard$Bowl" (27 : Nat) ({ cls := "java/util/Arrays", name := "fill", desc := "([II)V" } : Jvm.MethodName)) ∈ TT := mt2 (i := 198) rfl rfl
theorem wd_410 : (Jvm.Cond.static ({ cls := "java/util/Arrays", name := "fill", desc := "([II)V" } : Jvm.MethodName)) ∈ TT := mt2 (i := 32) rfl rfl
theorem wd_411 : (Jvm.Cond.initialized "java/util/Arrays") ∈ TT := mt1 (i := 9) rfl rfl
theorem wd_412 : (Jvm.Cond.code ({ cls := "java/util/Arrays", name := "fill", desc := "([II)V" } : Jvm.MethodName) prog_17_method_103_code (4 : Nat) (Option.none : Option Jvm.ClassFile.FieldType)) ∈ TT := mt2 (i := 33) rfl rfl
theorem wd_413 : (Jvm.Cond.methodLink "TopYard$Bowl" (33 : Nat) ({ cls := "TopYard$Bowl", name := "heightAt", desc := "(II)I" } : Jvm.MethodName)) ∈ TT := mt2 (i := 212) rfl rfl
theorem wd_414 : (Jvm.Cond.instanceMethod ({ cls := "TopYard$Bowl", name := "heightAt", desc := "(II)I" } : Jvm.MethodName)) ∈ TT := mt2 (i := 205) rfl rfl
theorem wd_415 : (Jvm.Cond.selects "TopYard$Bowl" ({ cls := "TopYard$Bowl", name := "heightAt", desc := "(II)I" } : Jvm.MethodName) ({ cls := "TopYard$Bowl", name := "heightAt", desc := "(II)I" } : Jvm.MethodName)) ∈ TT := mt2 (i := 206) rfl rfl
theorem wd_416 : (Jvm.Cond.code ({ cls := "TopYard$Bowl", name := "heightAt", desc := "(II)I" } : Jvm.MethodName) prog_3_method_5_code (4 : Nat) (Option.some Jvm.ClassFile.FieldType.int)) ∈ TT := mt2 (i := 207) rfl rfl
theorem wd_417 : (Jvm.Cond.methodLink "TopYard$Choice" (101 : Nat) ({ cls := "TopYard$Choice", name := "noShareIsNegative", desc := "()Z" } : Jvm.MethodName)) ∈ TT := mt4 (i := 1) rfl rfl
theorem wd_418 : (Jvm.Cond.instanceMethod ({ cls := "TopYard$Choice", name := "noShareIsNegative", desc := "()Z" } : Jvm.MethodName)) ∈ TT := mt4 (i := 3) rfl rfl
theorem wd_419 : (Jvm.Cond.code ({ cls := "TopYard$Choice", name := "noShareIsNegative", desc := "()Z" } : Jvm.MethodName) prog_4_method_17_code (2 : Nat) (Option.some Jvm.ClassFile.FieldType.boolean)) ∈ TT := mt4 (i := 4) rfl rfl
theorem wd_420 : (Jvm.Cond.methodLink "TopYard$Choice" (105 : Nat) ({ cls := "TopYard$Choice", name := "holdsForRows", desc := "()Z" } : Jvm.MethodName)) ∈ TT := mt4 (i := 5) rfl rfl
theorem wd_421 : (Jvm.Cond.instanceMethod ({ cls := "TopYard$Choice", name := "holdsForRows", desc := "()Z" } : Jvm.MethodName)) ∈ TT := mt4 (i := 7) rfl rfl
theorem wd_422 : (Jvm.Cond.code ({ cls := "TopYard$Choice", name := "holdsForRows", desc := "()Z" } : Jvm.MethodName) prog_4_method_19_code (5 : Nat) (Option.some Jvm.ClassFile.FieldType.boolean)) ∈ TT := mt4 (i := 8) rfl rfl
theorem wd_423 : (Jvm.Cond.methodLink "TopYard$Choice" (108 : Nat) ({ cls := "TopYard$Choice", name := "holdsForColumns", desc := "()Z" } : Jvm.MethodName)) ∈ TT := mt4 (i := 9) rfl rfl
theorem wd_424 : (Jvm.Cond.instanceMethod ({ cls := "TopYard$Choice", name := "holdsForColumns", desc := "()Z" } : Jvm.MethodName)) ∈ TT := mt4 (i := 11) rfl rfl
theorem wd_425 : (Jvm.Cond.code ({ cls := "TopYard$Choice", name := "holdsForColumns", desc := "()Z" } : Jvm.MethodName) prog_4_method_18_code (5 : Nat) (Option.some Jvm.ClassFile.FieldType.boolean)) ∈ TT := mt4 (i := 12) rfl rfl
theorem wd_426 : (Jvm.Cond.methodLink "TopYard$Choice" (47 : Nat) ({ cls := "java/util/Arrays", name := "fill", desc := "([II)V" } : Jvm.MethodName)) ∈ TT := mt3 (i := 154) rfl rfl
theorem wd_427 : (Jvm.Cond.methodLink "TopYard$Choice" (55 : Nat) ({ cls := "TopYard$Choice", name := "inMillionths", desc := "(J)I" } : Jvm.MethodName)) ∈ TT := mt4 (i := 18) rfl rfl
theorem wd_428 : (Jvm.Cond.instanceMethod ({ cls := "TopYard$Choice", name := "inMillionths", desc := "(J)I" } : Jvm.MethodName)) ∈ TT := mt4 (i := 19) rfl rfl
theorem wd_429 : (Jvm.Cond.selects "TopYard$Choice" ({ cls := "TopYard$Choice", name := "inMillionths", desc := "(J)I" } : Jvm.MethodName) ({ cls := "TopYard$Choice", name := "inMillionths", desc := "(J)I" } : Jvm.MethodName)) ∈ TT := mt4 (i := 20) rfl rfl
theorem wd_430 : (Jvm.Cond.code ({ cls := "TopYard$Choice", name := "inMillionths", desc := "(J)I" } : Jvm.MethodName) prog_4_method_8_code (3 : Nat) (Option.some Jvm.ClassFile.FieldType.int)) ∈ TT := mt4 (i := 21) rfl rfl
theorem wd_431 : (Jvm.Cond.methodLink "TopYard$Choice" (61 : Nat) ({ cls := "java/lang/Math", name := "floorDiv", desc := "(JJ)J" } : Jvm.MethodName)) ∈ TT := mt4 (i := 23) rfl rfl
theorem wd_432 : (Jvm.Cond.static ({ cls := "java/lang/Math", name := "floorDiv", desc := "(JJ)J" } : Jvm.MethodName)) ∈ TT := mt3 (i := 75) rfl rfl
theorem wd_433 : (Jvm.Cond.code ({ cls := "java/lang/Math", name := "floorDiv", desc := "(JJ)J" } : Jvm.MethodName) prog_15_method_49_code (6 : Nat) (Option.some Jvm.ClassFile.FieldType.long)) ∈ TT := mt3 (i := 76) rfl rfl
theorem wd_434 : (Jvm.Cond.methodLink "TopYard$Choice" (67 : Nat) ({ cls := "TopYard$Choice", name := "findDeterminants", desc := "()V" } : Jvm.MethodName)) ∈ TT := mt3 (i := 203) rfl rfl
theorem wd_435 : (Jvm.Cond.instanceMethod ({ cls := "TopYard$Choice", name := "findDeterminants", desc := "()V" } : Jvm.MethodName)) ∈ TT := mt3 (i := 205) rfl rfl
theorem wd_436 : (Jvm.Cond.code ({ cls := "TopYard$Choice", name := "findDeterminants", desc := "()V" } : Jvm.MethodName) prog_4_method_10_code (3 : Nat) (Option.none : Option Jvm.ClassFile.FieldType)) ∈ TT := mt3 (i := 206) rfl rfl
theorem wd_437 : (Jvm.Cond.methodLink "TopYard$Choice" (70 : Nat) ({ cls := "TopYard$Choice", name := "solveBySize", desc := "(I)Z" } : Jvm.MethodName)) ∈ TT := mt3 (i := 225) rfl rfl
theorem wd_438 : (Jvm.Cond.instanceMethod ({ cls := "TopYard$Choice", name := "solveBySize", desc := "(I)Z" } : Jvm.MethodName)) ∈ TT := mt3 (i := 227) rfl rfl
theorem wd_439 : (Jvm.Cond.code ({ cls := "TopYard$Choice", name := "solveBySize", desc := "(I)Z" } : Jvm.MethodName) prog_4_method_13_code (5 : Nat) (Option.some Jvm.ClassFile.FieldType.boolean)) ∈ TT := mt3 (i := 228) rfl rfl
theorem wd_440 : (Jvm.Cond.methodLink "TopYard$Choice" (74 : Nat) ({ cls := "java/lang/Integer", name := "bitCount", desc := "(I)I" } : Jvm.MethodName)) ∈ TT := mt3 (i := 207) rfl rfl
theorem wd_441 : (Jvm.Cond.static ({ cls := "java/lang/Integer", name := "bitCount", desc := "(I)I" } : Jvm.MethodName)) ∈ TT := mt3 (i := 208) rfl rfl
theorem wd_442 : (Jvm.Cond.initialized "java/lang/Integer") ∈ TT := mt1 (i := 15) rfl rfl
theorem wd_443 : (Jvm.Cond.code ({ cls := "java/lang/Integer", name := "bitCount", desc := "(I)I" } : Jvm.MethodName) prog_14_method_49_code (1 : Nat) (Option.some Jvm.ClassFile.FieldType.int)) ∈ TT := mt3 (i := 209) rfl rfl
theorem wd_444 : (Jvm.Cond.methodLink "TopYard$Choice" (80 : Nat) ({ cls := "TopYard$Choice", name := "expand", desc := "(II)J" } : Jvm.MethodName)) ∈ TT := mt3 (i := 213) rfl rfl
theorem wd_445 : (Jvm.Cond.instanceMethod ({ cls := "TopYard$Choice", name := "expand", desc := "(II)J" } : Jvm.MethodName)) ∈ TT := mt3 (i := 215) rfl rfl
theorem wd_446 : (Jvm.Cond.code ({ cls := "TopYard$Choice", name := "expand", desc := "(II)J" } : Jvm.MethodName) prog_4_method_11_code (9 : Nat) (Option.some Jvm.ClassFile.FieldType.long)) ∈ TT := mt3 (i := 216) rfl rfl
theorem wd_447 : (Jvm.Cond.methodLink "TopYard$Choice" (84 : Nat) ({ cls := "java/lang/Integer", name := "numberOfTrailingZeros", desc := "(I)I" } : Jvm.MethodName)) ∈ TT := mt3 (i := 217) rfl rfl
theorem wd_448 : (Jvm.Cond.static ({ cls := "java/lang/Integer", name := "numberOfTrailingZeros", desc := "(I)I" } : Jvm.MethodName)) ∈ TT := mt3 (i := 218) rfl rfl
theorem wd_449 : (Jvm.Cond.code ({ cls := "java/lang/Integer", name := "numberOfTrailingZeros", desc := "(I)I" } : Jvm.MethodName) prog_14_method_48_code (2 : Nat) (Option.some Jvm.ClassFile.FieldType.int)) ∈ TT := mt3 (i := 219) rfl rfl
theorem wd_450 : (Jvm.Cond.methodLink "TopYard$Choice" (87 : Nat) ({ cls := "TopYard$Choice", name := "minor", desc := "(IIII)J" } : Jvm.MethodName)) ∈ TT := mt3 (i := 221) rfl rfl
theorem wd_451 : (Jvm.Cond.instanceMethod ({ cls := "TopYard$Choice", name := "minor", desc := "(IIII)J" } : Jvm.MethodName)) ∈ TT := mt3 (i := 223) rfl rfl
theorem wd_452 : (Jvm.Cond.code ({ cls := "TopYard$Choice", name := "minor", desc := "(IIII)J" } : Jvm.MethodName) prog_4_method_12_code (6 : Nat) (Option.some Jvm.ClassFile.FieldType.long)) ∈ TT := mt3 (i := 224) rfl rfl
theorem wd_453 : (Jvm.Cond.methodLink "TopYard$Choice" (91 : Nat) ({ cls := "TopYard$Choice", name := "solveByPart", desc := "(II)Z" } : Jvm.MethodName)) ∈ TT := mt3 (i := 229) rfl rfl
theorem wd_454 : (Jvm.Cond.instanceMethod ({ cls := "TopYard$Choice", name := "solveByPart", desc := "(II)Z" } : Jvm.MethodName)) ∈ TT := mt3 (i := 231) rfl rfl
theorem wd_455 : (Jvm.Cond.code ({ cls := "TopYard$Choice", name := "solveByPart", desc := "(II)Z" } : Jvm.MethodName) prog_4_method_14_code (5 : Nat) (Option.some Jvm.ClassFile.FieldType.boolean)) ∈ TT := mt3 (i := 232) rfl rfl
theorem wd_456 : (Jvm.Cond.methodLink "TopYard$Choice" (95 : Nat) ({ cls := "TopYard$Choice", name := "cofactor", desc := "(IIII)J" } : Jvm.MethodName)) ∈ TT := mt3 (i := 233) rfl rfl
theorem wd_457 : (Jvm.Cond.instanceMethod ({ cls := "TopYard$Choice", name := "cofactor", desc := "(IIII)J" } : Jvm.MethodName)) ∈ TT := mt3 (i := 235) rfl rfl
theorem wd_458 : (Jvm.Cond.code ({ cls := "TopYard$Choice", name := "cofactor", desc := "(IIII)J" } : Jvm.MethodName) prog_4_method_15_code (9 : Nat) (Option.some Jvm.ClassFile.FieldType.long)) ∈ TT := mt3 (i := 236) rfl rfl
theorem wd_459 : (Jvm.Cond.methodLink "TopYard$Choice" (98 : Nat) ({ cls := "TopYard$Choice", name := "changeSigns", desc := "()V" } : Jvm.MethodName)) ∈ TT := mt3 (i := 237) rfl rfl
theorem wd_460 : (Jvm.Cond.instanceMethod ({ cls := "TopYard$Choice", name := "changeSigns", desc := "()V" } : Jvm.MethodName)) ∈ TT := mt3 (i := 239) rfl rfl
theorem wd_461 : (Jvm.Cond.code ({ cls := "TopYard$Choice", name := "changeSigns", desc := "()V" } : Jvm.MethodName) prog_4_method_16_code (2 : Nat) (Option.none : Option Jvm.ClassFile.FieldType)) ∈ TT := mt4 (i := 0) rfl rfl
theorem wd_462 : (Jvm.Cond.methodLink "TopYard$Game" (31 : Nat) ({ cls := "TopYard$Game", name := "letterAt", desc := "(I)I" } : Jvm.MethodName)) ∈ TT := mt4 (i := 139) rfl rfl
theorem wd_463 : (Jvm.Cond.instanceMethod ({ cls := "TopYard$Game", name := "letterAt", desc := "(I)I" } : Jvm.MethodName)) ∈ TT := mt4 (i := 141) rfl rfl
theorem wd_464 : (Jvm.Cond.code ({ cls := "TopYard$Game", name := "letterAt", desc := "(I)I" } : Jvm.MethodName) prog_5_method_10_code (3 : Nat) (Option.some Jvm.ClassFile.FieldType.int)) ∈ TT := mt4 (i := 142) rfl rfl
theorem wd_465 : (Jvm.Cond.methodLink "TopYard$Game" (35 : Nat) ({ cls := "TopYard$Game", name := "figuresAt", desc := "(I)I" } : Jvm.MethodName)) ∈ TT := mt4 (i := 149) rfl rfl
theorem wd_466 : (Jvm.Cond.instanceMethod ({ cls := "TopYard$Game", name := "figuresAt", desc := "(I)I" } : Jvm.MethodName)) ∈ TT := mt4 (i := 151) rfl rfl
theorem wd_467 : (Jvm.Cond.code ({ cls := "TopYard$Game", name := "figuresAt", desc := "(I)I" } : Jvm.MethodName) prog_5_method_11_code (2 : Nat) (Option.some Jvm.ClassFile.FieldType.int)) ∈ TT := mt4 (i := 152) rfl rfl
theorem wd_468 : (Jvm.Cond.methodLink "TopYard$Game" (38 : Nat) ({ cls := "TopYard$Game", name := "numberAt", desc := "(II)I" } : Jvm.MethodName)) ∈ TT := mt4 (i := 156) rfl rfl
theorem wd_469 : (Jvm.Cond.instanceMethod ({ cls := "TopYard$Game", name := "numberAt", desc := "(II)I" } : Jvm.MethodName)) ∈ TT := mt4 (i := 158) rfl rfl
theorem wd_470 : (Jvm.Cond.code ({ cls := "TopYard$Game", name := "numberAt", desc := "(II)I" } : Jvm.MethodName) prog_5_method_12_code (5 : Nat) (Option.some Jvm.ClassFile.FieldType.int)) ∈ TT := mt4 (i := 159) rfl rfl
theorem wd_471 : (Jvm.Cond.methodLink "TopYard$Game" (48 : Nat) ({ cls := "TopYard$Game", name := "byteAt", desc := "(I)I" } : Jvm.MethodName)) ∈ TT := mt4 (i := 143) rfl rfl
theorem wd_472 : (Jvm.Cond.instanceMethod ({ cls := "TopYard$Game", name := "byteAt", desc := "(I)I" } : Jvm.MethodName)) ∈ TT := mt4 (i := 145) rfl rfl
theorem wd_473 : (Jvm.Cond.code ({ cls := "TopYard$Game", name := "byteAt", desc := "(I)I" } : Jvm.MethodName) prog_5_method_9_code (2 : Nat) (Option.some Jvm.ClassFile.FieldType.int)) ∈ TT := mt4 (i := 146) rfl rfl
theorem wd_474 : (Jvm.Cond.methodLink "TopYard$Game" (55 : Nat) ({ cls := "TopYard$Game", name := "isFigure", desc := "(I)Z" } : Jvm.MethodName)) ∈ TT := mt4 (i := 153) rfl rfl
theorem wd_475 : (Jvm.Cond.static ({ cls := "TopYard$Game", name := "isFigure", desc := "(I)Z" } : Jvm.MethodName)) ∈ TT := mt4 (i := 154) rfl rfl
theorem wd_476 : (Jvm.Cond.code ({ cls := "TopYard$Game", name := "isFigure", desc := "(I)Z" } : Jvm.MethodName) prog_5_method_13_code (1 : Nat) (Option.some Jvm.ClassFile.FieldType.boolean)) ∈ TT := mt4 (i := 155) rfl rfl
theorem wd_477 : (Jvm.Cond.methodLink "TopYard$Headings" (13 : Nat) ({ cls := "TopYard$Headings", name := "alongX", desc := "(I)I" } : Jvm.MethodName)) ∈ TT := mt2 (i := 114) rfl rfl
theorem wd_478 : (Jvm.Cond.static ({ cls := "TopYard$Headings", name := "alongX", desc := "(I)I" } : Jvm.MethodName)) ∈ TT := mt2 (i := 107) rfl rfl
theorem wd_479 : (Jvm.Cond.initialized "TopYard$Headings") ∈ TT := mt1 (i := 12) rfl rfl
theorem wd_480 : (Jvm.Cond.code ({ cls := "TopYard$Headings", name := "alongX", desc := "(I)I" } : Jvm.MethodName) prog_6_method_2_code (2 : Nat) (Option.some Jvm.ClassFile.FieldType.int)) ∈ TT := mt2 (i := 108) rfl rfl
theorem wd_481 : (Jvm.Cond.methodLink "TopYardLaw" (101 : Nat) ({ cls := "TopYardModel", name := "pays", desc := "(II)I" } : Jvm.MethodName)) ∈ TT := mt7 (i := 12) rfl rfl
theorem wd_482 : (Jvm.Cond.instanceMethod ({ cls := "TopYardModel", name := "pays", desc := "(II)I" } : Jvm.MethodName)) ∈ TT := mt7 (i := 13) rfl rfl
theorem wd_483 : (Jvm.Cond.selects "TopYardModel" ({ cls := "TopYardModel", name := "pays", desc := "(II)I" } : Jvm.MethodName) ({ cls := "TopYardModel", name := "pays", desc := "(II)I" } : Jvm.MethodName)) ∈ TT := mt7 (i := 14) rfl rfl
theorem wd_484 : (Jvm.Cond.code ({ cls := "TopYardModel", name := "pays", desc := "(II)I" } : Jvm.MethodName) prog_13_method_45_code (3 : Nat) (Option.some Jvm.ClassFile.FieldType.int)) ∈ TT := mt7 (i := 15) rfl rfl
theorem wd_485 : (Jvm.Cond.methodLink "TopYardLaw" (102 : Nat) ({ cls := "TopYard", name := "fill", desc := "()I" } : Jvm.MethodName)) ∈ TT := mt3 (i := 179) rfl rfl
theorem wd_486 : (Jvm.Cond.instanceMethod ({ cls := "TopYard", name := "fill", desc := "()I" } : Jvm.MethodName)) ∈ TT := mt3 (i := 180) rfl rfl
theorem wd_487 : (Jvm.Cond.selects "TopYard" ({ cls := "TopYard", name := "fill", desc := "()I" } : Jvm.MethodName) ({ cls := "TopYard", name := "fill", desc := "()I" } : Jvm.MethodName)) ∈ TT := mt3 (i := 181) rfl rfl
theorem wd_488 : (Jvm.Cond.code ({ cls := "TopYard", name := "fill", desc := "()I" } : Jvm.MethodName) prog_1_method_23_code (5 : Nat) (Option.some Jvm.ClassFile.FieldType.int)) ∈ TT := mt3 (i := 182) rfl rfl
theorem wd_489 : (Jvm.Cond.methodLink "TopYardLaw" (105 : Nat) ({ cls := "TopYardModel", name := "fill", desc := "()I" } : Jvm.MethodName)) ∈ TT := mt7 (i := 16) rfl rfl
theorem wd_490 : (Jvm.Cond.instanceMethod ({ cls := "TopYardModel", name := "fill", desc := "()I" } : Jvm.MethodName)) ∈ TT := mt7 (i := 17) rfl rfl
theorem wd_491 : (Jvm.Cond.selects "TopYardModel" ({ cls := "TopYardModel", name := "fill", desc := "()I" } : Jvm.MethodName) ({ cls := "TopYardModel", name := "fill", desc := "()I" } : Jvm.MethodName)) ∈ TT := mt7 (i := 18) rfl rfl
theorem wd_492 : (Jvm.Cond.code ({ cls := "TopYardModel", name := "fill", desc := "()I" } : Jvm.MethodName) prog_13_method_46_code (4 : Nat) (Option.some Jvm.ClassFile.FieldType.int)) ∈ TT := mt7 (i := 19) rfl rfl
theorem wd_493 : (Jvm.Cond.methodLink "TopYardLaw" (106 : Nat) ({ cls := "TopYard", name := "value", desc := "()I" } : Jvm.MethodName)) ∈ TT := mt3 (i := 195) rfl rfl
theorem wd_494 : (Jvm.Cond.instanceMethod ({ cls := "TopYard", name := "value", desc := "()I" } : Jvm.MethodName)) ∈ TT := mt3 (i := 196) rfl rfl
theorem wd_495 : (Jvm.Cond.selects "TopYard" ({ cls := "TopYard", name := "value", desc := "()I" } : Jvm.MethodName) ({ cls := "TopYard", name := "value", desc := "()I" } : Jvm.MethodName)) ∈ TT := mt3 (i := 197) rfl rfl
theorem wd_496 : (Jvm.Cond.code ({ cls := "TopYard", name := "value", desc := "()I" } : Jvm.MethodName) prog_1_method_24_code (1 : Nat) (Option.some Jvm.ClassFile.FieldType.int)) ∈ TT := mt3 (i := 198) rfl rfl
theorem wd_497 : (Jvm.Cond.methodLink "TopYardLaw" (109 : Nat) ({ cls := "TopYardModel", name := "value", desc := "()I" } : Jvm.MethodName)) ∈ TT := mt7 (i := 20) rfl rfl
theorem wd_498 : (Jvm.Cond.instanceMethod ({ cls := "TopYardModel", name := "value", desc := "()I" } : Jvm.MethodName)) ∈ TT := mt7 (i := 21) rfl rfl
theorem wd_499 : (Jvm.Cond.selects "TopYardModel" ({ cls := "TopYardModel", name := "value", desc := "()I" } : Jvm.MethodName) ({ cls := "TopYardModel", name := "value", desc := "()I" } : Jvm.MethodName)) ∈ TT := mt7 (i := 22) rfl rfl
theorem wd_500 : (Jvm.Cond.code ({ cls := "TopYardModel", name := "value", desc := "()I" } : Jvm.MethodName) prog_13_method_55_code (5 : Nat) (Option.some Jvm.ClassFile.FieldType.int)) ∈ TT := mt7 (i := 23) rfl rfl
theorem wd_501 : (Jvm.Cond.methodLink "TopYardLaw" (110 : Nat) ({ cls := "TopYard", name := "mix", desc := "(II)I" } : Jvm.MethodName)) ∈ TT := mt4 (i := 24) rfl rfl
theorem wd_502 : (Jvm.Cond.instanceMethod ({ cls := "TopYard", name := "mix", desc := "(II)I" } : Jvm.MethodName)) ∈ TT := mt4 (i := 25) rfl rfl
theorem wd_503 : (Jvm.Cond.selects "TopYard" ({ cls := "TopYard", name := "mix", desc := "(II)I" } : Jvm.MethodName) ({ cls := "TopYard", name := "mix", desc := "(II)I" } : Jvm.MethodName)) ∈ TT := mt4 (i := 26) rfl rfl
theorem wd_504 : (Jvm.Cond.code ({ cls := "TopYard", name := "mix", desc := "(II)I" } : Jvm.MethodName) prog_1_method_25_code (4 : Nat) (Option.some Jvm.ClassFile.FieldType.int)) ∈ TT := mt4 (i := 27) rfl rfl
theorem wd_505 : (Jvm.Cond.methodLink "TopYardLaw" (113 : Nat) ({ cls := "TopYardModel", name := "mix", desc := "(II)I" } : Jvm.MethodName)) ∈ TT := mt7 (i := 55) rfl rfl
theorem wd_506 : (Jvm.Cond.instanceMethod ({ cls := "TopYardModel", name := "mix", desc := "(II)I" } : Jvm.MethodName)) ∈ TT := mt7 (i := 56) rfl rfl
theorem wd_507 : (Jvm.Cond.selects "TopYardModel" ({ cls := "TopYardModel", name := "mix", desc := "(II)I" } : Jvm.MethodName) ({ cls := "TopYardModel", name := "mix", desc := "(II)I" } : Jvm.MethodName)) ∈ TT := mt7 (i := 57) rfl rfl
theorem wd_508 : (Jvm.Cond.code ({ cls := "TopYardModel", name := "mix", desc := "(II)I" } : Jvm.MethodName) prog_13_method_56_code (3 : Nat) (Option.some Jvm.ClassFile.FieldType.int)) ∈ TT := mt7 (i := 58) rfl rfl
theorem wd_509 : (Jvm.Cond.methodLink "TopYardLaw" (114 : Nat) ({ cls := "TopYard", name := "expected", desc := "(II)I" } : Jvm.MethodName)) ∈ TT := mt4 (i := 29) rfl rfl
theorem wd_510 : (Jvm.Cond.instanceMethod ({ cls := "TopYard", name := "expected", desc := "(II)I" } : Jvm.MethodName)) ∈ TT := mt4 (i := 30) rfl rfl
theorem wd_511 : (Jvm.Cond.selects "TopYard" ({ cls := "TopYard", name := "expected", desc := "(II)I" } : Jvm.MethodName) ({ cls := "TopYard", name := "expected", desc := "(II)I" } : Jvm.MethodName)) ∈ TT := mt4 (i := 31) rfl rfl
theorem wd_512 : (Jvm.Cond.code ({ cls := "TopYard", name := "expected", desc := "(II)I" } : Jvm.MethodName) prog_1_method_26_code (3 : Nat) (Option.some Jvm.ClassFile.FieldType.int)) ∈ TT := mt4 (i := 32) rfl rfl
theorem wd_513 : (Jvm.Cond.methodLink "TopYardLaw" (117 : Nat) ({ cls := "TopYardModel", name := "expected", desc := "(II)I" } : Jvm.MethodName)) ∈ TT := mt6 (i := 223) rfl rfl
theorem wd_514 : (Jvm.Cond.instanceMethod ({ cls := "TopYardModel", name := "expected", desc := "(II)I" } : Jvm.MethodName)) ∈ TT := mt6 (i := 224) rfl rfl
theorem wd_515 : (Jvm.Cond.selects "TopYardModel" ({ cls := "TopYardModel", name := "expected", desc := "(II)I" } : Jvm.MethodName) ({ cls := "TopYardModel", name := "expected", desc := "(II)I" } : Jvm.MethodName)) ∈ TT := mt6 (i := 225) rfl rfl
theorem wd_516 : (Jvm.Cond.code ({ cls := "TopYardModel", name := "expected", desc := "(II)I" } : Jvm.MethodName) prog_13_method_40_code (3 : Nat) (Option.some Jvm.ClassFile.FieldType.int)) ∈ TT := mt6 (i := 226) rfl rfl
theorem wd_517 : (Jvm.Cond.methodLink "TopYardLaw" (118 : Nat) ({ cls := "TopYard", name := "was", desc := "(III)I" } : Jvm.MethodName)) ∈ TT := mt4 (i := 33) rfl rfl
theorem wd_518 : (Jvm.Cond.instanceMethod ({ cls := "TopYard", name := "was", desc := "(III)I" } : Jvm.MethodName)) ∈ TT := mt4 (i := 34) rfl rfl
theorem wd_519 : (Jvm.Cond.selects "TopYard" ({ cls := "TopYard", name := "was", desc := "(III)I" } : Jvm.MethodName) ({ cls := "TopYard", name := "was", desc := "(III)I" } : Jvm.MethodName)) ∈ TT := mt4 (i := 35) rfl rfl
theorem wd_520 : (Jvm.Cond.code ({ cls := "TopYard", name := "was", desc := "(III)I" } : Jvm.MethodName) prog_1_method_27_code (4 : Nat) (Option.some Jvm.ClassFile.FieldType.int)) ∈ TT := mt4 (i := 36) rfl rfl
theorem wd_521 : (Jvm.Cond.methodLink "TopYardLaw" (121 : Nat) ({ cls := "TopYardModel", name := "was", desc := "(III)I" } : Jvm.MethodName)) ∈ TT := mt7 (i := 59) rfl rfl
theorem wd_522 : (Jvm.Cond.instanceMethod ({ cls := "TopYardModel", name := "was", desc := "(III)I" } : Jvm.MethodName)) ∈ TT := mt7 (i := 60) rfl rfl
theorem wd_523 : (Jvm.Cond.selects "TopYardModel" ({ cls := "TopYardModel", name := "was", desc := "(III)I" } : Jvm.MethodName) ({ cls := "TopYardModel", name := "was", desc := "(III)I" } : Jvm.MethodName)) ∈ TT := mt7 (i := 61) rfl rfl
theorem wd_524 : (Jvm.Cond.code ({ cls := "TopYardModel", name := "was", desc := "(III)I" } : Jvm.MethodName) prog_13_method_57_code (4 : Nat) (Option.some Jvm.ClassFile.FieldType.int)) ∈ TT := mt7 (i := 62) rfl rfl
theorem wd_525 : (Jvm.Cond.methodLink "TopYardLaw" (122 : Nat) ({ cls := "TopYard", name := "forget", desc := "()I" } : Jvm.MethodName)) ∈ TT := mt4 (i := 45) rfl rfl
theorem wd_526 : (Jvm.Cond.instanceMethod ({ cls := "TopYard", name := "forget", desc := "()I" } : Jvm.MethodName)) ∈ TT := mt4 (i := 46) rfl rfl
theorem wd_527 : (Jvm.Cond.selects "TopYard" ({ cls := "TopYard", name := "forget", desc := "()I" } : Jvm.MethodName) ({ cls := "TopYard", name := "forget", desc := "()I" } : Jvm.MethodName)) ∈ TT := mt4 (i := 47) rfl rfl
theorem wd_528 : (Jvm.Cond.code ({ cls := "TopYard", name := "forget", desc := "()I" } : Jvm.MethodName) prog_1_method_28_code (2 : Nat) (Option.some Jvm.ClassFile.FieldType.int)) ∈ TT := mt4 (i := 48) rfl rfl
theorem wd_529 : (Jvm.Cond.methodLink "TopYardLaw" (125 : Nat) ({ cls := "TopYardModel", name := "forget", desc := "()I" } : Jvm.MethodName)) ∈ TT := mt7 (i := 64) rfl rfl
theorem wd_530 : (Jvm.Cond.instanceMethod ({ cls := "TopYardModel", name := "forget", desc := "()I" } : Jvm.MethodName)) ∈ TT := mt7 (i := 65) rfl rfl
theorem wd_531 : (Jvm.Cond.selects "TopYardModel" ({ cls := "TopYardModel", name := "forget", desc := "()I" } : Jvm.MethodName) ({ cls := "TopYardModel", name := "forget", desc := "()I" } : Jvm.MethodName)) ∈ TT := mt7 (i := 66) rfl rfl
theorem wd_532 : (Jvm.Cond.code ({ cls := "TopYardModel", name := "forget", desc := "()I" } : Jvm.MethodName) prog_13_method_58_code (2 : Nat) (Option.some Jvm.ClassFile.FieldType.int)) ∈ TT := mt7 (i := 67) rfl rfl
theorem wd_533 : (Jvm.Cond.methodLink "TopYardLaw" (126 : Nat) ({ cls := "TopYard", name := "read", desc := "(I)I" } : Jvm.MethodName)) ∈ TT := mt4 (i := 49) rfl rfl
theorem wd_534 : (Jvm.Cond.instanceMethod ({ cls := "TopYard", name := "read", desc := "(I)I" } : Jvm.MethodName)) ∈ TT := mt4 (i := 50) rfl rfl
theorem wd_535 : (Jvm.Cond.selects "TopYard" ({ cls := "TopYard", name := "read", desc := "(I)I" } : Jvm.MethodName) ({ cls := "TopYard", name := "read", desc := "(I)I" } : Jvm.MethodName)) ∈ TT := mt4 (i := 51) rfl rfl
theorem wd_536 : (Jvm.Cond.code ({ cls := "TopYard", name := "read", desc := "(I)I" } : Jvm.MethodName) prog_1_method_29_code (8 : Nat) (Option.some Jvm.ClassFile.FieldType.int)) ∈ TT := mt4 (i := 52) rfl rfl
theorem wd_537 : (Jvm.Cond.methodLink "TopYardLaw" (129 : Nat) ({ cls := "TopYardModel", name := "read", desc := "(I)I" } : Jvm.MethodName)) ∈ TT := mt7 (i := 68) rfl rfl
theorem wd_538 : (Jvm.Cond.instanceMethod ({ cls := "TopYardModel", name := "read", desc := "(I)I" } : Jvm.MethodName)) ∈ TT := mt7 (i := 69) rfl rfl
theorem wd_539 : (Jvm.Cond.selects "TopYardModel" ({ cls := "TopYardModel", name := "read", desc := "(I)I" } : Jvm.MethodName) ({ cls := "TopYardModel", name := "read", desc := "(I)I" } : Jvm.MethodName)) ∈ TT := mt7 (i := 70) rfl rfl
theorem wd_540 : (Jvm.Cond.code ({ cls := "TopYardModel", name := "read", desc := "(I)I" } : Jvm.MethodName) prog_13_method_59_code (3 : Nat) (Option.some Jvm.ClassFile.FieldType.int)) ∈ TT := mt7 (i := 71) rfl rfl
theorem wd_541 : (Jvm.Cond.methodLink "TopYardLaw" (13 : Nat) ({ cls := "TopYard", name := "turn", desc := "(II)I" } : Jvm.MethodName)) ∈ TT := mt2 (i := 99) rfl rfl
theorem wd_542 : (Jvm.Cond.instanceMethod ({ cls := "TopYard", name := "turn", desc := "(II)I" } : Jvm.MethodName)) ∈ TT := mt2 (i := 100) rfl rfl
theorem wd_543 : (Jvm.Cond.selects "TopYard" ({ cls := "TopYard", name := "turn", desc := "(II)I" } : Jvm.MethodName) ({ cls := "TopYard", name := "turn", desc := "(II)I" } : Jvm.MethodName)) ∈ TT := mt2 (i := 101) rfl rfl
theorem wd_544 : (Jvm.Cond.code ({ cls := "TopYard", name := "turn", desc := "(II)I" } : Jvm.MethodName) prog_1_method_2_code (3 : Nat) (Option.some Jvm.ClassFile.FieldType.int)) ∈ TT := mt2 (i := 102) rfl rfl
theorem wd_545 : (Jvm.Cond.methodLink "TopYardLaw" (130 : Nat) ({ cls := "TopYard", name := "worn", desc := "(II)I" } : Jvm.MethodName)) ∈ TT := mt4 (i := 65) rfl rfl
theorem wd_546 : (Jvm.Cond.instanceMethod ({ cls := "TopYard", name := "worn", desc := "(II)I" } : Jvm.MethodName)) ∈ TT := mt4 (i := 66) rfl rfl
theorem wd_547 : (Jvm.Cond.selects "TopYard" ({ cls := "TopYard", name := "worn", desc := "(II)I" } : Jvm.MethodName) ({ cls := "TopYard", name := "worn", desc := "(II)I" } : Jvm.MethodName)) ∈ TT := mt4 (i := 67) rfl rfl
theorem wd_548 : (Jvm.Cond.code ({ cls := "TopYard", name := "worn", desc := "(II)I" } : Jvm.MethodName) prog_1_method_30_code (3 : Nat) (Option.some Jvm.ClassFile.FieldType.int)) ∈ TT := mt4 (i := 68) rfl rfl
theorem wd_549 : (Jvm.Cond.methodLink "TopYardLaw" (133 : Nat) ({ cls := "TopYardModel", name := "worn", desc := "(II)I" } : Jvm.MethodName)) ∈ TT := mt7 (i := 80) rfl rfl
theorem wd_550 : (Jvm.Cond.instanceMethod ({ cls := "TopYardModel", name := "worn", desc := "(II)I" } : Jvm.MethodName)) ∈ TT := mt7 (i := 81) rfl rfl
theorem wd_551 : (Jvm.Cond.selects "TopYardModel" ({ cls := "TopYardModel", name := "worn", desc := "(II)I" } : Jvm.MethodName) ({ cls := "TopYardModel", name := "worn", desc := "(II)I" } : Jvm.MethodName)) ∈ TT := mt7 (i := 82) rfl rfl
theorem wd_552 : (Jvm.Cond.code ({ cls := "TopYardModel", name := "worn", desc := "(II)I" } : Jvm.MethodName) prog_13_method_63_code (3 : Nat) (Option.some Jvm.ClassFile.FieldType.int)) ∈ TT := mt7 (i := 83) rfl rfl
theorem wd_553 : (Jvm.Cond.methodLink "TopYardLaw" (134 : Nat) ({ cls := "TopYard", name := "most", desc := "()I" } : Jvm.MethodName)) ∈ TT := mt4 (i := 101) rfl rfl
theorem wd_554 : (Jvm.Cond.instanceMethod ({ cls := "TopYard", name := "most", desc := "()I" } : Jvm.MethodName)) ∈ TT := mt4 (i := 102) rfl rfl
theorem wd_555 : (Jvm.Cond.selects "TopYard" ({ cls := "TopYard", name := "most", desc := "()I" } : Jvm.MethodName) ({ cls := "TopYard", name := "most", desc := "()I" } : Jvm.MethodName)) ∈ TT := mt4 (i := 103) rfl rfl
theorem wd_556 : (Jvm.Cond.code ({ cls := "TopYard", name := "most", desc := "()I" } : Jvm.MethodName) prog_1_method_31_code (4 : Nat) (Option.some Jvm.ClassFile.FieldType.int)) ∈ TT := mt4 (i := 104) rfl rfl
theorem wd_557 : (Jvm.Cond.methodLink "TopYardLaw" (137 : Nat) ({ cls := "TopYardModel", name := "most", desc := "()I" } : Jvm.MethodName)) ∈ TT := mt7 (i := 96) rfl rfl
theorem wd_558 : (Jvm.Cond.instanceMethod ({ cls := "TopYardModel", name := "most", desc := "()I" } : Jvm.MethodName)) ∈ TT := mt7 (i := 97) rfl rfl
theorem wd_559 : (Jvm.Cond.selects "TopYardModel" ({ cls := "TopYardModel", name := "most", desc := "()I" } : Jvm.MethodName) ({ cls := "TopYardModel", name := "most", desc := "()I" } : Jvm.MethodName)) ∈ TT := mt7 (i := 98) rfl rfl
theorem wd_560 : (Jvm.Cond.code ({ cls := "TopYardModel", name := "most", desc := "()I" } : Jvm.MethodName) prog_13_method_64_code (4 : Nat) (Option.some Jvm.ClassFile.FieldType.int)) ∈ TT := mt7 (i := 99) rfl rfl
theorem wd_561 : (Jvm.Cond.methodLink "TopYardLaw" (138 : Nat) ({ cls := "TopYard", name := "explained", desc := "(II)I" } : Jvm.MethodName)) ∈ TT := mt4 (i := 106) rfl rfl
theorem wd_562 : (Jvm.Cond.instanceMethod ({ cls := "TopYard", name := "explained", desc := "(II)I" } : Jvm.MethodName)) ∈ TT := mt4 (i := 107) rfl rfl
theorem wd_563 : (Jvm.Cond.selects "TopYard" ({ cls := "TopYard", name := "explained", desc := "(II)I" } : Jvm.MethodName) ({ cls := "TopYard", name := "explained", desc := "(II)I" } : Jvm.MethodName)) ∈ TT := mt4 (i := 108) rfl rfl
theorem wd_564 : (Jvm.Cond.code ({ cls := "TopYard", name := "explained", desc := "(II)I" } : Jvm.MethodName) prog_1_method_32_code (9 : Nat) (Option.some Jvm.ClassFile.FieldType.int)) ∈ TT := mt4 (i := 109) rfl rfl
theorem wd_565 : (Jvm.Cond.methodLink "TopYardLaw" (141 : Nat) ({ cls := "TopYardModel", name := "explained", desc := "(II)I" } : Jvm.MethodName)) ∈ TT := mt7 (i := 100) rfl rfl
theorem wd_566 : (Jvm.Cond.instanceMethod ({ cls := "TopYardModel", name := "explained", desc := "(II)I" } : Jvm.MethodName)) ∈ TT := mt7 (i := 101) rfl rfl
theorem wd_567 : (Jvm.Cond.selects "TopYardModel" ({ cls := "TopYardModel", name := "explained", desc := "(II)I" } : Jvm.MethodName) ({ cls := "TopYardModel", name := "explained", desc := "(II)I" } : Jvm.MethodName)) ∈ TT := mt7 (i := 102) rfl rfl
theorem wd_568 : (Jvm.Cond.code ({ cls := "TopYardModel", name := "explained", desc := "(II)I" } : Jvm.MethodName) prog_13_method_65_code (9 : Nat) (Option.some Jvm.ClassFile.FieldType.int)) ∈ TT := mt7 (i := 103) rfl rfl
theorem wd_569 : (Jvm.Cond.methodLink "TopYardLaw" (142 : Nat) ({ cls := "TopYard", name := "type", desc := "(I)I" } : Jvm.MethodName)) ∈ TT := mt4 (i := 114) rfl rfl
theorem wd_570 : (Jvm.Cond.instanceMethod ({ cls := "TopYard", name := "type", desc := "(I)I" } : Jvm.MethodName)) ∈ TT := mt4 (i := 115) rfl rfl
theorem wd_571 : (Jvm.Cond.selects "TopYard" ({ cls := "TopYard", name := "type", desc := "(I)I" } : Jvm.MethodName) ({ cls := "TopYard", name := "type", desc := "(I)I" } : Jvm.MethodName)) ∈ TT := mt4 (i := 116) rfl rfl
theorem wd_572 : (Jvm.Cond.code ({ cls := "TopYard", name := "type", desc := "(I)I" } : Jvm.MethodName) prog_1_method_33_code (2 : Nat) (Option.some Jvm.ClassFile.FieldType.int)) ∈ TT := mt4 (i := 117) rfl rfl
theorem wd_573 : (Jvm.Cond.methodLink "TopYardLaw" (145 : Nat) ({ cls := "TopYardModel", name := "type", desc := "(I)I" } : Jvm.MethodName)) ∈ TT := mt7 (i := 104) rfl rfl
theorem wd_574 : (Jvm.Cond.instanceMethod ({ cls := "TopYardModel", name := "type", desc := "(I)I" } : Jvm.MethodName)) ∈ TT := mt7 (i := 105) rfl rfl
theorem wd_575 : (Jvm.Cond.selects "TopYardModel" ({ cls := "TopYardModel", name := "type", desc := "(I)I" } : Jvm.MethodName) ({ cls := "TopYardModel", name := "type", desc := "(I)I" } : Jvm.MethodName)) ∈ TT := mt7 (i := 106) rfl rfl
theorem wd_576 : (Jvm.Cond.code ({ cls := "TopYardModel", name := "type", desc := "(I)I" } : Jvm.MethodName) prog_13_method_66_code (2 : Nat) (Option.some Jvm.ClassFile.FieldType.int)) ∈ TT := mt7 (i := 107) rfl rfl
theorem wd_577 : (Jvm.Cond.methodLink "TopYardLaw" (146 : Nat) ({ cls := "TopYard", name := "wipe", desc := "()I" } : Jvm.MethodName)) ∈ TT := mt4 (i := 122) rfl rfl
theorem wd_578 : (Jvm.Cond.instanceMethod ({ cls := "TopYard", name := "wipe", desc := "()I" } : Jvm.MethodName)) ∈ TT := mt4 (i := 123) rfl rfl
theorem wd_579 : (Jvm.Cond.selects "TopYard" ({ cls := "TopYard", name := "wipe", desc := "()I" } : Jvm.MethodName) ({ cls := "TopYard", name := "wipe", desc := "()I" } : Jvm.MethodName)) ∈ TT := mt4 (i := 124) rfl rfl
theorem wd_580 : (Jvm.Cond.code ({ cls := "TopYard", name := "wipe", desc := "()I" } : Jvm.MethodName) prog_1_method_34_code (2 : Nat) (Option.some Jvm.ClassFile.FieldType.int)) ∈ TT := mt4 (i := 125) rfl rfl
theorem wd_581 : (Jvm.Cond.methodLink "TopYardLaw" (149 : Nat) ({ cls := "TopYardModel", name := "wipe", desc := "()I" } : Jvm.MethodName)) ∈ TT := mt7 (i := 109) rfl rfl
theorem wd_582 : (Jvm.Cond.instanceMethod ({ cls := "TopYardModel", name := "wipe", desc := "()I" } : Jvm.MethodName)) ∈ TT := mt7 (i := 110) rfl rfl
theorem wd_583 : (Jvm.Cond.selects "TopYardModel" ({ cls := "TopYardModel", name := "wipe", desc := "()I" } : Jvm.MethodName) ({ cls := "TopYardModel", name := "wipe", desc := "()I" } : Jvm.MethodName)) ∈ TT := mt7 (i := 111) rfl rfl
theorem wd_584 : (Jvm.Cond.code ({ cls := "TopYardModel", name := "wipe", desc := "()I" } : Jvm.MethodName) prog_13_method_67_code (2 : Nat) (Option.some Jvm.ClassFile.FieldType.int)) ∈ TT := mt7 (i := 112) rfl rfl
theorem wd_585 : (Jvm.Cond.methodLink "TopYardLaw" (150 : Nat) ({ cls := "TopYard", name := "fault", desc := "()I" } : Jvm.MethodName)) ∈ TT := mt4 (i := 126) rfl rfl
theorem wd_586 : (Jvm.Cond.instanceMethod ({ cls := "TopYard", name := "fault", desc := "()I" } : Jvm.MethodName)) ∈ TT := mt4 (i := 127) rfl rfl
theorem wd_587 : (Jvm.Cond.selects "TopYard" ({ cls := "TopYard", name := "fault", desc := "()I" } : Jvm.MethodName) ({ cls := "TopYard", name := "fault", desc := "()I" } : Jvm.MethodName)) ∈ TT := mt4 (i := 128) rfl rfl
theorem wd_588 : (Jvm.Cond.code ({ cls := "TopYard", name := "fault", desc := "()I" } : Jvm.MethodName) prog_1_method_35_code (1 : Nat) (Option.some Jvm.ClassFile.FieldType.int)) ∈ TT := mt4 (i := 129) rfl rfl
theorem wd_589 : (Jvm.Cond.methodLink "TopYardLaw" (153 : Nat) ({ cls := "TopYardModel", name := "fault", desc := "()I" } : Jvm.MethodName)) ∈ TT := mt7 (i := 113) rfl rfl
theorem wd_590 : (Jvm.Cond.instanceMethod ({ cls := "TopYardModel", name := "fault", desc := "()I" } : Jvm.MethodName)) ∈ TT := mt7 (i := 114) rfl rfl
theorem wd_591 : (Jvm.Cond.selects "TopYardModel" ({ cls := "TopYardModel", name := "fault", desc := "()I" } : Jvm.MethodName) ({ cls := "TopYardModel", name := "fault", desc := "()I" } : Jvm.MethodName)) ∈ TT := mt7 (i := 115) rfl rfl
theorem wd_592 : (Jvm.Cond.code ({ cls := "TopYardModel", name := "fault", desc := "()I" } : Jvm.MethodName) prog_13_method_72_code (1 : Nat) (Option.some Jvm.ClassFile.FieldType.int)) ∈ TT := mt7 (i := 116) rfl rfl
theorem wd_593 : (Jvm.Cond.methodLink "TopYardLaw" (154 : Nat) ({ cls := "TopYard", name := "play", desc := "(II)I" } : Jvm.MethodName)) ∈ TT := mt4 (i := 164) rfl rfl
theorem wd_594 : (Jvm.Cond.instanceMethod ({ cls := "TopYard", name := "play", desc := "(II)I" } : Jvm.MethodName)) ∈ TT := mt4 (i := 165) rfl rfl
theorem wd_595 : (Jvm.Cond.selects "TopYard" ({ cls := "TopYard", name := "play", desc := "(II)I" } : Jvm.MethodName) ({ cls := "TopYard", name := "play", desc := "(II)I" } : Jvm.MethodName)) ∈ TT := mt4 (i := 166) rfl rfl
theorem wd_596 : (Jvm.Cond.code ({ cls := "TopYard", name := "play", desc := "(II)I" } : Jvm.MethodName) prog_1_method_36_code (4 : Nat) (Option.some Jvm.ClassFile.FieldType.int)) ∈ TT := mt4 (i := 167) rfl rfl
theorem wd_597 : (Jvm.Cond.methodLink "TopYardLaw" (157 : Nat) ({ cls := "TopYardModel", name := "play", desc := "(II)I" } : Jvm.MethodName)) ∈ TT := mt7 (i := 133) rfl rfl
theorem wd_598 : (Jvm.Cond.instanceMethod ({ cls := "TopYardModel", name := "play", desc := "(II)I" } : Jvm.MethodName)) ∈ TT := mt7 (i := 134) rfl rfl
theorem wd_599 : (Jvm.Cond.selects "TopYardModel" ({ cls := "TopYardModel", name := "play", desc := "(II)I" } : Jvm.MethodName) ({ cls := "TopYardModel", name := "play", desc := "(II)I" } : Jvm.MethodName)) ∈ TT := mt7 (i := 135) rfl rfl
theorem wd_600 : (Jvm.Cond.code ({ cls := "TopYardModel", name := "play", desc := "(II)I" } : Jvm.MethodName) prog_13_method_75_code (10 : Nat) (Option.some Jvm.ClassFile.FieldType.int)) ∈ TT := mt7 (i := 136) rfl rfl
theorem wd_601 : (Jvm.Cond.methodLink "TopYardLaw" (158 : Nat) ({ cls := "TopYard", name := "played", desc := "(I)I" } : Jvm.MethodName)) ∈ TT := mt4 (i := 209) rfl rfl
theorem wd_602 : (Jvm.Cond.instanceMethod ({ cls := "TopYard", name := "played", desc := "(I)I" } : Jvm.MethodName)) ∈ TT := mt4 (i := 210) rfl rfl
theorem wd_603 : (Jvm.Cond.selects "TopYard" ({ cls := "TopYard", name := "played", desc := "(I)I" } : Jvm.MethodName) ({ cls := "TopYard", name := "played", desc := "(I)I" } : Jvm.MethodName)) ∈ TT := mt4 (i := 211) rfl rfl
theorem wd_604 : (Jvm.Cond.code ({ cls := "TopYard", name := "played", desc := "(I)I" } : Jvm.MethodName) prog_1_method_37_code (2 : Nat) (Option.some Jvm.ClassFile.FieldType.int)) ∈ TT := mt4 (i := 212) rfl rfl
theorem wd_605 : (Jvm.Cond.methodLink "TopYardLaw" (161 : Nat) ({ cls := "TopYardModel", name := "played", desc := "(I)I" } : Jvm.MethodName)) ∈ TT := mt7 (i := 145) rfl rfl
theorem wd_606 : (Jvm.Cond.instanceMethod ({ cls := "TopYardModel", name := "played", desc := "(I)I" } : Jvm.MethodName)) ∈ TT := mt7 (i := 146) rfl rfl
theorem wd_607 : (Jvm.Cond.selects "TopYardModel" ({ cls := "TopYardModel", name := "played", desc := "(I)I" } : Jvm.MethodName) ({ cls := "TopYardModel", name := "played", desc := "(I)I" } : Jvm.MethodName)) ∈ TT := mt7 (i := 147) rfl rfl
theorem wd_608 : (Jvm.Cond.code ({ cls := "TopYardModel", name := "played", desc := "(I)I" } : Jvm.MethodName) prog_13_method_76_code (2 : Nat) (Option.some Jvm.ClassFile.FieldType.int)) ∈ TT := mt7 (i := 148) rfl rfl
theorem wd_609 : (Jvm.Cond.methodLink "TopYardLaw" (162 : Nat) ({ cls := "TopYard", name := "met", desc := "(II)I" } : Jvm.MethodName)) ∈ TT := mt4 (i := 213) rfl rfl
theorem wd_610 : (Jvm.Cond.instanceMethod ({ cls := "TopYard", name := "met", desc := "(II)I" } : Jvm.MethodName)) ∈ TT := mt4 (i := 214) rfl rfl
theorem wd_611 : (Jvm.Cond.selects "TopYard" ({ cls := "TopYard", name := "met", desc := "(II)I" } : Jvm.MethodName) ({ cls := "TopYard", name := "met", desc := "(II)I" } : Jvm.MethodName)) ∈ TT := mt4 (i := 215) rfl rfl
theorem wd_612 : (Jvm.Cond.code ({ cls := "TopYard", name := "met", desc := "(II)I" } : Jvm.MethodName) prog_1_method_38_code (3 : Nat) (Option.some Jvm.ClassFile.FieldType.int)) ∈ TT := mt4 (i := 216) rfl rfl
theorem wd_613 : (Jvm.Cond.methodLink "TopYardLaw" (165 : Nat) ({ cls := "TopYardModel", name := "met", desc := "(II)I" } : Jvm.MethodName)) ∈ TT := mt7 (i := 149) rfl rfl
theorem wd_614 : (Jvm.Cond.instanceMethod ({ cls := "TopYardModel", name := "met", desc := "(II)I" } : Jvm.MethodName)) ∈ TT := mt7 (i := 150) rfl rfl
theorem wd_615 : (Jvm.Cond.selects "TopYardModel" ({ cls := "TopYardModel", name := "met", desc := "(II)I" } : Jvm.MethodName) ({ cls := "TopYardModel", name := "met", desc := "(II)I" } : Jvm.MethodName)) ∈ TT := mt7 (i := 151) rfl rfl
theorem wd_616 : (Jvm.Cond.code ({ cls := "TopYardModel", name := "met", desc := "(II)I" } : Jvm.MethodName) prog_13_method_77_code (3 : Nat) (Option.some Jvm.ClassFile.FieldType.int)) ∈ TT := mt7 (i := 152) rfl rfl
theorem wd_617 : (Jvm.Cond.methodLink "TopYardLaw" (166 : Nat) ({ cls := "TopYard", name := "pairing", desc := "(II)I" } : Jvm.MethodName)) ∈ TT := mt4 (i := 217) rfl rfl
theorem wd_618 : (Jvm.Cond.instanceMethod ({ cls := "TopYard", name := "pairing", desc := "(II)I" } : Jvm.MethodName)) ∈ TT := mt4 (i := 218) rfl rfl
theorem wd_619 : (Jvm.Cond.selects "TopYard" ({ cls := "TopYard", name := "pairing", desc := "(II)I" } : Jvm.MethodName) ({ cls := "TopYard", name := "pairing", desc := "(II)I" } : Jvm.MethodName)) ∈ TT := mt4 (i := 219) rfl rfl
theorem wd_620 : (Jvm.Cond.code ({ cls := "TopYard", name := "pairing", desc := "(II)I" } : Jvm.MethodName) prog_1_method_39_code (3 : Nat) (Option.some Jvm.ClassFile.FieldType.int)) ∈ TT := mt4 (i := 220) rfl rfl
theorem wd_621 : (Jvm.Cond.methodLink "TopYardLaw" (169 : Nat) ({ cls := "TopYardModel", name := "pairing", desc := "(II)I" } : Jvm.MethodName)) ∈ TT := mt7 (i := 153) rfl rfl
theorem wd_622 : (Jvm.Cond.instanceMethod ({ cls := "TopYardModel", name := "pairing", desc := "(II)I" } : Jvm.MethodName)) ∈ TT := mt7 (i := 154) rfl rfl
theorem wd_623 : (Jvm.Cond.selects "TopYardModel" ({ cls := "TopYardModel", name := "pairing", desc := "(II)I" } : Jvm.MethodName) ({ cls := "TopYardModel", name := "pairing", desc := "(II)I" } : Jvm.MethodName)) ∈ TT := mt7 (i := 155) rfl rfl
theorem wd_624 : (Jvm.Cond.code ({ cls := "TopYardModel", name := "pairing", desc := "(II)I" } : Jvm.MethodName) prog_13_method_81_code (6 : Nat) (Option.some Jvm.ClassFile.FieldType.int)) ∈ TT := mt7 (i := 156) rfl rfl
theorem wd_625 : (Jvm.Cond.methodLink "TopYardLaw" (17 : Nat) ({ cls := "TopYardModel", name := "turn", desc := "(II)I" } : Jvm.MethodName)) ∈ TT := mt6 (i := 60) rfl rfl
theorem wd_626 : (Jvm.Cond.instanceMethod ({ cls := "TopYardModel", name := "turn", desc := "(II)I" } : Jvm.MethodName)) ∈ TT := mt6 (i := 61) rfl rfl
theorem wd_627 : (Jvm.Cond.selects "TopYardModel" ({ cls := "TopYardModel", name := "turn", desc := "(II)I" } : Jvm.MethodName) ({ cls := "TopYardModel", name := "turn", desc := "(II)I" } : Jvm.MethodName)) ∈ TT := mt6 (i := 62) rfl rfl
theorem wd_628 : (Jvm.Cond.code ({ cls := "TopYardModel", name := "turn", desc := "(II)I" } : Jvm.MethodName) prog_13_method_6_code (3 : Nat) (Option.some Jvm.ClassFile.FieldType.int)) ∈ TT := mt6 (i := 63) rfl rfl
theorem wd_629 : (Jvm.Cond.methodLink "TopYardLaw" (170 : Nat) ({ cls := "TopYard", name := "bag", desc := "(III)I" } : Jvm.MethodName)) ∈ TT := mt5 (i := 1) rfl rfl
theorem wd_630 : (Jvm.Cond.instanceMethod ({ cls := "TopYard", name := "bag", desc := "(III)I" } : Jvm.MethodName)) ∈ TT := mt5 (i := 2) rfl rfl
theorem wd_631 : (Jvm.Cond.selects "TopYard" ({ cls := "TopYard", name := "bag", desc := "(III)I" } : Jvm.MethodName) ({ cls := "TopYard", name := "bag", desc := "(III)I" } : Jvm.MethodName)) ∈ TT := mt5 (i := 3) rfl rfl
theorem wd_632 : (Jvm.Cond.code ({ cls := "TopYard", name := "bag", desc := "(III)I" } : Jvm.MethodName) prog_1_method_40_code (6 : Nat) (Option.some Jvm.ClassFile.FieldType.int)) ∈ TT := mt5 (i := 4) rfl rfl
theorem wd_633 : (Jvm.Cond.methodLink "TopYardLaw" (173 : Nat) ({ cls := "TopYardModel", name := "bag", desc := "(III)I" } : Jvm.MethodName)) ∈ TT := mt7 (i := 168) rfl rfl
theorem wd_634 : (Jvm.Cond.instanceMethod ({ cls := "TopYardModel", name := "bag", desc := "(III)I" } : Jvm.MethodName)) ∈ TT := mt7 (i := 169) rfl rfl
theorem wd_635 : (Jvm.Cond.selects "TopYardModel" ({ cls := "TopYardModel", name := "bag", desc := "(III)I" } : Jvm.MethodName) ({ cls := "TopYardModel", name := "bag", desc := "(III)I" } : Jvm.MethodName)) ∈ TT := mt7 (i := 170) rfl rfl
theorem wd_636 : (Jvm.Cond.code ({ cls := "TopYardModel", name := "bag", desc := "(III)I" } : Jvm.MethodName) prog_13_method_82_code (13 : Nat) (Option.some Jvm.ClassFile.FieldType.int)) ∈ TT := mt7 (i := 171) rfl rfl
theorem wd_637 : (Jvm.Cond.methodLink "TopYardLaw" (174 : Nat) ({ cls := "TopYard", name := "sheet", desc := "(III)I" } : Jvm.MethodName)) ∈ TT := mt5 (i := 25) rfl rfl
theorem wd_638 : (Jvm.Cond.instanceMethod ({ cls := "TopYard", name := "sheet", desc := "(III)I" } : Jvm.MethodName)) ∈ TT := mt5 (i := 26) rfl rfl
theorem wd_639 : (Jvm.Cond.selects "TopYard" ({ cls := "TopYard", name := "sheet", desc := "(III)I" } : Jvm.MethodName) ({ cls := "TopYard", name := "sheet", desc := "(III)I" } : Jvm.MethodName)) ∈ TT := mt5 (i := 27) rfl rfl
theorem wd_640 : (Jvm.Cond.code ({ cls := "TopYard", name := "sheet", desc := "(III)I" } : Jvm.MethodName) prog_1_method_41_code (5 : Nat) (Option.some Jvm.ClassFile.FieldType.int)) ∈ TT := mt5 (i := 28) rfl rfl
theorem wd_641 : (Jvm.Cond.methodLink "TopYardLaw" (177 : Nat) ({ cls := "TopYardModel", name := "sheet", desc := "(III)I" } : Jvm.MethodName)) ∈ TT := mt7 (i := 173) rfl rfl
theorem wd_642 : (Jvm.Cond.instanceMethod ({ cls := "TopYardModel", name := "sheet", desc := "(III)I" } : Jvm.MethodName)) ∈ TT := mt7 (i := 174) rfl rfl
theorem wd_643 : (Jvm.Cond.selects "TopYardModel" ({ cls := "TopYardModel", name := "sheet", desc := "(III)I" } : Jvm.MethodName) ({ cls := "TopYardModel", name := "sheet", desc := "(III)I" } : Jvm.MethodName)) ∈ TT := mt7 (i := 175) rfl rfl
theorem wd_644 : (Jvm.Cond.code ({ cls := "TopYardModel", name := "sheet", desc := "(III)I" } : Jvm.MethodName) prog_13_method_85_code (5 : Nat) (Option.some Jvm.ClassFile.FieldType.int)) ∈ TT := mt7 (i := 176) rfl rfl
theorem wd_645 : (Jvm.Cond.methodLink "TopYardLaw" (178 : Nat) ({ cls := "TopYard", name := "lose", desc := "(I)I" } : Jvm.MethodName)) ∈ TT := mt5 (i := 39) rfl rfl
theorem wd_646 : (Jvm.Cond.instanceMethod ({ cls := "TopYard", name := "lose", desc := "(I)I" } : Jvm.MethodName)) ∈ TT := mt5 (i := 40) rfl rfl
theorem wd_647 : (Jvm.Cond.selects "TopYard" ({ cls := "TopYard", name := "lose", desc := "(I)I" } : Jvm.MethodName) ({ cls := "TopYard", name := "lose", desc := "(I)I" } : Jvm.MethodName)) ∈ TT := mt5 (i := 41) rfl rfl
theorem wd_648 : (Jvm.Cond.code ({ cls := "TopYard", name := "lose", desc := "(I)I" } : Jvm.MethodName) prog_1_method_42_code (3 : Nat) (Option.some Jvm.ClassFile.FieldType.int)) ∈ TT := mt5 (i := 42) rfl rfl
theorem wd_649 : (Jvm.Cond.methodLink "TopYardLaw" (181 : Nat) ({ cls := "TopYardModel", name := "lose", desc := "(I)I" } : Jvm.MethodName)) ∈ TT := mt7 (i := 177) rfl rfl
theorem wd_650 : (Jvm.Cond.instanceMethod ({ cls := "TopYardModel", name := "lose", desc := "(I)I" } : Jvm.MethodName)) ∈ TT := mt7 (i := 178) rfl rfl
theorem wd_651 : (Jvm.Cond.selects "TopYardModel" ({ cls := "TopYardModel", name := "lose", desc := "(I)I" } : Jvm.MethodName) ({ cls := "TopYardModel", name := "lose", desc := "(I)I" } : Jvm.MethodName)) ∈ TT := mt7 (i := 179) rfl rfl
theorem wd_652 : (Jvm.Cond.code ({ cls := "TopYardModel", name := "lose", desc := "(I)I" } : Jvm.MethodName) prog_13_method_86_code (2 : Nat) (Option.some Jvm.ClassFile.FieldType.int)) ∈ TT := mt7 (i := 180) rfl rfl
theorem wd_653 : (Jvm.Cond.methodLink "TopYardLaw" (182 : Nat) ({ cls := "TopYard", name := "put", desc := "(IIII)I" } : Jvm.MethodName)) ∈ TT := mt5 (i := 43) rfl rfl
theorem wd_654 : (Jvm.Cond.instanceMethod ({ cls := "TopYard", name := "put", desc := "(IIII)I" } : Jvm.MethodName)) ∈ TT := mt5 (i := 44) rfl rfl
theorem wd_655 : (Jvm.Cond.selects "TopYard" ({ cls := "TopYard", name := "put", desc := "(IIII)I" } : Jvm.MethodName) ({ cls := "TopYard", name := "put", desc := "(IIII)I" } : Jvm.MethodName)) ∈ TT := mt5 (i := 45) rfl rfl
theorem wd_656 : (Jvm.Cond.code ({ cls := "TopYard", name := "put", desc := "(IIII)I" } : Jvm.MethodName) prog_1_method_43_code (7 : Nat) (Option.some Jvm.ClassFile.FieldType.int)) ∈ TT := mt5 (i := 46) rfl rfl
theorem wd_657 : (Jvm.Cond.methodLink "TopYardLaw" (186 : Nat) ({ cls := "TopYardModel", name := "put", desc := "(IIII)I" } : Jvm.MethodName)) ∈ TT := mt7 (i := 181) rfl rfl
theorem wd_658 : (Jvm.Cond.instanceMethod ({ cls := "TopYardModel", name := "put", desc := "(IIII)I" } : Jvm.MethodName)) ∈ TT := mt7 (i := 182) rfl rfl
theorem wd_659 : (Jvm.Cond.selects "TopYardModel" ({ cls := "TopYardModel", name := "put", desc := "(IIII)I" } : Jvm.MethodName) ({ cls := "TopYardModel", name := "put", desc := "(IIII)I" } : Jvm.MethodName)) ∈ TT := mt7 (i := 183) rfl rfl
theorem wd_660 : (Jvm.Cond.code ({ cls := "TopYardModel", name := "put", desc := "(IIII)I" } : Jvm.MethodName) prog_13_method_89_code (6 : Nat) (Option.some Jvm.ClassFile.FieldType.int)) ∈ TT := mt7 (i := 184) rfl rfl
theorem wd_661 : (Jvm.Cond.methodLink "TopYardLaw" (187 : Nat) ({ cls := "TopYard", name := "get", desc := "(III)I" } : Jvm.MethodName)) ∈ TT := mt5 (i := 59) rfl rfl
theorem wd_662 : (Jvm.Cond.instanceMethod ({ cls := "TopYard", name := "get", desc := "(III)I" } : Jvm.MethodName)) ∈ TT := mt5 (i := 60) rfl rfl
theorem wd_663 : (Jvm.Cond.selects "TopYard" ({ cls := "TopYard", name := "get", desc := "(III)I" } : Jvm.MethodName) ({ cls := "TopYard", name := "get", desc := "(III)I" } : Jvm.MethodName)) ∈ TT := mt5 (i := 61) rfl rfl
theorem wd_664 : (Jvm.Cond.code ({ cls := "TopYard", name := "get", desc := "(III)I" } : Jvm.MethodName) prog_1_method_44_code (6 : Nat) (Option.some Jvm.ClassFile.FieldType.int)) ∈ TT := mt5 (i := 62) rfl rfl
theorem wd_665 : (Jvm.Cond.methodLink "TopYardLaw" (190 : Nat) ({ cls := "TopYardModel", name := "get", desc := "(III)I" } : Jvm.MethodName)) ∈ TT := mt7 (i := 192) rfl rfl
theorem wd_666 : (Jvm.Cond.instanceMethod ({ cls := "TopYardModel", name := "get", desc := "(III)I" } : Jvm.MethodName)) ∈ TT := mt7 (i := 193) rfl rfl
theorem wd_667 : (Jvm.Cond.selects "TopYardModel" ({ cls := "TopYardModel", name := "get", desc := "(III)I" } : Jvm.MethodName) ({ cls := "TopYardModel", name := "get", desc := "(III)I" } : Jvm.MethodName)) ∈ TT := mt7 (i := 194) rfl rfl
theorem wd_668 : (Jvm.Cond.code ({ cls := "TopYardModel", name := "get", desc := "(III)I" } : Jvm.MethodName) prog_13_method_90_code (4 : Nat) (Option.some Jvm.ClassFile.FieldType.int)) ∈ TT := mt7 (i := 195) rfl rfl
theorem wd_669 : (Jvm.Cond.methodLink "TopYardLaw" (191 : Nat) ({ cls := "TopYard", name := "copy", desc := "(IIIII)I" } : Jvm.MethodName)) ∈ TT := mt5 (i := 63) rfl rfl
theorem wd_670 : (Jvm.Cond.instanceMethod ({ cls := "TopYard", name := "copy", desc := "(IIIII)I" } : Jvm.MethodName)) ∈ TT := mt5 (i := 64) rfl rfl
theorem wd_671 : (Jvm.Cond.selects "TopYard" ({ cls := "TopYard", name := "copy", desc := "(IIIII)I" } : Jvm.MethodName) ({ cls := "TopYard", name := "copy", desc := "(IIIII)I" } : Jvm.MethodName)) ∈ TT := mt5 (i := 65) rfl rfl
theorem wd_672 : (Jvm.Cond.code ({ cls := "TopYard", name := "copy", desc := "(IIIII)I" } : Jvm.MethodName) prog_1_method_45_code (8 : Nat) (Option.some Jvm.ClassFile.FieldType.int)) ∈ TT := mt5 (i := 66) rfl rfl
theorem wd_673 : (Jvm.Cond.methodLink "TopYardLaw" (194 : Nat) ({ cls := "TopYardModel", name := "copy", desc := "(IIIII)I" } : Jvm.MethodName)) ∈ TT := mt7 (i := 196) rfl rfl
theorem wd_674 : (Jvm.Cond.instanceMethod ({ cls := "TopYardModel", name := "copy", desc := "(IIIII)I" } : Jvm.MethodName)) ∈ TT := mt7 (i := 197) rfl rfl
theorem wd_675 : (Jvm.Cond.selects "TopYardModel" ({ cls := "TopYardModel", name := "copy", desc := "(IIIII)I" } : Jvm.MethodName) ({ cls := "TopYardModel", name := "copy", desc := "(IIIII)I" } : Jvm.MethodName)) ∈ TT := mt7 (i := 198) rfl rfl
theorem wd_676 : (Jvm.Cond.code ({ cls := "TopYardModel", name := "copy", desc := "(IIIII)I" } : Jvm.MethodName) prog_13_method_91_code (7 : Nat) (Option.some Jvm.ClassFile.FieldType.int)) ∈ TT := mt7 (i := 199) rfl rfl
theorem wd_677 : (Jvm.Cond.methodLink "TopYardLaw" (195 : Nat) ({ cls := "TopYard", name := "write", desc := "(II)I" } : Jvm.MethodName)) ∈ TT := mt5 (i := 72) rfl rfl
theorem wd_678 : (Jvm.Cond.instanceMethod ({ cls := "TopYard", name := "write", desc := "(II)I" } : Jvm.MethodName)) ∈ TT := mt5 (i := 73) rfl rfl
theorem wd_679 : (Jvm.Cond.selects "TopYard" ({ cls := "TopYard", name := "write", desc := "(II)I" } : Jvm.MethodName) ({ cls := "TopYard", name := "write", desc := "(II)I" } : Jvm.MethodName)) ∈ TT := mt5 (i := 74) rfl rfl
theorem wd_680 : (Jvm.Cond.code ({ cls := "TopYard", name := "write", desc := "(II)I" } : Jvm.MethodName) prog_1_method_46_code (7 : Nat) (Option.some Jvm.ClassFile.FieldType.int)) ∈ TT := mt5 (i := 75) rfl rfl
theorem wd_681 : (Jvm.Cond.methodLink "TopYardLaw" (198 : Nat) ({ cls := "TopYardModel", name := "write", desc := "(II)I" } : Jvm.MethodName)) ∈ TT := mt7 (i := 200) rfl rfl
theorem wd_682 : (Jvm.Cond.instanceMethod ({ cls := "TopYardModel", name := "write", desc := "(II)I" } : Jvm.MethodName)) ∈ TT := mt7 (i := 201) rfl rfl
theorem wd_683 : (Jvm.Cond.selects "TopYardModel" ({ cls := "TopYardModel", name := "write", desc := "(II)I" } : Jvm.MethodName) ({ cls := "TopYardModel", name := "write", desc := "(II)I" } : Jvm.MethodName)) ∈ TT := mt7 (i := 202) rfl rfl
theorem wd_684 : (Jvm.Cond.code ({ cls := "TopYardModel", name := "write", desc := "(II)I" } : Jvm.MethodName) prog_13_method_92_code (6 : Nat) (Option.some Jvm.ClassFile.FieldType.int)) ∈ TT := mt7 (i := 203) rfl rfl
theorem wd_685 : (Jvm.Cond.methodLink "TopYardLaw" (199 : Nat) ({ cls := "TopYard", name := "count", desc := "(I)I" } : Jvm.MethodName)) ∈ TT := mt5 (i := 77) rfl rfl
theorem wd_686 : (Jvm.Cond.instanceMethod ({ cls := "TopYard", name := "count", desc := "(I)I" } : Jvm.MethodName)) ∈ TT := mt5 (i := 78) rfl rfl
theorem wd_687 : (Jvm.Cond.selects "TopYard" ({ cls := "TopYard", name := "count", desc := "(I)I" } : Jvm.MethodName) ({ cls := "TopYard", name := "count", desc := "(I)I" } : Jvm.MethodName)) ∈ TT := mt5 (i := 79) rfl rfl
theorem wd_688 : (Jvm.Cond.code ({ cls := "TopYard", name := "count", desc := "(I)I" } : Jvm.MethodName) prog_1_method_47_code (2 : Nat) (Option.some Jvm.ClassFile.FieldType.int)) ∈ TT := mt5 (i := 80) rfl rfl
theorem wd_689 : (Jvm.Cond.methodLink "TopYardLaw" (202 : Nat) ({ cls := "TopYardModel", name := "count", desc := "(I)I" } : Jvm.MethodName)) ∈ TT := mt7 (i := 204) rfl rfl
theorem wd_690 : (Jvm.Cond.instanceMethod ({ cls := "TopYardModel", name := "count", desc := "(I)I" } : Jvm.MethodName)) ∈ TT := mt7 (i := 205) rfl rfl
theorem wd_691 : (Jvm.Cond.selects "TopYardModel" ({ cls := "TopYardModel", name := "count", desc := "(I)I" } : Jvm.MethodName) ({ cls := "TopYardModel", name := "count", desc := "(I)I" } : Jvm.MethodName)) ∈ TT := mt7 (i := 206) rfl rfl
theorem wd_692 : (Jvm.Cond.code ({ cls := "TopYardModel", name := "count", desc := "(I)I" } : Jvm.MethodName) prog_13_method_93_code (2 : Nat) (Option.some Jvm.ClassFile.FieldType.int)) ∈ TT := mt7 (i := 207) rfl rfl
theorem wd_693 : (Jvm.Cond.methodLink "TopYardLaw" (203 : Nat) ({ cls := "TopYard", name := "digest", desc := "()J" } : Jvm.MethodName)) ∈ TT := mt5 (i := 81) rfl rfl
theorem wd_694 : (Jvm.Cond.instanceMethod ({ cls := "TopYard", name := "digest", desc := "()J" } : Jvm.MethodName)) ∈ TT := mt5 (i := 82) rfl rfl
theorem wd_695 : (Jvm.Cond.selects "TopYard" ({ cls := "TopYard", name := "digest", desc := "()J" } : Jvm.MethodName) ({ cls := "TopYard", name := "digest", desc := "()J" } : Jvm.MethodName)) ∈ TT := mt5 (i := 83) rfl rfl
theorem wd_696 : (Jvm.Cond.code ({ cls := "TopYard", name := "digest", desc := "()J" } : Jvm.MethodName) prog_1_method_48_code (5 : Nat) (Option.some Jvm.ClassFile.FieldType.long)) ∈ TT := mt5 (i := 84) rfl rfl
theorem wd_697 : (Jvm.Cond.methodLink "TopYardLaw" (207 : Nat) ({ cls := "TopYardModel", name := "digest", desc := "()J" } : Jvm.MethodName)) ∈ TT := mt7 (i := 208) rfl rfl
theorem wd_698 : (Jvm.Cond.instanceMethod ({ cls := "TopYardModel", name := "digest", desc := "()J" } : Jvm.MethodName)) ∈ TT := mt7 (i := 209) rfl rfl
theorem wd_699 : (Jvm.Cond.selects "TopYardModel" ({ cls := "TopYardModel", name := "digest", desc := "()J" } : Jvm.MethodName) ({ cls := "TopYardModel", name := "digest", desc := "()J" } : Jvm.MethodName)) ∈ TT := mt7 (i := 210) rfl rfl
theorem wd_700 : (Jvm.Cond.code ({ cls := "TopYardModel", name := "digest", desc := "()J" } : Jvm.MethodName) prog_13_method_94_code (5 : Nat) (Option.some Jvm.ClassFile.FieldType.long)) ∈ TT := mt7 (i := 211) rfl rfl
theorem wd_701 : (Jvm.Cond.methodLink "TopYardLaw" (22 : Nat) ({ cls := "TopYardModel", name := "top", desc := "(IIIII)I" } : Jvm.MethodName)) ∈ TT := mt6 (i := 76) rfl rfl
theorem wd_702 : (Jvm.Cond.instanceMethod ({ cls := "TopYardModel", name := "top", desc := "(IIIII)I" } : Jvm.MethodName)) ∈ TT := mt6 (i := 77) rfl rfl
theorem wd_703 : (Jvm.Cond.selects "TopYardModel" ({ cls := "TopYardModel", name := "top", desc := "(IIIII)I" } : Jvm.MethodName) ({ cls := "TopYardModel", name := "top", desc := "(IIIII)I" } : Jvm.MethodName)) ∈ TT := mt6 (i := 78) rfl rfl
theorem wd_704 : (Jvm.Cond.code ({ cls := "TopYardModel", name := "top", desc := "(IIIII)I" } : Jvm.MethodName) prog_13_method_9_code (6 : Nat) (Option.some Jvm.ClassFile.FieldType.int)) ∈ TT := mt6 (i := 79) rfl rfl
theorem wd_705 : (Jvm.Cond.methodLink "TopYardLaw" (23 : Nat) ({ cls := "TopYard", name := "about", desc := "(II)I" } : Jvm.MethodName)) ∈ TT := mt2 (i := 158) rfl rfl
theorem wd_706 : (Jvm.Cond.instanceMethod ({ cls := "TopYard", name := "about", desc := "(II)I" } : Jvm.MethodName)) ∈ TT := mt2 (i := 159) rfl rfl
theorem wd_707 : (Jvm.Cond.selects "TopYard" ({ cls := "TopYard", name := "about", desc := "(II)I" } : Jvm.MethodName) ({ cls := "TopYard", name := "about", desc := "(II)I" } : Jvm.MethodName)) ∈ TT := mt2 (i := 160) rfl rfl
theorem wd_708 : (Jvm.Cond.code ({ cls := "TopYard", name := "about", desc := "(II)I" } : Jvm.MethodName) prog_1_method_4_code (4 : Nat) (Option.some Jvm.ClassFile.FieldType.int)) ∈ TT := mt2 (i := 161) rfl rfl
theorem wd_709 : (Jvm.Cond.methodLink "TopYardLaw" (26 : Nat) ({ cls := "TopYardModel", name := "about", desc := "(II)I" } : Jvm.MethodName)) ∈ TT := mt6 (i := 87) rfl rfl
theorem wd_710 : (Jvm.Cond.instanceMethod ({ cls := "TopYardModel", name := "about", desc := "(II)I" } : Jvm.MethodName)) ∈ TT := mt6 (i := 88) rfl rfl
theorem wd_711 : (Jvm.Cond.selects "TopYardModel" ({ cls := "TopYardModel", name := "about", desc := "(II)I" } : Jvm.MethodName) ({ cls := "TopYardModel", name := "about", desc := "(II)I" } : Jvm.MethodName)) ∈ TT := mt6 (i := 89) rfl rfl
theorem wd_712 : (Jvm.Cond.code ({ cls := "TopYardModel", name := "about", desc := "(II)I" } : Jvm.MethodName) prog_13_method_10_code (3 : Nat) (Option.some Jvm.ClassFile.FieldType.int)) ∈ TT := mt6 (i := 90) rfl rfl
theorem wd_713 : (Jvm.Cond.methodLink "TopYardLaw" (27 : Nat) ({ cls := "TopYard", name := "wear", desc := "(II)I" } : Jvm.MethodName)) ∈ TT := mt2 (i := 166) rfl rfl
theorem wd_714 : (Jvm.Cond.instanceMethod ({ cls := "TopYard", name := "wear", desc := "(II)I" } : Jvm.MethodName)) ∈ TT := mt2 (i := 167) rfl rfl
theorem wd_715 : (Jvm.Cond.selects "TopYard" ({ cls := "TopYard", name := "wear", desc := "(II)I" } : Jvm.MethodName) ({ cls := "TopYard", name := "wear", desc := "(II)I" } : Jvm.MethodName)) ∈ TT := mt2 (i := 168) rfl rfl
theorem wd_716 : (Jvm.Cond.code ({ cls := "TopYard", name := "wear", desc := "(II)I" } : Jvm.MethodName) prog_1_method_5_code (5 : Nat) (Option.some Jvm.ClassFile.FieldType.int)) ∈ TT := mt2 (i := 169) rfl rfl
theorem wd_717 : (Jvm.Cond.methodLink "TopYardLaw" (30 : Nat) ({ cls := "TopYardModel", name := "wear", desc := "(II)I" } : Jvm.MethodName)) ∈ TT := mt6 (i := 95) rfl rfl
theorem wd_718 : (Jvm.Cond.instanceMethod ({ cls := "TopYardModel", name := "wear", desc := "(II)I" } : Jvm.MethodName)) ∈ TT := mt6 (i := 96) rfl rfl
theorem wd_719 : (Jvm.Cond.selects "TopYardModel" ({ cls := "TopYardModel", name := "wear", desc := "(II)I" } : Jvm.MethodName) ({ cls := "TopYardModel", name := "wear", desc := "(II)I" } : Jvm.MethodName)) ∈ TT := mt6 (i := 97) rfl rfl
theorem wd_720 : (Jvm.Cond.code ({ cls := "TopYardModel", name := "wear", desc := "(II)I" } : Jvm.MethodName) prog_13_method_11_code (4 : Nat) (Option.some Jvm.ClassFile.FieldType.int)) ∈ TT := mt6 (i := 98) rfl rfl
theorem wd_721 : (Jvm.Cond.methodLink "TopYardLaw" (31 : Nat) ({ cls := "TopYard", name := "give", desc := "(II)I" } : Jvm.MethodName)) ∈ TT := mt2 (i := 170) rfl rfl
theorem wd_722 : (Jvm.Cond.instanceMethod ({ cls := "TopYard", name := "give", desc := "(II)I" } : Jvm.MethodName)) ∈ TT := mt2 (i := 171) rfl rfl
theorem wd_723 : (Jvm.Cond.selects "TopYard" ({ cls := "TopYard", name := "give", desc := "(II)I" } : Jvm.MethodName) ({ cls := "TopYard", name := "give", desc := "(II)I" } : Jvm.MethodName)) ∈ TT := mt2 (i := 172) rfl rfl
theorem wd_724 : (Jvm.Cond.code ({ cls := "TopYard", name := "give", desc := "(II)I" } : Jvm.MethodName) prog_1_method_6_code (5 : Nat) (Option.some Jvm.ClassFile.FieldType.int)) ∈ TT := mt2 (i := 173) rfl rfl
theorem wd_725 : (Jvm.Cond.methodLink "TopYardLaw" (34 : Nat) ({ cls := "TopYardModel", name := "give", desc := "(II)I" } : Jvm.MethodName)) ∈ TT := mt6 (i := 99) rfl rfl
theorem wd_726 : (Jvm.Cond.instanceMethod ({ cls := "TopYardModel", name := "give", desc := "(II)I" } : Jvm.MethodName)) ∈ TT := mt6 (i := 100) rfl rfl
theorem wd_727 : (Jvm.Cond.selects "TopYardModel" ({ cls := "TopYardModel", name := "give", desc := "(II)I" } : Jvm.MethodName) ({ cls := "TopYardModel", name := "give", desc := "(II)I" } : Jvm.MethodName)) ∈ TT := mt6 (i := 101) rfl rfl
theorem wd_728 : (Jvm.Cond.code ({ cls := "TopYardModel", name := "give", desc := "(II)I" } : Jvm.MethodName) prog_13_method_12_code (4 : Nat) (Option.some Jvm.ClassFile.FieldType.int)) ∈ TT := mt6 (i := 102) rfl rfl
theorem wd_729 : (Jvm.Cond.methodLink "TopYardLaw" (35 : Nat) ({ cls := "TopYard", name := "bowl", desc := "(II)I" } : Jvm.MethodName)) ∈ TT := mt2 (i := 174) rfl rfl
theorem wd_730 : (Jvm.Cond.instanceMethod ({ cls := "TopYard", name := "bowl", desc := "(II)I" } : Jvm.MethodName)) ∈ TT := mt2 (i := 175) rfl rfl
theorem wd_731 : (Jvm.Cond.selects "TopYard" ({ cls := "TopYard", name := "bowl", desc := "(II)I" } : Jvm.MethodName) ({ cls := "TopYard", name := "bowl", desc := "(II)I" } : Jvm.MethodName)) ∈ TT := mt2 (i := 176) rfl rfl
theorem wd_732 : (Jvm.Cond.code ({ cls := "TopYard", name := "bowl", desc := "(II)I" } : Jvm.MethodName) prog_1_method_7_code (4 : Nat) (Option.some Jvm.ClassFile.FieldType.int)) ∈ TT := mt2 (i := 177) rfl rfl
theorem wd_733 : (Jvm.Cond.methodLink "TopYardLaw" (38 : Nat) ({ cls := "TopYardModel", name := "bowl", desc := "(II)I" } : Jvm.MethodName)) ∈ TT := mt6 (i := 103) rfl rfl
theorem wd_734 : (Jvm.Cond.instanceMethod ({ cls := "TopYardModel", name := "bowl", desc := "(II)I" } : Jvm.MethodName)) ∈ TT := mt6 (i := 104) rfl rfl
theorem wd_735 : (Jvm.Cond.selects "TopYardModel" ({ cls := "TopYardModel", name := "bowl", desc := "(II)I" } : Jvm.MethodName) ({ cls := "TopYardModel", name := "bowl", desc := "(II)I" } : Jvm.MethodName)) ∈ TT := mt6 (i := 105) rfl rfl
theorem wd_736 : (Jvm.Cond.code ({ cls := "TopYardModel", name := "bowl", desc := "(II)I" } : Jvm.MethodName) prog_13_method_13_code (4 : Nat) (Option.some Jvm.ClassFile.FieldType.int)) ∈ TT := mt6 (i := 106) rfl rfl
theorem wd_737 : (Jvm.Cond.methodLink "TopYardLaw" (39 : Nat) ({ cls := "TopYard", name := "dent", desc := "(III)I" } : Jvm.MethodName)) ∈ TT := mt2 (i := 178) rfl rfl
theorem wd_738 : (Jvm.Cond.instanceMethod ({ cls := "TopYard", name := "dent", desc := "(III)I" } : Jvm.MethodName)) ∈ TT := mt2 (i := 179) rfl rfl
theorem wd_739 : (Jvm.Cond.selects "TopYard" ({ cls := "TopYard", name := "dent", desc := "(III)I" } : Jvm.MethodName) ({ cls := "TopYard", name := "dent", desc := "(III)I" } : Jvm.MethodName)) ∈ TT := mt2 (i := 180) rfl rfl
theorem wd_740 : (Jvm.Cond.code ({ cls := "TopYard", name := "dent", desc := "(III)I" } : Jvm.MethodName) prog_1_method_8_code (4 : Nat) (Option.some Jvm.ClassFile.FieldType.int)) ∈ TT := mt2 (i := 181) rfl rfl
theorem wd_741 : (Jvm.Cond.methodLink "TopYardLaw" (43 : Nat) ({ cls := "TopYardModel", name := "dent", desc := "(III)I" } : Jvm.MethodName)) ∈ TT := mt6 (i := 109) rfl rfl
theorem wd_742 : (Jvm.Cond.instanceMethod ({ cls := "TopYardModel", name := "dent", desc := "(III)I" } : Jvm.MethodName)) ∈ TT := mt6 (i := 110) rfl rfl
theorem wd_743 : (Jvm.Cond.selects "TopYardModel" ({ cls := "TopYardModel", name := "dent", desc := "(III)I" } : Jvm.MethodName) ({ cls := "TopYardModel", name := "dent", desc := "(III)I" } : Jvm.MethodName)) ∈ TT := mt6 (i := 111) rfl rfl
theorem wd_744 : (Jvm.Cond.code ({ cls := "TopYardModel", name := "dent", desc := "(III)I" } : Jvm.MethodName) prog_13_method_14_code (4 : Nat) (Option.some Jvm.ClassFile.FieldType.int)) ∈ TT := mt6 (i := 112) rfl rfl
theorem wd_745 : (Jvm.Cond.methodLink "TopYardLaw" (44 : Nat) ({ cls := "TopYard", name := "smooth", desc := "()I" } : Jvm.MethodName)) ∈ TT := mt2 (i := 190) rfl rfl
theorem wd_746 : (Jvm.Cond.instanceMethod ({ cls := "TopYard", name := "smooth", desc := "()I" } : Jvm.MethodName)) ∈ TT := mt2 (i := 191) rfl rfl
theorem wd_747 : (Jvm.Cond.selects "TopYard" ({ cls := "TopYard", name := "smooth", desc := "()I" } : Jvm.MethodName) ({ cls := "TopYard", name := "smooth", desc := "()I" } : Jvm.MethodName)) ∈ TT := mt2 (i := 192) rfl rfl
theorem wd_748 : (Jvm.Cond.code ({ cls := "TopYard", name := "smooth", desc := "()I" } : Jvm.MethodName) prog_1_method_9_code (2 : Nat) (Option.some Jvm.ClassFile.FieldType.int)) ∈ TT := mt2 (i := 193) rfl rfl
theorem wd_749 : (Jvm.Cond.methodLink "TopYardLaw" (48 : Nat) ({ cls := "TopYardModel", name := "smooth", desc := "()I" } : Jvm.MethodName)) ∈ TT := mt6 (i := 117) rfl rfl
theorem wd_750 : (Jvm.Cond.instanceMethod ({ cls := "TopYardModel", name := "smooth", desc := "()I" } : Jvm.MethodName)) ∈ TT := mt6 (i := 118) rfl rfl
theorem wd_751 : (Jvm.Cond.selects "TopYardModel" ({ cls := "TopYardModel", name := "smooth", desc := "()I" } : Jvm.MethodName) ({ cls := "TopYardModel", name := "smooth", desc := "()I" } : Jvm.MethodName)) ∈ TT := mt6 (i := 119) rfl rfl
theorem wd_752 : (Jvm.Cond.code ({ cls := "TopYardModel", name := "smooth", desc := "()I" } : Jvm.MethodName) prog_13_method_15_code (2 : Nat) (Option.some Jvm.ClassFile.FieldType.int)) ∈ TT := mt6 (i := 120) rfl rfl
theorem wd_753 : (Jvm.Cond.methodLink "TopYardLaw" (49 : Nat) ({ cls := "TopYard", name := "height", desc := "(III)I" } : Jvm.MethodName)) ∈ TT := mt2 (i := 199) rfl rfl
theorem wd_754 : (Jvm.Cond.instanceMethod ({ cls := "TopYard", name := "height", desc := "(III)I" } : Jvm.MethodName)) ∈ TT := mt2 (i := 200) rfl rfl
theorem wd_755 : (Jvm.Cond.selects "TopYard" ({ cls := "TopYard", name := "height", desc := "(III)I" } : Jvm.MethodName) ({ cls := "TopYard", name := "height", desc := "(III)I" } : Jvm.MethodName)) ∈ TT := mt2 (i := 201) rfl rfl
theorem wd_756 : (Jvm.Cond.code ({ cls := "TopYard", name := "height", desc := "(III)I" } : Jvm.MethodName) prog_1_method_10_code (4 : Nat) (Option.some Jvm.ClassFile.FieldType.int)) ∈ TT := mt2 (i := 202) rfl rfl
theorem wd_757 : (Jvm.Cond.methodLink "TopYardLaw" (52 : Nat) ({ cls := "TopYardModel", name := "height", desc := "(III)I" } : Jvm.MethodName)) ∈ TT := mt6 (i := 121) rfl rfl
theorem wd_758 : (Jvm.Cond.instanceMethod ({ cls := "TopYardModel", name := "height", desc := "(III)I" } : Jvm.MethodName)) ∈ TT := mt6 (i := 122) rfl rfl
theorem wd_759 : (Jvm.Cond.selects "TopYardModel" ({ cls := "TopYardModel", name := "height", desc := "(III)I" } : Jvm.MethodName) ({ cls := "TopYardModel", name := "height", desc := "(III)I" } : Jvm.MethodName)) ∈ TT := mt6 (i := 123) rfl rfl
theorem wd_760 : (Jvm.Cond.code ({ cls := "TopYardModel", name := "height", desc := "(III)I" } : Jvm.MethodName) prog_13_method_19_code (4 : Nat) (Option.some Jvm.ClassFile.FieldType.int)) ∈ TT := mt6 (i := 124) rfl rfl
theorem wd_761 : (Jvm.Cond.methodLink "TopYardLaw" (53 : Nat) ({ cls := "TopYard", name := "string", desc := "(II)I" } : Jvm.MethodName)) ∈ TT := mt2 (i := 217) rfl rfl
theorem wd_762 : (Jvm.Cond.instanceMethod ({ cls := "TopYard", name := "string", desc := "(II)I" } : Jvm.MethodName)) ∈ TT := mt2 (i := 218) rfl rfl
theorem wd_763 : (Jvm.Cond.selects "TopYard" ({ cls := "TopYard", name := "string", desc := "(II)I" } : Jvm.MethodName) ({ cls := "TopYard", name := "string", desc := "(II)I" } : Jvm.MethodName)) ∈ TT := mt2 (i := 219) rfl rfl
theorem wd_764 : (Jvm.Cond.code ({ cls := "TopYard", name := "string", desc := "(II)I" } : Jvm.MethodName) prog_1_method_11_code (4 : Nat) (Option.some Jvm.ClassFile.FieldType.int)) ∈ TT := mt2 (i := 220) rfl rfl
theorem wd_765 : (Jvm.Cond.methodLink "TopYardLaw" (56 : Nat) ({ cls := "TopYardModel", name := "string", desc := "(II)I" } : Jvm.MethodName)) ∈ TT := mt6 (i := 141) rfl rfl
theorem wd_766 : (Jvm.Cond.instanceMethod ({ cls := "TopYardModel", name := "string", desc := "(II)I" } : Jvm.MethodName)) ∈ TT := mt6 (i := 142) rfl rfl
theorem wd_767 : (Jvm.Cond.selects "TopYardModel" ({ cls := "TopYardModel", name := "string", desc := "(II)I" } : Jvm.MethodName) ({ cls := "TopYardModel", name := "string", desc := "(II)I" } : Jvm.MethodName)) ∈ TT := mt6 (i := 143) rfl rfl
theorem wd_768 : (Jvm.Cond.code ({ cls := "TopYardModel", name := "string", desc := "(II)I" } : Jvm.MethodName) prog_13_method_20_code (4 : Nat) (Option.some Jvm.ClassFile.FieldType.int)) ∈ TT := mt6 (i := 144) rfl rfl
theorem wd_769 : (Jvm.Cond.methodLink "TopYardLaw" (57 : Nat) ({ cls := "TopYard", name := "enter", desc := "(IIIII)I" } : Jvm.MethodName)) ∈ TT := mt2 (i := 221) rfl rfl
theorem wd_770 : (Jvm.Cond.instanceMethod ({ cls := "TopYard", name := "enter", desc := "(IIIII)I" } : Jvm.MethodName)) ∈ TT := mt2 (i := 222) rfl rfl
theorem wd_771 : (Jvm.Cond.selects "TopYard" ({ cls := "TopYard", name := "enter", desc := "(IIIII)I" } : Jvm.MethodName) ({ cls := "TopYard", name := "enter", desc := "(IIIII)I" } : Jvm.MethodName)) ∈ TT := mt2 (i := 223) rfl rfl
theorem wd_772 : (Jvm.Cond.code ({ cls := "TopYard", name := "enter", desc := "(IIIII)I" } : Jvm.MethodName) prog_1_method_12_code (9 : Nat) (Option.some Jvm.ClassFile.FieldType.int)) ∈ TT := mt2 (i := 224) rfl rfl
theorem wd_773 : (Jvm.Cond.methodLink "TopYardLaw" (60 : Nat) ({ cls := "TopYardModel", name := "enter", desc := "(IIIII)I" } : Jvm.MethodName)) ∈ TT := mt6 (i := 146) rfl rfl
theorem wd_774 : (Jvm.Cond.instanceMethod ({ cls := "TopYardModel", name := "enter", desc := "(IIIII)I" } : Jvm.MethodName)) ∈ TT := mt6 (i := 147) rfl rfl
theorem wd_775 : (Jvm.Cond.selects "TopYardModel" ({ cls := "TopYardModel", name := "enter", desc := "(IIIII)I" } : Jvm.MethodName) ({ cls := "TopYardModel", name := "enter", desc := "(IIIII)I" } : Jvm.MethodName)) ∈ TT := mt6 (i := 148) rfl rfl
theorem wd_776 : (Jvm.Cond.code ({ cls := "TopYardModel", name := "enter", desc := "(IIIII)I" } : Jvm.MethodName) prog_13_method_21_code (7 : Nat) (Option.some Jvm.ClassFile.FieldType.int)) ∈ TT := mt6 (i := 149) rfl rfl
theorem wd_777 : (Jvm.Cond.methodLink "TopYardLaw" (61 : Nat) ({ cls := "TopYard", name := "clear", desc := "()I" } : Jvm.MethodName)) ∈ TT := mt3 (i := 1) rfl rfl
theorem wd_778 : (Jvm.Cond.instanceMethod ({ cls := "TopYard", name := "clear", desc := "()I" } : Jvm.MethodName)) ∈ TT := mt3 (i := 2) rfl rfl
theorem wd_779 : (Jvm.Cond.selects "TopYard" ({ cls := "TopYard", name := "clear", desc := "()I" } : Jvm.MethodName) ({ cls := "TopYard", name := "clear", desc := "()I" } : Jvm.MethodName)) ∈ TT := mt3 (i := 3) rfl rfl
theorem wd_780 : (Jvm.Cond.code ({ cls := "TopYard", name := "clear", desc := "()I" } : Jvm.MethodName) prog_1_method_13_code (2 : Nat) (Option.some Jvm.ClassFile.FieldType.int)) ∈ TT := mt3 (i := 4) rfl rfl
theorem wd_781 : (Jvm.Cond.methodLink "TopYardLaw" (64 : Nat) ({ cls := "TopYardModel", name := "clear", desc := "()I" } : Jvm.MethodName)) ∈ TT := mt6 (i := 152) rfl rfl
theorem wd_782 : (Jvm.Cond.instanceMethod ({ cls := "TopYardModel", name := "clear", desc := "()I" } : Jvm.MethodName)) ∈ TT := mt6 (i := 153) rfl rfl
theorem wd_783 : (Jvm.Cond.selects "TopYardModel" ({ cls := "TopYardModel", name := "clear", desc := "()I" } : Jvm.MethodName) ({ cls := "TopYardModel", name := "clear", desc := "()I" } : Jvm.MethodName)) ∈ TT := mt6 (i := 154) rfl rfl
theorem wd_784 : (Jvm.Cond.code ({ cls := "TopYardModel", name := "clear", desc := "()I" } : Jvm.MethodName) prog_13_method_22_code (2 : Nat) (Option.some Jvm.ClassFile.FieldType.int)) ∈ TT := mt6 (i := 155) rfl rfl
theorem wd_785 : (Jvm.Cond.methodLink "TopYardLaw" (65 : Nat) ({ cls := "TopYard", name := "whip", desc := "(III)I" } : Jvm.MethodName)) ∈ TT := mt3 (i := 9) rfl rfl
theorem wd_786 : (Jvm.Cond.instanceMethod ({ cls := "TopYard", name := "whip", desc := "(III)I" } : Jvm.MethodName)) ∈ TT := mt3 (i := 10) rfl rfl
theorem wd_787 : (Jvm.Cond.selects "TopYard" ({ cls := "TopYard", name := "whip", desc := "(III)I" } : Jvm.MethodName) ({ cls := "TopYard", name := "whip", desc := "(III)I" } : Jvm.MethodName)) ∈ TT := mt3 (i := 11) rfl rfl
theorem wd_788 : (Jvm.Cond.code ({ cls := "TopYard", name := "whip", desc := "(III)I" } : Jvm.MethodName) prog_1_method_14_code (5 : Nat) (Option.some Jvm.ClassFile.FieldType.int)) ∈ TT := mt3 (i := 12) rfl rfl
theorem wd_789 : (Jvm.Cond.methodLink "TopYardLaw" (68 : Nat) ({ cls := "TopYardModel", name := "whip", desc := "(III)I" } : Jvm.MethodName)) ∈ TT := mt6 (i := 156) rfl rfl
theorem wd_790 : (Jvm.Cond.instanceMethod ({ cls := "TopYardModel", name := "whip", desc := "(III)I" } : Jvm.MethodName)) ∈ TT := mt6 (i := 157) rfl rfl
theorem wd_791 : (Jvm.Cond.selects "TopYardModel" ({ cls := "TopYardModel", name := "whip", desc := "(III)I" } : Jvm.MethodName) ({ cls := "TopYardModel", name := "whip", desc := "(III)I" } : Jvm.MethodName)) ∈ TT := mt6 (i := 158) rfl rfl
theorem wd_792 : (Jvm.Cond.code ({ cls := "TopYardModel", name := "whip", desc := "(III)I" } : Jvm.MethodName) prog_13_method_23_code (4 : Nat) (Option.some Jvm.ClassFile.FieldType.int)) ∈ TT := mt6 (i := 159) rfl rfl
theorem wd_793 : (Jvm.Cond.methodLink "TopYardLaw" (69 : Nat) ({ cls := "TopYard", name := "run", desc := "()I" } : Jvm.MethodName)) ∈ TT := mt3 (i := 17) rfl rfl
theorem wd_794 : (Jvm.Cond.instanceMethod ({ cls := "TopYard", name := "run", desc := "()I" } : Jvm.MethodName)) ∈ TT := mt3 (i := 18) rfl rfl
theorem wd_795 : (Jvm.Cond.selects "TopYard" ({ cls := "TopYard", name := "run", desc := "()I" } : Jvm.MethodName) ({ cls := "TopYard", name := "run", desc := "()I" } : Jvm.MethodName)) ∈ TT := mt3 (i := 19) rfl rfl
theorem wd_796 : (Jvm.Cond.code ({ cls := "TopYard", name := "run", desc := "()I" } : Jvm.MethodName) prog_1_method_15_code (1 : Nat) (Option.some Jvm.ClassFile.FieldType.int)) ∈ TT := mt3 (i := 20) rfl rfl
theorem wd_797 : (Jvm.Cond.methodLink "TopYardLaw" (72 : Nat) ({ cls := "TopYardModel", name := "run", desc := "()I" } : Jvm.MethodName)) ∈ TT := mt6 (i := 163) rfl rfl
theorem wd_798 : (Jvm.Cond.instanceMethod ({ cls := "TopYardModel", name := "run", desc := "()I" } : Jvm.MethodName)) ∈ TT := mt6 (i := 164) rfl rfl
theorem wd_799 : (Jvm.Cond.selects "TopYardModel" ({ cls := "TopYardModel", name := "run", desc := "()I" } : Jvm.MethodName) ({ cls := "TopYardModel", name := "run", desc := "()I" } : Jvm.MethodName)) ∈ TT := mt6 (i := 165) rfl rfl
theorem wd_800 : (Jvm.Cond.code ({ cls := "TopYardModel", name := "run", desc := "()I" } : Jvm.MethodName) prog_13_method_33_code (1 : Nat) (Option.some Jvm.ClassFile.FieldType.int)) ∈ TT := mt6 (i := 166) rfl rfl
theorem wd_801 : (Jvm.Cond.methodLink "TopYardLaw" (73 : Nat) ({ cls := "TopYard", name := "winner", desc := "()I" } : Jvm.MethodName)) ∈ TT := mt3 (i := 125) rfl rfl
theorem wd_802 : (Jvm.Cond.instanceMethod ({ cls := "TopYard", name := "winner", desc := "()I" } : Jvm.MethodName)) ∈ TT := mt3 (i := 126) rfl rfl
theorem wd_803 : (Jvm.Cond.selects "TopYard" ({ cls := "TopYard", name := "winner", desc := "()I" } : Jvm.MethodName) ({ cls := "TopYard", name := "winner", desc := "()I" } : Jvm.MethodName)) ∈ TT := mt3 (i := 127) rfl rfl
theorem wd_804 : (Jvm.Cond.code ({ cls := "TopYard", name := "winner", desc := "()I" } : Jvm.MethodName) prog_1_method_16_code (1 : Nat) (Option.some Jvm.ClassFile.FieldType.int)) ∈ TT := mt3 (i := 128) rfl rfl
theorem wd_805 : (Jvm.Cond.methodLink "TopYardLaw" (76 : Nat) ({ cls := "TopYardModel", name := "winner", desc := "()I" } : Jvm.MethodName)) ∈ TT := mt6 (i := 203) rfl rfl
theorem wd_806 : (Jvm.Cond.instanceMethod ({ cls := "TopYardModel", name := "winner", desc := "()I" } : Jvm.MethodName)) ∈ TT := mt6 (i := 204) rfl rfl
theorem wd_807 : (Jvm.Cond.selects "TopYardModel" ({ cls := "TopYardModel", name := "winner", desc := "()I" } : Jvm.MethodName) ({ cls := "TopYardModel", name := "winner", desc := "()I" } : Jvm.MethodName)) ∈ TT := mt6 (i := 205) rfl rfl
theorem wd_808 : (Jvm.Cond.code ({ cls := "TopYardModel", name := "winner", desc := "()I" } : Jvm.MethodName) prog_13_method_34_code (2 : Nat) (Option.some Jvm.ClassFile.FieldType.int)) ∈ TT := mt6 (i := 206) rfl rfl
theorem wd_809 : (Jvm.Cond.methodLink "TopYardLaw" (77 : Nat) ({ cls := "TopYard", name := "knocks", desc := "(I)I" } : Jvm.MethodName)) ∈ TT := mt3 (i := 133) rfl rfl
theorem wd_810 : (Jvm.Cond.instanceMethod ({ cls := "TopYard", name := "knocks", desc := "(I)I" } : Jvm.MethodName)) ∈ TT := mt3 (i := 134) rfl rfl
theorem wd_811 : (Jvm.Cond.selects "TopYard" ({ cls := "TopYard", name := "knocks", desc := "(I)I" } : Jvm.MethodName) ({ cls := "TopYard", name := "knocks", desc := "(I)I" } : Jvm.MethodName)) ∈ TT := mt3 (i := 135) rfl rfl
theorem wd_812 : (Jvm.Cond.code ({ cls := "TopYard", name := "knocks", desc := "(I)I" } : Jvm.MethodName) prog_1_method_17_code (2 : Nat) (Option.some Jvm.ClassFile.FieldType.int)) ∈ TT := mt3 (i := 136) rfl rfl
theorem wd_813 : (Jvm.Cond.methodLink "TopYardLaw" (81 : Nat) ({ cls := "TopYardModel", name := "knocks", desc := "(I)I" } : Jvm.MethodName)) ∈ TT := mt6 (i := 211) rfl rfl
theorem wd_814 : (Jvm.Cond.instanceMethod ({ cls := "TopYardModel", name := "knocks", desc := "(I)I" } : Jvm.MethodName)) ∈ TT := mt6 (i := 212) rfl rfl
theorem wd_815 : (Jvm.Cond.selects "TopYardModel" ({ cls := "TopYardModel", name := "knocks", desc := "(I)I" } : Jvm.MethodName) ({ cls := "TopYardModel", name := "knocks", desc := "(I)I" } : Jvm.MethodName)) ∈ TT := mt6 (i := 213) rfl rfl
theorem wd_816 : (Jvm.Cond.code ({ cls := "TopYardModel", name := "knocks", desc := "(I)I" } : Jvm.MethodName) prog_13_method_35_code (3 : Nat) (Option.some Jvm.ClassFile.FieldType.int)) ∈ TT := mt6 (i := 214) rfl rfl
theorem wd_817 : (Jvm.Cond.methodLink "TopYardLaw" (82 : Nat) ({ cls := "TopYard", name := "state", desc := "(III)I" } : Jvm.MethodName)) ∈ TT := mt3 (i := 137) rfl rfl
theorem wd_818 : (Jvm.Cond.instanceMethod ({ cls := "TopYard", name := "state", desc := "(III)I" } : Jvm.MethodName)) ∈ TT := mt3 (i := 138) rfl rfl
theorem wd_819 : (Jvm.Cond.selects "TopYard" ({ cls := "TopYard", name := "state", desc := "(III)I" } : Jvm.MethodName) ({ cls := "TopYard", name := "state", desc := "(III)I" } : Jvm.MethodName)) ∈ TT := mt3 (i := 139) rfl rfl
theorem wd_820 : (Jvm.Cond.code ({ cls := "TopYard", name := "state", desc := "(III)I" } : Jvm.MethodName) prog_1_method_18_code (6 : Nat) (Option.some Jvm.ClassFile.FieldType.int)) ∈ TT := mt3 (i := 140) rfl rfl
theorem wd_821 : (Jvm.Cond.methodLink "TopYardLaw" (85 : Nat) ({ cls := "TopYardModel", name := "state", desc := "(III)I" } : Jvm.MethodName)) ∈ TT := mt6 (i := 215) rfl rfl
theorem wd_822 : (Jvm.Cond.instanceMethod ({ cls := "TopYardModel", name := "state", desc := "(III)I" } : Jvm.MethodName)) ∈ TT := mt6 (i := 216) rfl rfl
theorem wd_823 : (Jvm.Cond.selects "TopYardModel" ({ cls := "TopYardModel", name := "state", desc := "(III)I" } : Jvm.MethodName) ({ cls := "TopYardModel", name := "state", desc := "(III)I" } : Jvm.MethodName)) ∈ TT := mt6 (i := 217) rfl rfl
theorem wd_824 : (Jvm.Cond.code ({ cls := "TopYardModel", name := "state", desc := "(III)I" } : Jvm.MethodName) prog_13_method_37_code (5 : Nat) (Option.some Jvm.ClassFile.FieldType.int)) ∈ TT := mt6 (i := 218) rfl rfl
theorem wd_825 : (Jvm.Cond.methodLink "TopYardLaw" (86 : Nat) ({ cls := "TopYard", name := "choose", desc := "()I" } : Jvm.MethodName)) ∈ TT := mt3 (i := 146) rfl rfl
theorem wd_826 : (Jvm.Cond.instanceMethod ({ cls := "TopYard", name := "choose", desc := "()I" } : Jvm.MethodName)) ∈ TT := mt3 (i := 147) rfl rfl
theorem wd_827 : (Jvm.Cond.selects "TopYard" ({ cls := "TopYard", name := "choose", desc := "()I" } : Jvm.MethodName) ({ cls := "TopYard", name := "choose", desc := "()I" } : Jvm.MethodName)) ∈ TT := mt3 (i := 148) rfl rfl
theorem wd_828 : (Jvm.Cond.code ({ cls := "TopYard", name := "choose", desc := "()I" } : Jvm.MethodName) prog_1_method_19_code (2 : Nat) (Option.some Jvm.ClassFile.FieldType.int)) ∈ TT := mt3 (i := 149) rfl rfl
theorem wd_829 : (Jvm.Cond.methodLink "TopYardLaw" (89 : Nat) ({ cls := "TopYardModel", name := "choose", desc := "()I" } : Jvm.MethodName)) ∈ TT := mt6 (i := 235) rfl rfl
theorem wd_830 : (Jvm.Cond.instanceMethod ({ cls := "TopYardModel", name := "choose", desc := "()I" } : Jvm.MethodName)) ∈ TT := mt6 (i := 236) rfl rfl
theorem wd_831 : (Jvm.Cond.selects "TopYardModel" ({ cls := "TopYardModel", name := "choose", desc := "()I" } : Jvm.MethodName) ({ cls := "TopYardModel", name := "choose", desc := "()I" } : Jvm.MethodName)) ∈ TT := mt6 (i := 237) rfl rfl
theorem wd_832 : (Jvm.Cond.code ({ cls := "TopYardModel", name := "choose", desc := "()I" } : Jvm.MethodName) prog_13_method_41_code (2 : Nat) (Option.some Jvm.ClassFile.FieldType.int)) ∈ TT := mt6 (i := 238) rfl rfl
theorem wd_833 : (Jvm.Cond.methodLink "TopYardLaw" (90 : Nat) ({ cls := "TopYard", name := "among", desc := "(II)I" } : Jvm.MethodName)) ∈ TT := mt3 (i := 155) rfl rfl
theorem wd_834 : (Jvm.Cond.instanceMethod ({ cls := "TopYard", name := "among", desc := "(II)I" } : Jvm.MethodName)) ∈ TT := mt3 (i := 156) rfl rfl
theorem wd_835 : (Jvm.Cond.selects "TopYard" ({ cls := "TopYard", name := "among", desc := "(II)I" } : Jvm.MethodName) ({ cls := "TopYard", name := "among", desc := "(II)I" } : Jvm.MethodName)) ∈ TT := mt3 (i := 157) rfl rfl
theorem wd_836 : (Jvm.Cond.code ({ cls := "TopYard", name := "among", desc := "(II)I" } : Jvm.MethodName) prog_1_method_20_code (3 : Nat) (Option.some Jvm.ClassFile.FieldType.int)) ∈ TT := mt3 (i := 158) rfl rfl
theorem wd_837 : (Jvm.Cond.methodLink "TopYardLaw" (93 : Nat) ({ cls := "TopYardModel", name := "among", desc := "(II)I" } : Jvm.MethodName)) ∈ TT := mt6 (i := 239) rfl rfl
theorem wd_838 : (Jvm.Cond.instanceMethod ({ cls := "TopYardModel", name := "among", desc := "(II)I" } : Jvm.MethodName)) ∈ TT := mt7 (i := 0) rfl rfl
theorem wd_839 : (Jvm.Cond.selects "TopYardModel" ({ cls := "TopYardModel", name := "among", desc := "(II)I" } : Jvm.MethodName) ({ cls := "TopYardModel", name := "among", desc := "(II)I" } : Jvm.MethodName)) ∈ TT := mt7 (i := 1) rfl rfl
theorem wd_840 : (Jvm.Cond.code ({ cls := "TopYardModel", name := "among", desc := "(II)I" } : Jvm.MethodName) prog_13_method_42_code (5 : Nat) (Option.some Jvm.ClassFile.FieldType.int)) ∈ TT := mt7 (i := 2) rfl rfl
theorem wd_841 : (Jvm.Cond.methodLink "TopYardLaw" (94 : Nat) ({ cls := "TopYard", name := "pay", desc := "(III)I" } : Jvm.MethodName)) ∈ TT := mt3 (i := 167) rfl rfl
theorem wd_842 : (Jvm.Cond.instanceMethod ({ cls := "TopYard", name := "pay", desc := "(III)I" } : Jvm.MethodName)) ∈ TT := mt3 (i := 168) rfl rfl
theorem wd_843 : (Jvm.Cond.selects "TopYard" ({ cls := "TopYard", name := "pay", desc := "(III)I" } : Jvm.MethodName) ({ cls := "TopYard", name := "pay", desc := "(III)I" } : Jvm.MethodName)) ∈ TT := mt3 (i := 169) rfl rfl
theorem wd_844 : (Jvm.Cond.code ({ cls := "TopYard", name := "pay", desc := "(III)I" } : Jvm.MethodName) prog_1_method_21_code (5 : Nat) (Option.some Jvm.ClassFile.FieldType.int)) ∈ TT := mt3 (i := 170) rfl rfl
theorem wd_845 : (Jvm.Cond.methodLink "TopYardLaw" (97 : Nat) ({ cls := "TopYardModel", name := "pay", desc := "(III)I" } : Jvm.MethodName)) ∈ TT := mt7 (i := 3) rfl rfl
theorem wd_846 : (Jvm.Cond.instanceMethod ({ cls := "TopYardModel", name := "pay", desc := "(III)I" } : Jvm.MethodName)) ∈ TT := mt7 (i := 4) rfl rfl
theorem wd_847 : (Jvm.Cond.selects "TopYardModel" ({ cls := "TopYardModel", name := "pay", desc := "(III)I" } : Jvm.MethodName) ({ cls := "TopYardModel", name := "pay", desc := "(III)I" } : Jvm.MethodName)) ∈ TT := mt7 (i := 5) rfl rfl
theorem wd_848 : (Jvm.Cond.code ({ cls := "TopYardModel", name := "pay", desc := "(III)I" } : Jvm.MethodName) prog_13_method_44_code (5 : Nat) (Option.some Jvm.ClassFile.FieldType.int)) ∈ TT := mt7 (i := 6) rfl rfl
theorem wd_849 : (Jvm.Cond.methodLink "TopYardLaw" (98 : Nat) ({ cls := "TopYard", name := "pays", desc := "(II)I" } : Jvm.MethodName)) ∈ TT := mt3 (i := 175) rfl rfl
theorem wd_850 : (Jvm.Cond.instanceMethod ({ cls := "TopYard", name := "pays", desc := "(II)I" } : Jvm.MethodName)) ∈ TT := mt3 (i := 176) rfl rfl
theorem wd_851 : (Jvm.Cond.selects "TopYard" ({ cls := "TopYard", name := "pays", desc := "(II)I" } : Jvm.MethodName) ({ cls := "TopYard", name := "pays", desc := "(II)I" } : Jvm.MethodName)) ∈ TT := mt3 (i := 177) rfl rfl
theorem wd_852 : (Jvm.Cond.code ({ cls := "TopYard", name := "pays", desc := "(II)I" } : Jvm.MethodName) prog_1_method_22_code (3 : Nat) (Option.some Jvm.ClassFile.FieldType.int)) ∈ TT := mt3 (i := 178) rfl rfl
theorem wd_853 : (Jvm.Cond.methodLink "TopYardModel" (164 : Nat) ({ cls := "TopYardModel", name := "in", desc := "(JJJ)Z" } : Jvm.MethodName)) ∈ TT := mt6 (i := 65) rfl rfl
theorem wd_854 : (Jvm.Cond.static ({ cls := "TopYardModel", name := "in", desc := "(JJJ)Z" } : Jvm.MethodName)) ∈ TT := mt6 (i := 66) rfl rfl
theorem wd_855 : (Jvm.Cond.code ({ cls := "TopYardModel", name := "in", desc := "(JJJ)Z" } : Jvm.MethodName) prog_13_method_3_code (6 : Nat) (Option.some Jvm.ClassFile.FieldType.boolean)) ∈ TT := mt6 (i := 67) rfl rfl
theorem wd_856 : (Jvm.Cond.methodLink "TopYardModel" (168 : Nat) ({ cls := "TopYardModel", name := "c", desc := "(I)I" } : Jvm.MethodName)) ∈ TT := mt6 (i := 68) rfl rfl
theorem wd_857 : (Jvm.Cond.instanceMethod ({ cls := "TopYardModel", name := "c", desc := "(I)I" } : Jvm.MethodName)) ∈ TT := mt6 (i := 70) rfl rfl
theorem wd_858 : (Jvm.Cond.code ({ cls := "TopYardModel", name := "c", desc := "(I)I" } : Jvm.MethodName) prog_13_method_4_code (2 : Nat) (Option.some Jvm.ClassFile.FieldType.int)) ∈ TT := mt6 (i := 71) rfl rfl
theorem wd_859 : (Jvm.Cond.methodLink "TopYardModel" (172 : Nat) ({ cls := "TopYardModel", name := "s", desc := "(I)I" } : Jvm.MethodName)) ∈ TT := mt6 (i := 72) rfl rfl
theorem wd_860 : (Jvm.Cond.instanceMethod ({ cls := "TopYardModel", name := "s", desc := "(I)I" } : Jvm.MethodName)) ∈ TT := mt6 (i := 74) rfl rfl
theorem wd_861 : (Jvm.Cond.code ({ cls := "TopYardModel", name := "s", desc := "(I)I" } : Jvm.MethodName) prog_13_method_5_code (2 : Nat) (Option.some Jvm.ClassFile.FieldType.int)) ∈ TT := mt6 (i := 75) rfl rfl
theorem wd_862 : (Jvm.Cond.methodLink "TopYardModel" (186 : Nat) ({ cls := "TopYardModel", name := "isOwner", desc := "(I)Z" } : Jvm.MethodName)) ∈ TT := mt6 (i := 83) rfl rfl
theorem wd_863 : (Jvm.Cond.static ({ cls := "TopYardModel", name := "isOwner", desc := "(I)Z" } : Jvm.MethodName)) ∈ TT := mt6 (i := 84) rfl rfl
theorem wd_864 : (Jvm.Cond.code ({ cls := "TopYardModel", name := "isOwner", desc := "(I)Z" } : Jvm.MethodName) prog_13_method_8_code (1 : Nat) (Option.some Jvm.ClassFile.FieldType.boolean)) ∈ TT := mt6 (i := 85) rfl rfl
theorem wd_865 : (Jvm.Cond.methodLink "TopYardModel" (190 : Nat) ({ cls := "TopYardModel", name := "isTop", desc := "(I)Z" } : Jvm.MethodName)) ∈ TT := mt6 (i := 91) rfl rfl
theorem wd_866 : (Jvm.Cond.instanceMethod ({ cls := "TopYardModel", name := "isTop", desc := "(I)Z" } : Jvm.MethodName)) ∈ TT := mt6 (i := 93) rfl rfl
theorem wd_867 : (Jvm.Cond.code ({ cls := "TopYardModel", name := "isTop", desc := "(I)Z" } : Jvm.MethodName) prog_13_method_7_code (2 : Nat) (Option.some Jvm.ClassFile.FieldType.boolean)) ∈ TT := mt6 (i := 94) rfl rfl
theorem wd_868 : (Jvm.Cond.methodLink "TopYardModel" (208 : Nat) ({ cls := "TopYardModel", name := "heightOf", desc := "(II)I" } : Jvm.MethodName)) ∈ TT := mt6 (i := 129) rfl rfl
theorem wd_869 : (Jvm.Cond.instanceMethod ({ cls := "TopYardModel", name := "heightOf", desc := "(II)I" } : Jvm.MethodName)) ∈ TT := mt6 (i := 131) rfl rfl
theorem wd_870 : (Jvm.Cond.code ({ cls := "TopYardModel", name := "heightOf", desc := "(II)I" } : Jvm.MethodName) prog_13_method_16_code (5 : Nat) (Option.some Jvm.ClassFile.FieldType.int)) ∈ TT := mt6 (i := 132) rfl rfl
theorem wd_871 : (Jvm.Cond.methodLink "TopYardModel" (219 : Nat) ({ cls := "TopYardModel", name := "slopeX", desc := "(II)I" } : Jvm.MethodName)) ∈ TT := mt6 (i := 133) rfl rfl
theorem wd_872 : (Jvm.Cond.instanceMethod ({ cls := "TopYardModel", name := "slopeX", desc := "(II)I" } : Jvm.MethodName)) ∈ TT := mt6 (i := 135) rfl rfl
theorem wd_873 : (Jvm.Cond.code ({ cls := "TopYardModel", name := "slopeX", desc := "(II)I" } : Jvm.MethodName) prog_13_method_17_code (3 : Nat) (Option.some Jvm.ClassFile.FieldType.int)) ∈ TT := mt6 (i := 136) rfl rfl
theorem wd_874 : (Jvm.Cond.methodLink "TopYardModel" (222 : Nat) ({ cls := "TopYardModel", name := "slopeY", desc := "(II)I" } : Jvm.MethodName)) ∈ TT := mt6 (i := 137) rfl rfl
theorem wd_875 : (Jvm.Cond.instanceMethod ({ cls := "TopYardModel", name := "slopeY", desc := "(II)I" } : Jvm.MethodName)) ∈ TT := mt6 (i := 139) rfl rfl
theorem wd_876 : (Jvm.Cond.code ({ cls := "TopYardModel", name := "slopeY", desc := "(II)I" } : Jvm.MethodName) prog_13_method_18_code (3 : Nat) (Option.some Jvm.ClassFile.FieldType.int)) ∈ TT := mt6 (i := 140) rfl rfl
theorem wd_877 : (Jvm.Cond.methodLink "TopYardModel" (250 : Nat) ({ cls := "TopYardModel", name := "floor65", desc := "(J)I" } : Jvm.MethodName)) ∈ TT := mt6 (i := 192) rfl rfl
theorem wd_878 : (Jvm.Cond.static ({ cls := "TopYardModel", name := "floor65", desc := "(J)I" } : Jvm.MethodName)) ∈ TT := mt6 (i := 193) rfl rfl
theorem wd_879 : (Jvm.Cond.code ({ cls := "TopYardModel", name := "floor65", desc := "(J)I" } : Jvm.MethodName) prog_13_method_26_code (2 : Nat) (Option.some Jvm.ClassFile.FieldType.int)) ∈ TT := mt6 (i := 194) rfl rfl
theorem wd_880 : (Jvm.Cond.methodLink "TopYardModel" (266 : Nat) ({ cls := "TopYardModel", name := "moves", desc := "()V" } : Jvm.MethodName)) ∈ TT := mt6 (i := 188) rfl rfl
theorem wd_881 : (Jvm.Cond.instanceMethod ({ cls := "TopYardModel", name := "moves", desc := "()V" } : Jvm.MethodName)) ∈ TT := mt6 (i := 190) rfl rfl
theorem wd_882 : (Jvm.Cond.code ({ cls := "TopYardModel", name := "moves", desc := "()V" } : Jvm.MethodName) prog_13_method_27_code (5 : Nat) (Option.none : Option Jvm.ClassFile.FieldType)) ∈ TT := mt6 (i := 191) rfl rfl
theorem wd_883 : (Jvm.Cond.methodLink "TopYardModel" (269 : Nat) ({ cls := "TopYardModel", name := "knock", desc := "(II)V" } : Jvm.MethodName)) ∈ TT := mt6 (i := 198) rfl rfl
theorem wd_884 : (Jvm.Cond.instanceMethod ({ cls := "TopYardModel", name := "knock", desc := "(II)V" } : Jvm.MethodName)) ∈ TT := mt6 (i := 200) rfl rfl
theorem wd_885 : (Jvm.Cond.code ({ cls := "TopYardModel", name := "knock", desc := "(II)V" } : Jvm.MethodName) prog_13_method_28_code (21 : Nat) (Option.none : Option Jvm.ClassFile.FieldType)) ∈ TT := mt6 (i := 201) rfl rfl
theorem wd_886 : (Jvm.Cond.methodLink "TopYardModel" (273 : Nat) ({ cls := "TopYardModel", name := "standing", desc := "()I" } : Jvm.MethodName)) ∈ TT := mt6 (i := 180) rfl rfl
theorem wd_887 : (Jvm.Cond.instanceMethod ({ cls := "TopYardModel", name := "standing", desc := "()I" } : Jvm.MethodName)) ∈ TT := mt6 (i := 182) rfl rfl
theorem wd_888 : (Jvm.Cond.code ({ cls := "TopYardModel", name := "standing", desc := "()I" } : Jvm.MethodName) prog_13_method_25_code (3 : Nat) (Option.some Jvm.ClassFile.FieldType.int)) ∈ TT := mt6 (i := 183) rfl rfl
theorem wd_889 : (Jvm.Cond.methodLink "TopYardModel" (277 : Nat) ({ cls := "TopYardModel", name := "ticks", desc := "(IIZ)V" } : Jvm.MethodName)) ∈ TT := mt6 (i := 184) rfl rfl
theorem wd_890 : (Jvm.Cond.instanceMethod ({ cls := "TopYardModel", name := "ticks", desc := "(IIZ)V" } : Jvm.MethodName)) ∈ TT := mt6 (i := 186) rfl rfl
theorem wd_891 : (Jvm.Cond.code ({ cls := "TopYardModel", name := "ticks", desc := "(IIZ)V" } : Jvm.MethodName) prog_13_method_29_code (6 : Nat) (Option.none : Option Jvm.ClassFile.FieldType)) ∈ TT := mt6 (i := 187) rfl rfl
theorem wd_892 : (Jvm.Cond.methodLink "TopYardModel" (281 : Nat) ({ cls := "TopYardModel", name := "begins", desc := "(IIIIII)V" } : Jvm.MethodName)) ∈ TT := mt6 (i := 171) rfl rfl
theorem wd_893 : (Jvm.Cond.instanceMethod ({ cls := "TopYardModel", name := "begins", desc := "(IIIIII)V" } : Jvm.MethodName)) ∈ TT := mt6 (i := 173) rfl rfl
theorem wd_894 : (Jvm.Cond.code ({ cls := "TopYardModel", name := "begins", desc := "(IIIIII)V" } : Jvm.MethodName) prog_13_method_24_code (8 : Nat) (Option.none : Option Jvm.ClassFile.FieldType)) ∈ TT := mt6 (i := 174) rfl rfl
theorem wd_895 : (Jvm.Cond.methodLink "TopYardModel" (285 : Nat) ({ cls := "TopYardModel", name := "runsTo", desc := "(IIZ)I" } : Jvm.MethodName)) ∈ TT := mt6 (i := 176) rfl rfl
theorem wd_896 : (Jvm.Cond.instanceMethod ({ cls := "TopYardModel", name := "runsTo", desc := "(IIZ)I" } : Jvm.MethodName)) ∈ TT := mt6 (i := 178) rfl rfl
theorem wd_897 : (Jvm.Cond.code ({ cls := "TopYardModel", name := "runsTo", desc := "(IIZ)I" } : Jvm.MethodName) prog_13_method_30_code (5 : Nat) (Option.some Jvm.ClassFile.FieldType.int)) ∈ TT := mt6 (i := 179) rfl rfl
theorem wd_898 : (Jvm.Cond.methodLink "TopYardModel" (289 : Nat) ({ cls := "TopYardModel", name := "runsBout", desc := "(I)I" } : Jvm.MethodName)) ∈ TT := mt6 (i := 167) rfl rfl
theorem wd_899 : (Jvm.Cond.instanceMethod ({ cls := "TopYardModel", name := "runsBout", desc := "(I)I" } : Jvm.MethodName)) ∈ TT := mt6 (i := 169) rfl rfl
theorem wd_900 : (Jvm.Cond.code ({ cls := "TopYardModel", name := "runsBout", desc := "(I)I" } : Jvm.MethodName) prog_13_method_31_code (3 : Nat) (Option.some Jvm.ClassFile.FieldType.int)) ∈ TT := mt6 (i := 170) rfl rfl
theorem wd_901 : (Jvm.Cond.methodLink "TopYardModel" (292 : Nat) ({ cls := "TopYardModel", name := "alone", desc := "()I" } : Jvm.MethodName)) ∈ TT := mt6 (i := 207) rfl rfl
theorem wd_902 : (Jvm.Cond.instanceMethod ({ cls := "TopYardModel", name := "alone", desc := "()I" } : Jvm.MethodName)) ∈ TT := mt6 (i := 209) rfl rfl
theorem wd_903 : (Jvm.Cond.code ({ cls := "TopYardModel", name := "alone", desc := "()I" } : Jvm.MethodName) prog_13_method_32_code (3 : Nat) (Option.some Jvm.ClassFile.FieldType.int)) ∈ TT := mt6 (i := 210) rfl rfl
theorem wd_904 : (Jvm.Cond.methodLink "TopYardModel" (295 : Nat) ({ cls := "TopYardModel", name := "stateOf", desc := "(II)I" } : Jvm.MethodName)) ∈ TT := mt6 (i := 219) rfl rfl
theorem wd_905 : (Jvm.Cond.instanceMethod ({ cls := "TopYardModel", name := "stateOf", desc := "(II)I" } : Jvm.MethodName)) ∈ TT := mt6 (i := 221) rfl rfl
theorem wd_906 : (Jvm.Cond.code ({ cls := "TopYardModel", name := "stateOf", desc := "(II)I" } : Jvm.MethodName) prog_13_method_36_code (3 : Nat) (Option.some Jvm.ClassFile.FieldType.int)) ∈ TT := mt6 (i := 222) rfl rfl
theorem wd_907 : (Jvm.Cond.methodLink "TopYardModel" (298 : Nat) ({ cls := "TopYardModel", name := "comesTo", desc := "(IIII)I" } : Jvm.MethodName)) ∈ TT := mt6 (i := 231) rfl rfl
theorem wd_908 : (Jvm.Cond.instanceMethod ({ cls := "TopYardModel", name := "comesTo", desc := "(IIII)I" } : Jvm.MethodName)) ∈ TT := mt6 (i := 233) rfl rfl
theorem wd_909 : (Jvm.Cond.code ({ cls := "TopYardModel", name := "comesTo", desc := "(IIII)I" } : Jvm.MethodName) prog_13_method_38_code (7 : Nat) (Option.some Jvm.ClassFile.FieldType.int)) ∈ TT := mt6 (i := 234) rfl rfl
theorem wd_910 : (Jvm.Cond.methodLink "TopYardModel" (302 : Nat) ({ cls := "TopYardModel", name := "expectedOf", desc := "(II)I" } : Jvm.MethodName)) ∈ TT := mt6 (i := 227) rfl rfl
theorem wd_911 : (Jvm.Cond.instanceMethod ({ cls := "TopYardModel", name := "expectedOf", desc := "(II)I" } : Jvm.MethodName)) ∈ TT := mt6 (i := 229) rfl rfl
theorem wd_912 : (Jvm.Cond.code ({ cls := "TopYardModel", name := "expectedOf", desc := "(II)I" } : Jvm.MethodName) prog_13_method_39_code (3 : Nat) (Option.some Jvm.ClassFile.FieldType.int)) ∈ TT := mt6 (i := 230) rfl rfl
theorem wd_913 : (Jvm.Cond.methodLink "TopYardModel" (311 : Nat) ({ cls := "TopYardModel", name := "isPay", desc := "(II)Z" } : Jvm.MethodName)) ∈ TT := mt7 (i := 7) rfl rfl
theorem wd_914 : (Jvm.Cond.instanceMethod ({ cls := "TopYardModel", name := "isPay", desc := "(II)Z" } : Jvm.MethodName)) ∈ TT := mt7 (i := 9) rfl rfl
theorem wd_915 : (Jvm.Cond.code ({ cls := "TopYardModel", name := "isPay", desc := "(II)Z" } : Jvm.MethodName) prog_13_method_43_code (3 : Nat) (Option.some Jvm.ClassFile.FieldType.boolean)) ∈ TT := mt7 (i := 10) rfl rfl
theorem wd_916 : (Jvm.Cond.methodLink "TopYardModel" (317 : Nat) ({ cls := "TopYardModel", name := "det2", desc := "(IIII)J" } : Jvm.MethodName)) ∈ TT := mt7 (i := 42) rfl rfl
theorem wd_917 : (Jvm.Cond.instanceMethod ({ cls := "TopYardModel", name := "det2", desc := "(IIII)J" } : Jvm.MethodName)) ∈ TT := mt7 (i := 44) rfl rfl
theorem wd_918 : (Jvm.Cond.code ({ cls := "TopYardModel", name := "det2", desc := "(IIII)J" } : Jvm.MethodName) prog_13_method_48_code (5 : Nat) (Option.some Jvm.ClassFile.FieldType.long)) ∈ TT := mt7 (i := 45) rfl rfl
theorem wd_919 : (Jvm.Cond.methodLink "TopYardModel" (321 : Nat) ({ cls := "TopYardModel", name := "without", desc := "(II)I" } : Jvm.MethodName)) ∈ TT := mt7 (i := 39) rfl rfl
theorem wd_920 : (Jvm.Cond.static ({ cls := "TopYardModel", name := "without", desc := "(II)I" } : Jvm.MethodName)) ∈ TT := mt7 (i := 40) rfl rfl
theorem wd_921 : (Jvm.Cond.code ({ cls := "TopYardModel", name := "without", desc := "(II)I" } : Jvm.MethodName) prog_13_method_50_code (2 : Nat) (Option.some Jvm.ClassFile.FieldType.int)) ∈ TT := mt7 (i := 41) rfl rfl
theorem wd_922 : (Jvm.Cond.methodLink "TopYardModel" (324 : Nat) ({ cls := "TopYardModel", name := "det3", desc := "(IIIIII)J" } : Jvm.MethodName)) ∈ TT := mt7 (i := 46) rfl rfl
theorem wd_923 : (Jvm.Cond.instanceMethod ({ cls := "TopYardModel", name := "det3", desc := "(IIIIII)J" } : Jvm.MethodName)) ∈ TT := mt7 (i := 48) rfl rfl
theorem wd_924 : (Jvm.Cond.code ({ cls := "TopYardModel", name := "det3", desc := "(IIIIII)J" } : Jvm.MethodName) prog_13_method_49_code (7 : Nat) (Option.some Jvm.ClassFile.FieldType.long)) ∈ TT := mt7 (i := 49) rfl rfl
theorem wd_925 : (Jvm.Cond.methodLink "TopYardModel" (335 : Nat) ({ cls := "TopYardModel", name := "minor", desc := "(III)J" } : Jvm.MethodName)) ∈ TT := mt7 (i := 35) rfl rfl
theorem wd_926 : (Jvm.Cond.instanceMethod ({ cls := "TopYardModel", name := "minor", desc := "(III)J" } : Jvm.MethodName)) ∈ TT := mt7 (i := 37) rfl rfl
theorem wd_927 : (Jvm.Cond.code ({ cls := "TopYardModel", name := "minor", desc := "(III)J" } : Jvm.MethodName) prog_13_method_51_code (8 : Nat) (Option.some Jvm.ClassFile.FieldType.long)) ∈ TT := mt7 (i := 38) rfl rfl
theorem wd_928 : (Jvm.Cond.methodLink "TopYardModel" (339 : Nat) ({ cls := "TopYardModel", name := "ones", desc := "(I)I" } : Jvm.MethodName)) ∈ TT := mt7 (i := 28) rfl rfl
theorem wd_929 : (Jvm.Cond.static ({ cls := "TopYardModel", name := "ones", desc := "(I)I" } : Jvm.MethodName)) ∈ TT := mt7 (i := 29) rfl rfl
theorem wd_930 : (Jvm.Cond.code ({ cls := "TopYardModel", name := "ones", desc := "(I)I" } : Jvm.MethodName) prog_13_method_47_code (3 : Nat) (Option.some Jvm.ClassFile.FieldType.int)) ∈ TT := mt7 (i := 30) rfl rfl
theorem wd_931 : (Jvm.Cond.methodLink "TopYardModel" (342 : Nat) ({ cls := "TopYardModel", name := "takesPart", desc := "(II)V" } : Jvm.MethodName)) ∈ TT := mt7 (i := 31) rfl rfl
theorem wd_932 : (Jvm.Cond.instanceMethod ({ cls := "TopYardModel", name := "takesPart", desc := "(II)V" } : Jvm.MethodName)) ∈ TT := mt7 (i := 33) rfl rfl
theorem wd_933 : (Jvm.Cond.code ({ cls := "TopYardModel", name := "takesPart", desc := "(II)V" } : Jvm.MethodName) prog_13_method_52_code (8 : Nat) (Option.none : Option Jvm.ClassFile.FieldType)) ∈ TT := mt7 (i := 34) rfl rfl
theorem wd_934 : (Jvm.Cond.methodLink "TopYardModel" (345 : Nat) ({ cls := "TopYardModel", name := "isMix", desc := "()Z" } : Jvm.MethodName)) ∈ TT := mt7 (i := 50) rfl rfl
theorem wd_935 : (Jvm.Cond.instanceMethod ({ cls := "TopYardModel", name := "isMix", desc := "()Z" } : Jvm.MethodName)) ∈ TT := mt7 (i := 52) rfl rfl
theorem wd_936 : (Jvm.Cond.code ({ cls := "TopYardModel", name := "isMix", desc := "()Z" } : Jvm.MethodName) prog_13_method_53_code (6 : Nat) (Option.some Jvm.ClassFile.FieldType.boolean)) ∈ TT := mt7 (i := 53) rfl rfl
theorem wd_937 : (Jvm.Cond.methodLink "TopYardModel" (349 : Nat) ({ cls := "TopYardModel", name := "findMix", desc := "()Z" } : Jvm.MethodName)) ∈ TT := mt7 (i := 24) rfl rfl
theorem wd_938 : (Jvm.Cond.instanceMethod ({ cls := "TopYardModel", name := "findMix", desc := "()Z" } : Jvm.MethodName)) ∈ TT := mt7 (i := 26) rfl rfl
theorem wd_939 : (Jvm.Cond.code ({ cls := "TopYardModel", name := "findMix", desc := "()Z" } : Jvm.MethodName) prog_13_method_54_code (4 : Nat) (Option.some Jvm.ClassFile.FieldType.boolean)) ∈ TT := mt7 (i := 27) rfl rfl
theorem wd_940 : (Jvm.Cond.methodLink "TopYardModel" (359 : Nat) ({ cls := "TopYardModel", name := "isSheet", desc := "(I)Z" } : Jvm.MethodName)) ∈ TT := mt7 (i := 72) rfl rfl
theorem wd_941 : (Jvm.Cond.static ({ cls := "TopYardModel", name := "isSheet", desc := "(I)Z" } : Jvm.MethodName)) ∈ TT := mt7 (i := 73) rfl rfl
theorem wd_942 : (Jvm.Cond.code ({ cls := "TopYardModel", name := "isSheet", desc := "(I)Z" } : Jvm.MethodName) prog_13_method_84_code (1 : Nat) (Option.some Jvm.ClassFile.FieldType.boolean)) ∈ TT := mt7 (i := 74) rfl rfl
theorem wd_943 : (Jvm.Cond.methodLink "TopYardModel" (362 : Nat) ({ cls := "TopYardModel", name := "met", desc := "(I)I" } : Jvm.MethodName)) ∈ TT := mt7 (i := 75) rfl rfl
theorem wd_944 : (Jvm.Cond.instanceMethod ({ cls := "TopYardModel", name := "met", desc := "(I)I" } : Jvm.MethodName)) ∈ TT := mt7 (i := 77) rfl rfl
theorem wd_945 : (Jvm.Cond.code ({ cls := "TopYardModel", name := "met", desc := "(I)I" } : Jvm.MethodName) prog_13_method_83_code (2 : Nat) (Option.some Jvm.ClassFile.FieldType.int)) ∈ TT := mt7 (i := 78) rfl rfl
theorem wd_946 : (Jvm.Cond.methodLink "TopYardModel" (365 : Nat) ({ cls := "TopYardModel", name := "was", desc := "(III)I" } : Jvm.MethodName)) ∈ TT := mt7 (i := 79) rfl rfl
theorem wd_947 : (Jvm.Cond.methodLink "TopYardModel" (375 : Nat) ({ cls := "TopYardModel", name := "isOf", desc := "(II)Z" } : Jvm.MethodName)) ∈ TT := mt7 (i := 88) rfl rfl
theorem wd_948 : (Jvm.Cond.instanceMethod ({ cls := "TopYardModel", name := "isOf", desc := "(II)Z" } : Jvm.MethodName)) ∈ TT := mt7 (i := 90) rfl rfl
theorem wd_949 : (Jvm.Cond.code ({ cls := "TopYardModel", name := "isOf", desc := "(II)Z" } : Jvm.MethodName) prog_13_method_60_code (3 : Nat) (Option.some Jvm.ClassFile.FieldType.boolean)) ∈ TT := mt7 (i := 91) rfl rfl
theorem wd_950 : (Jvm.Cond.methodLink "TopYardModel" (378 : Nat) ({ cls := "TopYardModel", name := "findWorn", desc := "(I)V" } : Jvm.MethodName)) ∈ TT := mt7 (i := 84) rfl rfl
theorem wd_951 : (Jvm.Cond.instanceMethod ({ cls := "TopYardModel", name := "findWorn", desc := "(I)V" } : Jvm.MethodName)) ∈ TT := mt7 (i := 86) rfl rfl
theorem wd_952 : (Jvm.Cond.code ({ cls := "TopYardModel", name := "findWorn", desc := "(I)V" } : Jvm.MethodName) prog_13_method_61_code (5 : Nat) (Option.none : Option Jvm.ClassFile.FieldType)) ∈ TT := mt7 (i := 87) rfl rfl
theorem wd_953 : (Jvm.Cond.methodLink "TopYardModel" (382 : Nat) ({ cls := "TopYardModel", name := "doubt", desc := "()I" } : Jvm.MethodName)) ∈ TT := mt7 (i := 92) rfl rfl
theorem wd_954 : (Jvm.Cond.instanceMethod ({ cls := "TopYardModel", name := "doubt", desc := "()I" } : Jvm.MethodName)) ∈ TT := mt7 (i := 94) rfl rfl
theorem wd_955 : (Jvm.Cond.code ({ cls := "TopYardModel", name := "doubt", desc := "()I" } : Jvm.MethodName) prog_13_method_62_code (6 : Nat) (Option.some Jvm.ClassFile.FieldType.int)) ∈ TT := mt7 (i := 95) rfl rfl
theorem wd_956 : (Jvm.Cond.methodLink "TopYardModel" (397 : Nat) ({ cls := "TopYardModel", name := "ruleOf", desc := "(I)I" } : Jvm.MethodName)) ∈ TT := mt7 (i := 121) rfl rfl
theorem wd_957 : (Jvm.Cond.static ({ cls := "TopYardModel", name := "ruleOf", desc := "(I)I" } : Jvm.MethodName)) ∈ TT := mt7 (i := 122) rfl rfl
theorem wd_958 : (Jvm.Cond.code ({ cls := "TopYardModel", name := "ruleOf", desc := "(I)I" } : Jvm.MethodName) prog_13_method_68_code (1 : Nat) (Option.some Jvm.ClassFile.FieldType.int)) ∈ TT := mt7 (i := 123) rfl rfl
theorem wd_959 : (Jvm.Cond.methodLink "TopYardModel" (400 : Nat) ({ cls := "TopYardModel", name := "isFigure", desc := "(I)Z" } : Jvm.MethodName)) ∈ TT := mt7 (i := 124) rfl rfl
theorem wd_960 : (Jvm.Cond.instanceMethod ({ cls := "TopYardModel", name := "isFigure", desc := "(I)Z" } : Jvm.MethodName)) ∈ TT := mt7 (i := 126) rfl rfl
theorem wd_961 : (Jvm.Cond.code ({ cls := "TopYardModel", name := "isFigure", desc := "(I)Z" } : Jvm.MethodName) prog_13_method_70_code (2 : Nat) (Option.some Jvm.ClassFile.FieldType.boolean)) ∈ TT := mt7 (i := 127) rfl rfl
theorem wd_962 : (Jvm.Cond.methodLink "TopYardModel" (403 : Nat) ({ cls := "TopYardModel", name := "isRule", desc := "(II)Z" } : Jvm.MethodName)) ∈ TT := mt7 (i := 130) rfl rfl
theorem wd_963 : (Jvm.Cond.static ({ cls := "TopYardModel", name := "isRule", desc := "(II)Z" } : Jvm.MethodName)) ∈ TT := mt7 (i := 131) rfl rfl
theorem wd_964 : (Jvm.Cond.code ({ cls := "TopYardModel", name := "isRule", desc := "(II)Z" } : Jvm.MethodName) prog_13_method_69_code (2 : Nat) (Option.some Jvm.ClassFile.FieldType.boolean)) ∈ TT := mt7 (i := 132) rfl rfl
theorem wd_965 : (Jvm.Cond.methodLink "TopYardModel" (406 : Nat) ({ cls := "TopYardModel", name := "reads", desc := "()V" } : Jvm.MethodName)) ∈ TT := mt7 (i := 117) rfl rfl
theorem wd_966 : (Jvm.Cond.instanceMethod ({ cls := "TopYardModel", name := "reads", desc := "()V" } : Jvm.MethodName)) ∈ TT := mt7 (i := 119) rfl rfl
theorem wd_967 : (Jvm.Cond.code ({ cls := "TopYardModel", name := "reads", desc := "()V" } : Jvm.MethodName) prog_13_method_71_code (7 : Nat) (Option.none : Option Jvm.ClassFile.FieldType)) ∈ TT := mt7 (i := 120) rfl rfl
theorem wd_968 : (Jvm.Cond.methodLink "TopYardModel" (409 : Nat) ({ cls := "TopYardModel", name := "topsOf", desc := "(I)I" } : Jvm.MethodName)) ∈ TT := mt7 (i := 137) rfl rfl
theorem wd_969 : (Jvm.Cond.instanceMethod ({ cls := "TopYardModel", name := "topsOf", desc := "(I)I" } : Jvm.MethodName)) ∈ TT := mt7 (i := 139) rfl rfl
theorem wd_970 : (Jvm.Cond.code ({ cls := "TopYardModel", name := "topsOf", desc := "(I)I" } : Jvm.MethodName) prog_13_method_73_code (4 : Nat) (Option.some Jvm.ClassFile.FieldType.int)) ∈ TT := mt7 (i := 140) rfl rfl
theorem wd_971 : (Jvm.Cond.methodLink "TopYardModel" (412 : Nat) ({ cls := "TopYardModel", name := "topOf", desc := "(II)I" } : Jvm.MethodName)) ∈ TT := mt7 (i := 141) rfl rfl
theorem wd_972 : (Jvm.Cond.instanceMethod ({ cls := "TopYardModel", name := "topOf", desc := "(II)I" } : Jvm.MethodName)) ∈ TT := mt7 (i := 143) rfl rfl
theorem wd_973 : (Jvm.Cond.code ({ cls := "TopYardModel", name := "topOf", desc := "(II)I" } : Jvm.MethodName) prog_13_method_74_code (5 : Nat) (Option.some Jvm.ClassFile.FieldType.int)) ∈ TT := mt7 (i := 144) rfl rfl
theorem wd_974 : (Jvm.Cond.methodLink "TopYardModel" (415 : Nat) ({ cls := "TopYardModel", name := "first", desc := "(I)I" } : Jvm.MethodName)) ∈ TT := mt7 (i := 161) rfl rfl
theorem wd_975 : (Jvm.Cond.static ({ cls := "TopYardModel", name := "first", desc := "(I)I" } : Jvm.MethodName)) ∈ TT := mt7 (i := 162) rfl rfl
theorem wd_976 : (Jvm.Cond.code ({ cls := "TopYardModel", name := "first", desc := "(I)I" } : Jvm.MethodName) prog_13_method_78_code (2 : Nat) (Option.some Jvm.ClassFile.FieldType.int)) ∈ TT := mt7 (i := 163) rfl rfl
theorem wd_977 : (Jvm.Cond.methodLink "TopYardModel" (418 : Nat) ({ cls := "TopYardModel", name := "costs", desc := "(II)I" } : Jvm.MethodName)) ∈ TT := mt7 (i := 164) rfl rfl
theorem wd_978 : (Jvm.Cond.instanceMethod ({ cls := "TopYardModel", name := "costs", desc := "(II)I" } : Jvm.MethodName)) ∈ TT := mt7 (i := 166) rfl rfl
theorem wd_979 : (Jvm.Cond.code ({ cls := "TopYardModel", name := "costs", desc := "(II)I" } : Jvm.MethodName) prog_13_method_79_code (5 : Nat) (Option.some Jvm.ClassFile.FieldType.int)) ∈ TT := mt7 (i := 167) rfl rfl
theorem wd_980 : (Jvm.Cond.methodLink "TopYardModel" (421 : Nat) ({ cls := "TopYardModel", name := "findPairs", desc := "()V" } : Jvm.MethodName)) ∈ TT := mt7 (i := 157) rfl rfl
theorem wd_981 : (Jvm.Cond.instanceMethod ({ cls := "TopYardModel", name := "findPairs", desc := "()V" } : Jvm.MethodName)) ∈ TT := mt7 (i := 159) rfl rfl
theorem wd_982 : (Jvm.Cond.code ({ cls := "TopYardModel", name := "findPairs", desc := "()V" } : Jvm.MethodName) prog_13_method_80_code (3 : Nat) (Option.none : Option Jvm.ClassFile.FieldType)) ∈ TT := mt7 (i := 160) rfl rfl
theorem wd_983 : (Jvm.Cond.methodLink "TopYardModel" (429 : Nat) ({ cls := "TopYardModel", name := "lacks", desc := "(III)I" } : Jvm.MethodName)) ∈ TT := mt7 (i := 185) rfl rfl
theorem wd_984 : (Jvm.Cond.instanceMethod ({ cls := "TopYardModel", name := "lacks", desc := "(III)I" } : Jvm.MethodName)) ∈ TT := mt7 (i := 187) rfl rfl
theorem wd_985 : (Jvm.Cond.code ({ cls := "TopYardModel", name := "lacks", desc := "(III)I" } : Jvm.MethodName) prog_13_method_87_code (4 : Nat) (Option.some Jvm.ClassFile.FieldType.int)) ∈ TT := mt7 (i := 188) rfl rfl
theorem wd_986 : (Jvm.Cond.methodLink "TopYardModel" (432 : Nat) ({ cls := "TopYardModel", name := "cut", desc := "(II)I" } : Jvm.MethodName)) ∈ TT := mt7 (i := 189) rfl rfl
theorem wd_987 : (Jvm.Cond.static ({ cls := "TopYardModel", name := "cut", desc := "(II)I" } : Jvm.MethodName)) ∈ TT := mt7 (i := 190) rfl rfl
theorem wd_988 : (Jvm.Cond.code ({ cls := "TopYardModel", name := "cut", desc := "(II)I" } : Jvm.MethodName) prog_13_method_88_code (2 : Nat) (Option.some Jvm.ClassFile.FieldType.int)) ∈ TT := mt7 (i := 191) rfl rfl
theorem wd_989 : (Jvm.Cond.methodLink "TopYardModel" (437 : Nat) ({ cls := "TopYardModel", name := "count", desc := "(I)I" } : Jvm.MethodName)) ∈ TT := mt7 (i := 213) rfl rfl
theorem wd_990 : (Jvm.Cond.methodLink "TopYardModel" (440 : Nat) ({ cls := "TopYardModel", name := "run", desc := "()I" } : Jvm.MethodName)) ∈ TT := mt7 (i := 214) rfl rfl
theorem wd_991 : (Jvm.Cond.methodLink "TopYardModel" (443 : Nat) ({ cls := "TopYardModel", name := "winner", desc := "()I" } : Jvm.MethodName)) ∈ TT := mt7 (i := 215) rfl rfl
theorem wd_992 : (Jvm.Cond.methodLink "TopYardModel" (446 : Nat) ({ cls := "TopYardModel", name := "value", desc := "()I" } : Jvm.MethodName)) ∈ TT := mt7 (i := 216) rfl rfl
theorem wd_993 : (Jvm.Cond.methodLink "TopYard$Past" (28 : Nat) ({ cls := "TopYard$Past", name := "speaks", desc := "(II)Z" } : Jvm.MethodName)) ∈ TT := mt4 (i := 85) rfl rfl
theorem wd_994 : (Jvm.Cond.instanceMethod ({ cls := "TopYard$Past", name := "speaks", desc := "(II)Z" } : Jvm.MethodName)) ∈ TT := mt4 (i := 74) rfl rfl
theorem wd_995 : (Jvm.Cond.selects "TopYard$Past" ({ cls := "TopYard$Past", name := "speaks", desc := "(II)Z" } : Jvm.MethodName) ({ cls := "TopYard$Past", name := "speaks", desc := "(II)Z" } : Jvm.MethodName)) ∈ TT := mt4 (i := 75) rfl rfl
theorem wd_996 : (Jvm.Cond.code ({ cls := "TopYard$Past", name := "speaks", desc := "(II)Z" } : Jvm.MethodName) prog_8_method_3_code (3 : Nat) (Option.some Jvm.ClassFile.FieldType.boolean)) ∈ TT := mt4 (i := 76) rfl rfl
theorem wd_997 : (Jvm.Cond.methodLink "TopYard$Past" (32 : Nat) ({ cls := "TopYard$Past", name := "sided", desc := "(III)I" } : Jvm.MethodName)) ∈ TT := mt4 (i := 86) rfl rfl
theorem wd_998 : (Jvm.Cond.instanceMethod ({ cls := "TopYard$Past", name := "sided", desc := "(III)I" } : Jvm.MethodName)) ∈ TT := mt4 (i := 88) rfl rfl
theorem wd_999 : (Jvm.Cond.code ({ cls := "TopYard$Past", name := "sided", desc := "(III)I" } : Jvm.MethodName) prog_8_method_9_code (4 : Nat) (Option.some Jvm.ClassFile.FieldType.int)) ∈ TT := mt4 (i := 89) rfl rfl
theorem wd_1000 : (Jvm.Cond.methodLink "TopYard$Past" (36 : Nat) ({ cls := "TopYard$Past", name := "chances", desc := "(I)I" } : Jvm.MethodName)) ∈ TT := mt4 (i := 98) rfl rfl
theorem wd_1001 : (Jvm.Cond.instanceMethod ({ cls := "TopYard$Past", name := "chances", desc := "(I)I" } : Jvm.MethodName)) ∈ TT := mt4 (i := 91) rfl rfl
theorem wd_1002 : (Jvm.Cond.selects "TopYard$Past" ({ cls := "TopYard$Past", name := "chances", desc := "(I)I" } : Jvm.MethodName) ({ cls := "TopYard$Past", name := "chances", desc := "(I)I" } : Jvm.MethodName)) ∈ TT := mt4 (i := 92) rfl rfl
theorem wd_1003 : (Jvm.Cond.code ({ cls := "TopYard$Past", name := "chances", desc := "(I)I" } : Jvm.MethodName) prog_8_method_6_code (4 : Nat) (Option.some Jvm.ClassFile.FieldType.int)) ∈ TT := mt4 (i := 93) rfl rfl
theorem wd_1004 : (Jvm.Cond.methodLink "TopYard$Past" (40 : Nat) ({ cls := "TopYard$Past", name := "surprises", desc := "(I)I" } : Jvm.MethodName)) ∈ TT := mt4 (i := 99) rfl rfl
theorem wd_1005 : (Jvm.Cond.instanceMethod ({ cls := "TopYard$Past", name := "surprises", desc := "(I)I" } : Jvm.MethodName)) ∈ TT := mt4 (i := 82) rfl rfl
theorem wd_1006 : (Jvm.Cond.selects "TopYard$Past" ({ cls := "TopYard$Past", name := "surprises", desc := "(I)I" } : Jvm.MethodName) ({ cls := "TopYard$Past", name := "surprises", desc := "(I)I" } : Jvm.MethodName)) ∈ TT := mt4 (i := 83) rfl rfl
theorem wd_1007 : (Jvm.Cond.code ({ cls := "TopYard$Past", name := "surprises", desc := "(I)I" } : Jvm.MethodName) prog_8_method_5_code (4 : Nat) (Option.some Jvm.ClassFile.FieldType.int)) ∈ TT := mt4 (i := 84) rfl rfl
theorem wd_1008 : (Jvm.Cond.methodLink "TopYard$Pack" (25 : Nat) ({ cls := "java/lang/Math", name := "min", desc := "(II)I" } : Jvm.MethodName)) ∈ TT := mt5 (i := 9) rfl rfl
theorem wd_1009 : (Jvm.Cond.static ({ cls := "java/lang/Math", name := "min", desc := "(II)I" } : Jvm.MethodName)) ∈ TT := mt3 (i := 47) rfl rfl
theorem wd_1010 : (Jvm.Cond.code ({ cls := "java/lang/Math", name := "min", desc := "(II)I" } : Jvm.MethodName) prog_15_method_69_code (2 : Nat) (Option.some Jvm.ClassFile.FieldType.int)) ∈ TT := mt3 (i := 48) rfl rfl
theorem wd_1011 : (Jvm.Cond.methodLink "TopYard$Pack" (31 : Nat) ({ cls := "java/lang/Math", name := "max", desc := "(II)I" } : Jvm.MethodName)) ∈ TT := mt5 (i := 10) rfl rfl
theorem wd_1012 : (Jvm.Cond.methodLink "TopYard$Pack" (35 : Nat) ({ cls := "java/util/Arrays", name := "fill", desc := "([II)V" } : Jvm.MethodName)) ∈ TT := mt5 (i := 12) rfl rfl
theorem wd_1013 : (Jvm.Cond.methodLink "TopYard$Sheet" (26 : Nat) ({ cls := "java/lang/Math", name := "min", desc := "(II)I" } : Jvm.MethodName)) ∈ TT := mt5 (i := 36) rfl rfl
theorem wd_1014 : (Jvm.Cond.methodLink "TopYard$Sheet" (32 : Nat) ({ cls := "java/lang/Math", name := "max", desc := "(II)I" } : Jvm.MethodName)) ∈ TT := mt5 (i := 37) rfl rfl
theorem wd_1015 : (Jvm.Cond.methodLink "TopYard$Sheet" (35 : Nat) ({ cls := "java/util/Arrays", name := "fill", desc := "([II)V" } : Jvm.MethodName)) ∈ TT := mt5 (i := 38) rfl rfl
theorem wd_1016 : (Jvm.Cond.methodLink "TopYard$Sheet" (41 : Nat) ({ cls := "TopYard$Sheet", name := "narrowed", desc := "(I)I" } : Jvm.MethodName)) ∈ TT := mt5 (i := 55) rfl rfl
theorem wd_1017 : (Jvm.Cond.instanceMethod ({ cls := "TopYard$Sheet", name := "narrowed", desc := "(I)I" } : Jvm.MethodName)) ∈ TT := mt5 (i := 57) rfl rfl
theorem wd_1018 : (Jvm.Cond.code ({ cls := "TopYard$Sheet", name := "narrowed", desc := "(I)I" } : Jvm.MethodName) prog_9_method_8_code (2 : Nat) (Option.some Jvm.ClassFile.FieldType.int)) ∈ TT := mt5 (i := 58) rfl rfl
theorem wd_1019 : (Jvm.Cond.methodLink "TopYard$Spinner" (102 : Nat) ({ cls := "java/lang/Math", name := "floorDiv", desc := "(JJ)J" } : Jvm.MethodName)) ∈ TT := mt3 (i := 74) rfl rfl
theorem wd_1020 : (Jvm.Cond.methodLink "TopYard$Spinner" (108 : Nat) ({ cls := "TopYard$Bowl", name := "slopeAlongX", desc := "(II)I" } : Jvm.MethodName)) ∈ TT := mt3 (i := 78) rfl rfl
theorem wd_1021 : (Jvm.Cond.instanceMethod ({ cls := "TopYard$Bowl", name := "slopeAlongX", desc := "(II)I" } : Jvm.MethodName)) ∈ TT := mt2 (i := 209) rfl rfl
theorem wd_1022 : (Jvm.Cond.selects "TopYard$Bowl" ({ cls := "TopYard$Bowl", name := "slopeAlongX", desc := "(II)I" } : Jvm.MethodName) ({ cls := "TopYard$Bowl", name := "slopeAlongX", desc := "(II)I" } : Jvm.MethodName)) ∈ TT := mt2 (i := 210) rfl rfl
theorem wd_1023 : (Jvm.Cond.code ({ cls := "TopYard$Bowl", name := "slopeAlongX", desc := "(II)I" } : Jvm.MethodName) prog_3_method_6_code (3 : Nat) (Option.some Jvm.ClassFile.FieldType.int)) ∈ TT := mt2 (i := 211) rfl rfl
theorem wd_1024 : (Jvm.Cond.methodLink "TopYard$Spinner" (113 : Nat) ({ cls := "TopYard$Bowl", name := "slopeAlongY", desc := "(II)I" } : Jvm.MethodName)) ∈ TT := mt3 (i := 79) rfl rfl
theorem wd_1025 : (Jvm.Cond.instanceMethod ({ cls := "TopYard$Bowl", name := "slopeAlongY", desc := "(II)I" } : Jvm.MethodName)) ∈ TT := mt2 (i := 214) rfl rfl
theorem wd_1026 : (Jvm.Cond.selects "TopYard$Bowl" ({ cls := "TopYard$Bowl", name := "slopeAlongY", desc := "(II)I" } : Jvm.MethodName) ({ cls := "TopYard$Bowl", name := "slopeAlongY", desc := "(II)I" } : Jvm.MethodName)) ∈ TT := mt2 (i := 215) rfl rfl
theorem wd_1027 : (Jvm.Cond.code ({ cls := "TopYard$Bowl", name := "slopeAlongY", desc := "(II)I" } : Jvm.MethodName) prog_3_method_7_code (3 : Nat) (Option.some Jvm.ClassFile.FieldType.int)) ∈ TT := mt2 (i := 216) rfl rfl
theorem wd_1028 : (Jvm.Cond.methodLink "TopYard$Spinner" (116 : Nat) ({ cls := "java/lang/Math", name := "floorMod", desc := "(II)I" } : Jvm.MethodName)) ∈ TT := mt3 (i := 80) rfl rfl
theorem wd_1029 : (Jvm.Cond.static ({ cls := "java/lang/Math", name := "floorMod", desc := "(II)I" } : Jvm.MethodName)) ∈ TT := mt3 (i := 81) rfl rfl
theorem wd_1030 : (Jvm.Cond.code ({ cls := "java/lang/Math", name := "floorMod", desc := "(II)I" } : Jvm.MethodName) prog_15_method_50_code (3 : Nat) (Option.some Jvm.ClassFile.FieldType.int)) ∈ TT := mt3 (i := 82) rfl rfl
theorem wd_1031 : (Jvm.Cond.methodLink "TopYard$Spinner" (121 : Nat) ({ cls := "TopYard$Spinner", name := "isWithin", desc := "(I)Z" } : Jvm.MethodName)) ∈ TT := mt3 (i := 92) rfl rfl
theorem wd_1032 : (Jvm.Cond.instanceMethod ({ cls := "TopYard$Spinner", name := "isWithin", desc := "(I)Z" } : Jvm.MethodName)) ∈ TT := mt3 (i := 94) rfl rfl
theorem wd_1033 : (Jvm.Cond.code ({ cls := "TopYard$Spinner", name := "isWithin", desc := "(I)Z" } : Jvm.MethodName) prog_10_method_13_code (4 : Nat) (Option.some Jvm.ClassFile.FieldType.boolean)) ∈ TT := mt3 (i := 95) rfl rfl
theorem wd_1034 : (Jvm.Cond.methodLink "TopYard$Spinner" (40 : Nat) ({ cls := "java/lang/Math", name := "max", desc := "(II)I" } : Jvm.MethodName)) ∈ TT := mt3 (i := 41) rfl rfl
theorem wd_1035 : (Jvm.Cond.methodLink "TopYard$Spinner" (73 : Nat) ({ cls := "TopYard$Headings", name := "alongX", desc := "(I)I" } : Jvm.MethodName)) ∈ TT := mt3 (i := 44) rfl rfl
theorem wd_1036 : (Jvm.Cond.methodLink "TopYard$Spinner" (82 : Nat) ({ cls := "TopYard$Headings", name := "alongY", desc := "(I)I" } : Jvm.MethodName)) ∈ TT := mt3 (i := 45) rfl rfl
theorem wd_1037 : (Jvm.Cond.static ({ cls := "TopYard$Headings", name := "alongY", desc := "(I)I" } : Jvm.MethodName)) ∈ TT := mt2 (i := 112) rfl rfl
theorem wd_1038 : (Jvm.Cond.code ({ cls := "TopYard$Headings", name := "alongY", desc := "(I)I" } : Jvm.MethodName) prog_6_method_3_code (1 : Nat) (Option.some Jvm.ClassFile.FieldType.int)) ∈ TT := mt2 (i := 113) rfl rfl
theorem wd_1039 : (Jvm.Cond.methodLink "TopYard$Spinner" (88 : Nat) ({ cls := "java/lang/Math", name := "min", desc := "(II)I" } : Jvm.MethodName)) ∈ TT := mt3 (i := 46) rfl rfl
theorem wd_1040 : (Jvm.Cond.methodLink "TopYard" (100 : Nat) ({ cls := "TopYard$Headings", name := "alongY", desc := "(I)I" } : Jvm.MethodName)) ∈ TT := mt2 (i := 111) rfl rfl
theorem wd_1041 : (Jvm.Cond.methodLink "TopYard" (103 : Nat) ({ cls := "TopYard", name := "isOwner", desc := "(I)Z" } : Jvm.MethodName)) ∈ TT := mt2 (i := 119) rfl rfl
theorem wd_1042 : (Jvm.Cond.static ({ cls := "TopYard", name := "isOwner", desc := "(I)Z" } : Jvm.MethodName)) ∈ TT := mt2 (i := 120) rfl rfl
theorem wd_1043 : (Jvm.Cond.code ({ cls := "TopYard", name := "isOwner", desc := "(I)Z" } : Jvm.MethodName) prog_1_method_50_code (1 : Nat) (Option.some Jvm.ClassFile.FieldType.boolean)) ∈ TT := mt2 (i := 121) rfl rfl
theorem wd_1044 : (Jvm.Cond.methodLink "TopYard" (110 : Nat) ({ cls := "TopYard", name := "topAt", desc := "(I)LTopYard$Top;" } : Jvm.MethodName)) ∈ TT := mt2 (i := 162) rfl rfl
theorem wd_1045 : (Jvm.Cond.instanceMethod ({ cls := "TopYard", name := "topAt", desc := "(I)LTopYard$Top;" } : Jvm.MethodName)) ∈ TT := mt2 (i := 164) rfl rfl
theorem wd_1046 : (Jvm.Cond.code ({ cls := "TopYard", name := "topAt", desc := "(I)LTopYard$Top;" } : Jvm.MethodName) prog_1_method_51_code (2 : Nat) (Option.some (Jvm.ClassFile.FieldType.object "TopYard$Top"))) ∈ TT := mt2 (i := 165) rfl rfl
theorem wd_1047 : (Jvm.Cond.methodLink "TopYard" (138 : Nat) ({ cls := "TopYard$Bowl", name := "mayDent", desc := "(II)Z" } : Jvm.MethodName)) ∈ TT := mt2 (i := 182) rfl rfl
theorem wd_1048 : (Jvm.Cond.methodLink "TopYard" (142 : Nat) ({ cls := "TopYard$Bowl", name := "raise", desc := "(III)Z" } : Jvm.MethodName)) ∈ TT := mt2 (i := 185) rfl rfl
theorem wd_1049 : (Jvm.Cond.instanceMethod ({ cls := "TopYard$Bowl", name := "raise", desc := "(III)Z" } : Jvm.MethodName)) ∈ TT := mt2 (i := 186) rfl rfl
theorem wd_1050 : (Jvm.Cond.selects "TopYard$Bowl" ({ cls := "TopYard$Bowl", name := "raise", desc := "(III)Z" } : Jvm.MethodName) ({ cls := "TopYard$Bowl", name := "raise", desc := "(III)Z" } : Jvm.MethodName)) ∈ TT := mt2 (i := 187) rfl rfl
theorem wd_1051 : (Jvm.Cond.code ({ cls := "TopYard$Bowl", name := "raise", desc := "(III)Z" } : Jvm.MethodName) prog_3_method_3_code (4 : Nat) (Option.some Jvm.ClassFile.FieldType.boolean)) ∈ TT := mt2 (i := 188) rfl rfl
theorem wd_1052 : (Jvm.Cond.methodLink "TopYard" (148 : Nat) ({ cls := "TopYard$Bowl", name := "flatten", desc := "()V" } : Jvm.MethodName)) ∈ TT := mt2 (i := 194) rfl rfl
theorem wd_1053 : (Jvm.Cond.instanceMethod ({ cls := "TopYard$Bowl", name := "flatten", desc := "()V" } : Jvm.MethodName)) ∈ TT := mt2 (i := 195) rfl rfl
theorem wd_1054 : (Jvm.Cond.selects "TopYard$Bowl" ({ cls := "TopYard$Bowl", name := "flatten", desc := "()V" } : Jvm.MethodName) ({ cls := "TopYard$Bowl", name := "flatten", desc := "()V" } : Jvm.MethodName)) ∈ TT := mt2 (i := 196) rfl rfl
theorem wd_1055 : (Jvm.Cond.code ({ cls := "TopYard$Bowl", name := "flatten", desc := "()V" } : Jvm.MethodName) prog_3_method_4_code (1 : Nat) (Option.none : Option Jvm.ClassFile.FieldType)) ∈ TT := mt2 (i := 197) rfl rfl
theorem wd_1056 : (Jvm.Cond.methodLink "TopYard" (152 : Nat) ({ cls := "TopYard$Bowl", name := "heightAt", desc := "(II)I" } : Jvm.MethodName)) ∈ TT := mt2 (i := 204) rfl rfl
theorem wd_1057 : (Jvm.Cond.methodLink "TopYard" (156 : Nat) ({ cls := "TopYard$Bowl", name := "slopeAlongX", desc := "(II)I" } : Jvm.MethodName)) ∈ TT := mt2 (i := 208) rfl rfl
theorem wd_1058 : (Jvm.Cond.methodLink "TopYard" (159 : Nat) ({ cls := "TopYard$Bowl", name := "slopeAlongY", desc := "(II)I" } : Jvm.MethodName)) ∈ TT := mt2 (i := 213) rfl rfl
theorem wd_1059 : (Jvm.Cond.methodLink "TopYard" (162 : Nat) ({ cls := "TopYard$Bout", name := "holds", desc := "(I)Z" } : Jvm.MethodName)) ∈ TT := mt2 (i := 225) rfl rfl
theorem wd_1060 : (Jvm.Cond.instanceMethod ({ cls := "TopYard$Bout", name := "holds", desc := "(I)Z" } : Jvm.MethodName)) ∈ TT := mt2 (i := 226) rfl rfl
theorem wd_1061 : (Jvm.Cond.selects "TopYard$Bout" ({ cls := "TopYard$Bout", name := "holds", desc := "(I)Z" } : Jvm.MethodName) ({ cls := "TopYard$Bout", name := "holds", desc := "(I)Z" } : Jvm.MethodName)) ∈ TT := mt2 (i := 227) rfl rfl
theorem wd_1062 : (Jvm.Cond.code ({ cls := "TopYard$Bout", name := "holds", desc := "(I)Z" } : Jvm.MethodName) prog_2_method_4_code (4 : Nat) (Option.some Jvm.ClassFile.FieldType.boolean)) ∈ TT := mt2 (i := 228) rfl rfl
theorem wd_1063 : (Jvm.Cond.methodLink "TopYard" (165 : Nat) ({ cls := "TopYard$Bout", name := "addSpinner", desc := "(LTopYard$Top;I)LTopYard$Spinner;" } : Jvm.MethodName)) ∈ TT := mt2 (i := 233) rfl rfl
theorem wd_1064 : (Jvm.Cond.instanceMethod ({ cls := "TopYard$Bout", name := "addSpinner", desc := "(LTopYard$Top;I)LTopYard$Spinner;" } : Jvm.MethodName)) ∈ TT := mt2 (i := 234) rfl rfl
theorem wd_1065 : (Jvm.Cond.selects "TopYard$Bout" ({ cls := "TopYard$Bout", name := "addSpinner", desc := "(LTopYard$Top;I)LTopYard$Spinner;" } : Jvm.MethodName) ({ cls := "TopYard$Bout", name := "addSpinner", desc := "(LTopYard$Top;I)LTopYard$Spinner;" } : Jvm.MethodName)) ∈ TT := mt2 (i := 235) rfl rfl
theorem wd_1066 : (Jvm.Cond.code ({ cls := "TopYard$Bout", name := "addSpinner", desc := "(LTopYard$Top;I)LTopYard$Spinner;" } : Jvm.MethodName) prog_2_method_5_code (4 : Nat) (Option.some (Jvm.ClassFile.FieldType.object "TopYard$Spinner"))) ∈ TT := mt2 (i := 236) rfl rfl
theorem wd_1067 : (Jvm.Cond.methodLink "TopYard" (169 : Nat) ({ cls := "TopYard$Spinner", name := "set", desc := "(IIII)V" } : Jvm.MethodName)) ∈ TT := mt2 (i := 237) rfl rfl
theorem wd_1068 : (Jvm.Cond.instanceMethod ({ cls := "TopYard$Spinner", name := "set", desc := "(IIII)V" } : Jvm.MethodName)) ∈ TT := mt2 (i := 238) rfl rfl
theorem wd_1069 : (Jvm.Cond.selects "TopYard$Spinner" ({ cls := "TopYard$Spinner", name := "set", desc := "(IIII)V" } : Jvm.MethodName) ({ cls := "TopYard$Spinner", name := "set", desc := "(IIII)V" } : Jvm.MethodName)) ∈ TT := mt2 (i := 239) rfl rfl
theorem wd_1070 : (Jvm.Cond.code ({ cls := "TopYard$Spinner", name := "set", desc := "(IIII)V" } : Jvm.MethodName) prog_10_method_2_code (5 : Nat) (Option.none : Option Jvm.ClassFile.FieldType)) ∈ TT := mt3 (i := 0) rfl rfl
theorem wd_1071 : (Jvm.Cond.methodLink "TopYard" (178 : Nat) ({ cls := "TopYard$Bout", name := "empty", desc := "()V" } : Jvm.MethodName)) ∈ TT := mt3 (i := 5) rfl rfl
theorem wd_1072 : (Jvm.Cond.instanceMethod ({ cls := "TopYard$Bout", name := "empty", desc := "()V" } : Jvm.MethodName)) ∈ TT := mt3 (i := 6) rfl rfl
theorem wd_1073 : (Jvm.Cond.selects "TopYard$Bout" ({ cls := "TopYard$Bout", name := "empty", desc := "()V" } : Jvm.MethodName) ({ cls := "TopYard$Bout", name := "empty", desc := "()V" } : Jvm.MethodName)) ∈ TT := mt3 (i := 7) rfl rfl
theorem wd_1074 : (Jvm.Cond.code ({ cls := "TopYard$Bout", name := "empty", desc := "()V" } : Jvm.MethodName) prog_2_method_2_code (1 : Nat) (Option.none : Option Jvm.ClassFile.FieldType)) ∈ TT := mt3 (i := 8) rfl rfl
theorem wd_1075 : (Jvm.Cond.methodLink "TopYard" (181 : Nat) ({ cls := "TopYard$Bout", name := "addWhip", desc := "(III)Z" } : Jvm.MethodName)) ∈ TT := mt3 (i := 13) rfl rfl
theorem wd_1076 : (Jvm.Cond.instanceMethod ({ cls := "TopYard$Bout", name := "addWhip", desc := "(III)Z" } : Jvm.MethodName)) ∈ TT := mt3 (i := 14) rfl rfl
theorem wd_1077 : (Jvm.Cond.selects "TopYard$Bout" ({ cls := "TopYard$Bout", name := "addWhip", desc := "(III)Z" } : Jvm.MethodName) ({ cls := "TopYard$Bout", name := "addWhip", desc := "(III)Z" } : Jvm.MethodName)) ∈ TT := mt3 (i := 15) rfl rfl
theorem wd_1078 : (Jvm.Cond.code ({ cls := "TopYard$Bout", name := "addWhip", desc := "(III)Z" } : Jvm.MethodName) prog_2_method_6_code (4 : Nat) (Option.some Jvm.ClassFile.FieldType.boolean)) ∈ TT := mt3 (i := 16) rfl rfl
theorem wd_1079 : (Jvm.Cond.methodLink "TopYard" (187 : Nat) ({ cls := "TopYard", name := "spinBout", desc := "(I)I" } : Jvm.MethodName)) ∈ TT := mt3 (i := 21) rfl rfl
theorem wd_1080 : (Jvm.Cond.instanceMethod ({ cls := "TopYard", name := "spinBout", desc := "(I)I" } : Jvm.MethodName)) ∈ TT := mt3 (i := 23) rfl rfl
theorem wd_1081 : (Jvm.Cond.code ({ cls := "TopYard", name := "spinBout", desc := "(I)I" } : Jvm.MethodName) prog_1_method_54_code (2 : Nat) (Option.some Jvm.ClassFile.FieldType.int)) ∈ TT := mt3 (i := 24) rfl rfl
theorem wd_1082 : (Jvm.Cond.methodLink "TopYard" (190 : Nat) ({ cls := "TopYard$Bout", name := "lonePlace", desc := "()I" } : Jvm.MethodName)) ∈ TT := mt3 (i := 129) rfl rfl
theorem wd_1083 : (Jvm.Cond.instanceMethod ({ cls := "TopYard$Bout", name := "lonePlace", desc := "()I" } : Jvm.MethodName)) ∈ TT := mt3 (i := 130) rfl rfl
theorem wd_1084 : (Jvm.Cond.selects "TopYard$Bout" ({ cls := "TopYard$Bout", name := "lonePlace", desc := "()I" } : Jvm.MethodName) ({ cls := "TopYard$Bout", name := "lonePlace", desc := "()I" } : Jvm.MethodName)) ∈ TT := mt3 (i := 131) rfl rfl
theorem wd_1085 : (Jvm.Cond.code ({ cls := "TopYard$Bout", name := "lonePlace", desc := "()I" } : Jvm.MethodName) prog_2_method_8_code (2 : Nat) (Option.some Jvm.ClassFile.FieldType.int)) ∈ TT := mt3 (i := 132) rfl rfl
theorem wd_1086 : (Jvm.Cond.methodLink "TopYard" (200 : Nat) ({ cls := "TopYard$Bout", name := "at", desc := "(I)LTopYard$Spinner;" } : Jvm.MethodName)) ∈ TT := mt3 (i := 141) rfl rfl
theorem wd_1087 : (Jvm.Cond.methodLink "TopYard" (204 : Nat) ({ cls := "TopYard$Spinner", name := "figure", desc := "(I)I" } : Jvm.MethodName)) ∈ TT := mt3 (i := 142) rfl rfl
theorem wd_1088 : (Jvm.Cond.instanceMethod ({ cls := "TopYard$Spinner", name := "figure", desc := "(I)I" } : Jvm.MethodName)) ∈ TT := mt3 (i := 143) rfl rfl
theorem wd_1089 : (Jvm.Cond.selects "TopYard$Spinner" ({ cls := "TopYard$Spinner", name := "figure", desc := "(I)I" } : Jvm.MethodName) ({ cls := "TopYard$Spinner", name := "figure", desc := "(I)I" } : Jvm.MethodName)) ∈ TT := mt3 (i := 144) rfl rfl
theorem wd_1090 : (Jvm.Cond.code ({ cls := "TopYard$Spinner", name := "figure", desc := "(I)I" } : Jvm.MethodName) prog_10_method_14_code (2 : Nat) (Option.some Jvm.ClassFile.FieldType.int)) ∈ TT := mt3 (i := 145) rfl rfl
theorem wd_1091 : (Jvm.Cond.methodLink "TopYard" (213 : Nat) ({ cls := "TopYard$Choice", name := "begin", desc := "()V" } : Jvm.MethodName)) ∈ TT := mt3 (i := 150) rfl rfl
theorem wd_1092 : (Jvm.Cond.instanceMethod ({ cls := "TopYard$Choice", name := "begin", desc := "()V" } : Jvm.MethodName)) ∈ TT := mt3 (i := 151) rfl rfl
theorem wd_1093 : (Jvm.Cond.selects "TopYard$Choice" ({ cls := "TopYard$Choice", name := "begin", desc := "()V" } : Jvm.MethodName) ({ cls := "TopYard$Choice", name := "begin", desc := "()V" } : Jvm.MethodName)) ∈ TT := mt3 (i := 152) rfl rfl
theorem wd_1094 : (Jvm.Cond.code ({ cls := "TopYard$Choice", name := "begin", desc := "()V" } : Jvm.MethodName) prog_4_method_2_code (2 : Nat) (Option.none : Option Jvm.ClassFile.FieldType)) ∈ TT := mt3 (i := 153) rfl rfl
theorem wd_1095 : (Jvm.Cond.methodLink "TopYard" (216 : Nat) ({ cls := "TopYard$Choice", name := "addRow", desc := "(I)I" } : Jvm.MethodName)) ∈ TT := mt3 (i := 159) rfl rfl
theorem wd_1096 : (Jvm.Cond.instanceMethod ({ cls := "TopYard$Choice", name := "addRow", desc := "(I)I" } : Jvm.MethodName)) ∈ TT := mt3 (i := 160) rfl rfl
theorem wd_1097 : (Jvm.Cond.selects "TopYard$Choice" ({ cls := "TopYard$Choice", name := "addRow", desc := "(I)I" } : Jvm.MethodName) ({ cls := "TopYard$Choice", name := "addRow", desc := "(I)I" } : Jvm.MethodName)) ∈ TT := mt3 (i := 161) rfl rfl
theorem wd_1098 : (Jvm.Cond.code ({ cls := "TopYard$Choice", name := "addRow", desc := "(I)I" } : Jvm.MethodName) prog_4_method_5_code (2 : Nat) (Option.some Jvm.ClassFile.FieldType.int)) ∈ TT := mt3 (i := 162) rfl rfl
theorem wd_1099 : (Jvm.Cond.methodLink "TopYard" (219 : Nat) ({ cls := "TopYard$Choice", name := "addColumn", desc := "(I)I" } : Jvm.MethodName)) ∈ TT := mt3 (i := 163) rfl rfl
theorem wd_1100 : (Jvm.Cond.instanceMethod ({ cls := "TopYard$Choice", name := "addColumn", desc := "(I)I" } : Jvm.MethodName)) ∈ TT := mt3 (i := 164) rfl rfl
theorem wd_1101 : (Jvm.Cond.selects "TopYard$Choice" ({ cls := "TopYard$Choice", name := "addColumn", desc := "(I)I" } : Jvm.MethodName) ({ cls := "TopYard$Choice", name := "addColumn", desc := "(I)I" } : Jvm.MethodName)) ∈ TT := mt3 (i := 165) rfl rfl
theorem wd_1102 : (Jvm.Cond.code ({ cls := "TopYard$Choice", name := "addColumn", desc := "(I)I" } : Jvm.MethodName) prog_4_method_6_code (2 : Nat) (Option.some Jvm.ClassFile.FieldType.int)) ∈ TT := mt3 (i := 166) rfl rfl
theorem wd_1103 : (Jvm.Cond.methodLink "TopYard" (222 : Nat) ({ cls := "TopYard$Choice", name := "has", desc := "(II)Z" } : Jvm.MethodName)) ∈ TT := mt3 (i := 171) rfl rfl
theorem wd_1104 : (Jvm.Cond.instanceMethod ({ cls := "TopYard$Choice", name := "has", desc := "(II)Z" } : Jvm.MethodName)) ∈ TT := mt3 (i := 172) rfl rfl
theorem wd_1105 : (Jvm.Cond.selects "TopYard$Choice" ({ cls := "TopYard$Choice", name := "has", desc := "(II)Z" } : Jvm.MethodName) ({ cls := "TopYard$Choice", name := "has", desc := "(II)Z" } : Jvm.MethodName)) ∈ TT := mt3 (i := 173) rfl rfl
theorem wd_1106 : (Jvm.Cond.code ({ cls := "TopYard$Choice", name := "has", desc := "(II)Z" } : Jvm.MethodName) prog_4_method_4_code (3 : Nat) (Option.some Jvm.ClassFile.FieldType.boolean)) ∈ TT := mt3 (i := 174) rfl rfl
theorem wd_1107 : (Jvm.Cond.methodLink "TopYard" (229 : Nat) ({ cls := "TopYard$Choice", name := "isOpen", desc := "()Z" } : Jvm.MethodName)) ∈ TT := mt3 (i := 183) rfl rfl
theorem wd_1108 : (Jvm.Cond.instanceMethod ({ cls := "TopYard$Choice", name := "isOpen", desc := "()Z" } : Jvm.MethodName)) ∈ TT := mt3 (i := 184) rfl rfl
theorem wd_1109 : (Jvm.Cond.selects "TopYard$Choice" ({ cls := "TopYard$Choice", name := "isOpen", desc := "()Z" } : Jvm.MethodName) ({ cls := "TopYard$Choice", name := "isOpen", desc := "()Z" } : Jvm.MethodName)) ∈ TT := mt3 (i := 185) rfl rfl
theorem wd_1110 : (Jvm.Cond.code ({ cls := "TopYard$Choice", name := "isOpen", desc := "()Z" } : Jvm.MethodName) prog_4_method_3_code (1 : Nat) (Option.some Jvm.ClassFile.FieldType.boolean)) ∈ TT := mt3 (i := 186) rfl rfl
theorem wd_1111 : (Jvm.Cond.methodLink "TopYard" (239 : Nat) ({ cls := "TopYard", name := "duel", desc := "(IIII)I" } : Jvm.MethodName)) ∈ TT := mt3 (i := 187) rfl rfl
theorem wd_1112 : (Jvm.Cond.instanceMethod ({ cls := "TopYard", name := "duel", desc := "(IIII)I" } : Jvm.MethodName)) ∈ TT := mt3 (i := 189) rfl rfl
theorem wd_1113 : (Jvm.Cond.code ({ cls := "TopYard", name := "duel", desc := "(IIII)I" } : Jvm.MethodName) prog_1_method_55_code (10 : Nat) (Option.some Jvm.ClassFile.FieldType.int)) ∈ TT := mt3 (i := 190) rfl rfl
theorem wd_1114 : (Jvm.Cond.methodLink "TopYard" (243 : Nat) ({ cls := "TopYard$Choice", name := "solve", desc := "()V" } : Jvm.MethodName)) ∈ TT := mt3 (i := 199) rfl rfl
theorem wd_1115 : (Jvm.Cond.instanceMethod ({ cls := "TopYard$Choice", name := "solve", desc := "()V" } : Jvm.MethodName)) ∈ TT := mt3 (i := 200) rfl rfl
theorem wd_1116 : (Jvm.Cond.selects "TopYard$Choice" ({ cls := "TopYard$Choice", name := "solve", desc := "()V" } : Jvm.MethodName) ({ cls := "TopYard$Choice", name := "solve", desc := "()V" } : Jvm.MethodName)) ∈ TT := mt3 (i := 201) rfl rfl
theorem wd_1117 : (Jvm.Cond.code ({ cls := "TopYard$Choice", name := "solve", desc := "()V" } : Jvm.MethodName) prog_4_method_9_code (3 : Nat) (Option.none : Option Jvm.ClassFile.FieldType)) ∈ TT := mt3 (i := 202) rfl rfl
theorem wd_1118 : (Jvm.Cond.methodLink "TopYard" (246 : Nat) ({ cls := "TopYard$Choice", name := "valueInMillionths", desc := "()I" } : Jvm.MethodName)) ∈ TT := mt4 (i := 13) rfl rfl
theorem wd_1119 : (Jvm.Cond.instanceMethod ({ cls := "TopYard$Choice", name := "valueInMillionths", desc := "()I" } : Jvm.MethodName)) ∈ TT := mt4 (i := 14) rfl rfl
theorem wd_1120 : (Jvm.Cond.selects "TopYard$Choice" ({ cls := "TopYard$Choice", name := "valueInMillionths", desc := "()I" } : Jvm.MethodName) ({ cls := "TopYard$Choice", name := "valueInMillionths", desc := "()I" } : Jvm.MethodName)) ∈ TT := mt4 (i := 15) rfl rfl
theorem wd_1121 : (Jvm.Cond.code ({ cls := "TopYard$Choice", name := "valueInMillionths", desc := "()I" } : Jvm.MethodName) prog_4_method_7_code (1 : Nat) (Option.some Jvm.ClassFile.FieldType.int)) ∈ TT := mt4 (i := 16) rfl rfl
theorem wd_1122 : (Jvm.Cond.methodLink "TopYard" (256 : Nat) ({ cls := "TopYard$Choice", name := "inMillionths", desc := "(J)I" } : Jvm.MethodName)) ∈ TT := mt4 (i := 28) rfl rfl
theorem wd_1123 : (Jvm.Cond.methodLink "TopYard" (260 : Nat) ({ cls := "TopYard", name := "mayBeRow", desc := "(III)Z" } : Jvm.MethodName)) ∈ TT := mt4 (i := 37) rfl rfl
theorem wd_1124 : (Jvm.Cond.instanceMethod ({ cls := "TopYard", name := "mayBeRow", desc := "(III)Z" } : Jvm.MethodName)) ∈ TT := mt4 (i := 39) rfl rfl
theorem wd_1125 : (Jvm.Cond.code ({ cls := "TopYard", name := "mayBeRow", desc := "(III)Z" } : Jvm.MethodName) prog_1_method_56_code (4 : Nat) (Option.some Jvm.ClassFile.FieldType.boolean)) ∈ TT := mt4 (i := 40) rfl rfl
theorem wd_1126 : (Jvm.Cond.methodLink "TopYard" (263 : Nat) ({ cls := "TopYard$Past", name := "add", desc := "(III)Z" } : Jvm.MethodName)) ∈ TT := mt4 (i := 41) rfl rfl
theorem wd_1127 : (Jvm.Cond.instanceMethod ({ cls := "TopYard$Past", name := "add", desc := "(III)Z" } : Jvm.MethodName)) ∈ TT := mt4 (i := 42) rfl rfl
theorem wd_1128 : (Jvm.Cond.selects "TopYard$Past" ({ cls := "TopYard$Past", name := "add", desc := "(III)Z" } : Jvm.MethodName) ({ cls := "TopYard$Past", name := "add", desc := "(III)Z" } : Jvm.MethodName)) ∈ TT := mt4 (i := 43) rfl rfl
theorem wd_1129 : (Jvm.Cond.code ({ cls := "TopYard$Past", name := "add", desc := "(III)Z" } : Jvm.MethodName) prog_8_method_2_code (4 : Nat) (Option.some Jvm.ClassFile.FieldType.boolean)) ∈ TT := mt4 (i := 44) rfl rfl
theorem wd_1130 : (Jvm.Cond.methodLink "TopYard" (267 : Nat) ({ cls := "TopYard", name := "sheetAt", desc := "(I)LTopYard$Sheet;" } : Jvm.MethodName)) ∈ TT := mt4 (i := 53) rfl rfl
theorem wd_1131 : (Jvm.Cond.instanceMethod ({ cls := "TopYard", name := "sheetAt", desc := "(I)LTopYard$Sheet;" } : Jvm.MethodName)) ∈ TT := mt4 (i := 55) rfl rfl
theorem wd_1132 : (Jvm.Cond.code ({ cls := "TopYard", name := "sheetAt", desc := "(I)LTopYard$Sheet;" } : Jvm.MethodName) prog_1_method_52_code (2 : Nat) (Option.some (Jvm.ClassFile.FieldType.object "TopYard$Sheet"))) ∈ TT := mt4 (i := 56) rfl rfl
theorem wd_1133 : (Jvm.Cond.methodLink "TopYard" (275 : Nat) ({ cls := "TopYard", name := "find", desc := "(I)I" } : Jvm.MethodName)) ∈ TT := mt4 (i := 57) rfl rfl
theorem wd_1134 : (Jvm.Cond.instanceMethod ({ cls := "TopYard", name := "find", desc := "(I)I" } : Jvm.MethodName)) ∈ TT := mt4 (i := 59) rfl rfl
theorem wd_1135 : (Jvm.Cond.code ({ cls := "TopYard", name := "find", desc := "(I)I" } : Jvm.MethodName) prog_1_method_53_code (2 : Nat) (Option.some Jvm.ClassFile.FieldType.int)) ∈ TT := mt4 (i := 60) rfl rfl
theorem wd_1136 : (Jvm.Cond.methodLink "TopYard" (281 : Nat) ({ cls := "TopYard$Sheet", name := "item", desc := "(I)I" } : Jvm.MethodName)) ∈ TT := mt4 (i := 61) rfl rfl
theorem wd_1137 : (Jvm.Cond.instanceMethod ({ cls := "TopYard$Sheet", name := "item", desc := "(I)I" } : Jvm.MethodName)) ∈ TT := mt4 (i := 62) rfl rfl
theorem wd_1138 : (Jvm.Cond.selects "TopYard$Sheet" ({ cls := "TopYard$Sheet", name := "item", desc := "(I)I" } : Jvm.MethodName) ({ cls := "TopYard$Sheet", name := "item", desc := "(I)I" } : Jvm.MethodName)) ∈ TT := mt4 (i := 63) rfl rfl
theorem wd_1139 : (Jvm.Cond.code ({ cls := "TopYard$Sheet", name := "item", desc := "(I)I" } : Jvm.MethodName) prog_9_method_6_code (2 : Nat) (Option.some Jvm.ClassFile.FieldType.int)) ∈ TT := mt4 (i := 64) rfl rfl
theorem wd_1140 : (Jvm.Cond.methodLink "TopYard" (284 : Nat) ({ cls := "TopYard", name := "foretellRows", desc := "(I)V" } : Jvm.MethodName)) ∈ TT := mt4 (i := 69) rfl rfl
theorem wd_1141 : (Jvm.Cond.instanceMethod ({ cls := "TopYard", name := "foretellRows", desc := "(I)V" } : Jvm.MethodName)) ∈ TT := mt4 (i := 71) rfl rfl
theorem wd_1142 : (Jvm.Cond.code ({ cls := "TopYard", name := "foretellRows", desc := "(I)V" } : Jvm.MethodName) prog_1_method_57_code (4 : Nat) (Option.none : Option Jvm.ClassFile.FieldType)) ∈ TT := mt4 (i := 72) rfl rfl
theorem wd_1143 : (Jvm.Cond.methodLink "TopYard" (288 : Nat) ({ cls := "TopYard$Past", name := "surprises", desc := "(I)I" } : Jvm.MethodName)) ∈ TT := mt4 (i := 81) rfl rfl
theorem wd_1144 : (Jvm.Cond.methodLink "TopYard" (291 : Nat) ({ cls := "TopYard$Past", name := "chances", desc := "(I)I" } : Jvm.MethodName)) ∈ TT := mt4 (i := 90) rfl rfl
theorem wd_1145 : (Jvm.Cond.methodLink "TopYard" (294 : Nat) ({ cls := "TopYard$Past", name := "doubt", desc := "(I)I" } : Jvm.MethodName)) ∈ TT := mt4 (i := 94) rfl rfl
theorem wd_1146 : (Jvm.Cond.instanceMethod ({ cls := "TopYard$Past", name := "doubt", desc := "(I)I" } : Jvm.MethodName)) ∈ TT := mt4 (i := 95) rfl rfl
theorem wd_1147 : (Jvm.Cond.selects "TopYard$Past" ({ cls := "TopYard$Past", name := "doubt", desc := "(I)I" } : Jvm.MethodName) ({ cls := "TopYard$Past", name := "doubt", desc := "(I)I" } : Jvm.MethodName)) ∈ TT := mt4 (i := 96) rfl rfl
theorem wd_1148 : (Jvm.Cond.code ({ cls := "TopYard$Past", name := "doubt", desc := "(I)I" } : Jvm.MethodName) prog_8_method_8_code (9 : Nat) (Option.some Jvm.ClassFile.FieldType.int)) ∈ TT := mt4 (i := 97) rfl rfl
theorem wd_1149 : (Jvm.Cond.methodLink "TopYard" (298 : Nat) ({ cls := "TopYard$Past", name := "rowsAsTold", desc := "(I)I" } : Jvm.MethodName)) ∈ TT := mt4 (i := 110) rfl rfl
theorem wd_1150 : (Jvm.Cond.instanceMethod ({ cls := "TopYard$Past", name := "rowsAsTold", desc := "(I)I" } : Jvm.MethodName)) ∈ TT := mt4 (i := 111) rfl rfl
theorem wd_1151 : (Jvm.Cond.selects "TopYard$Past" ({ cls := "TopYard$Past", name := "rowsAsTold", desc := "(I)I" } : Jvm.MethodName) ({ cls := "TopYard$Past", name := "rowsAsTold", desc := "(I)I" } : Jvm.MethodName)) ∈ TT := mt4 (i := 112) rfl rfl
theorem wd_1152 : (Jvm.Cond.code ({ cls := "TopYard$Past", name := "rowsAsTold", desc := "(I)I" } : Jvm.MethodName) prog_8_method_7_code (4 : Nat) (Option.some Jvm.ClassFile.FieldType.int)) ∈ TT := mt4 (i := 113) rfl rfl
theorem wd_1153 : (Jvm.Cond.methodLink "TopYard" (301 : Nat) ({ cls := "TopYard$Game", name := "append", desc := "(I)Z" } : Jvm.MethodName)) ∈ TT := mt4 (i := 118) rfl rfl
theorem wd_1154 : (Jvm.Cond.instanceMethod ({ cls := "TopYard$Game", name := "append", desc := "(I)Z" } : Jvm.MethodName)) ∈ TT := mt4 (i := 119) rfl rfl
theorem wd_1155 : (Jvm.Cond.selects "TopYard$Game" ({ cls := "TopYard$Game", name := "append", desc := "(I)Z" } : Jvm.MethodName) ({ cls := "TopYard$Game", name := "append", desc := "(I)Z" } : Jvm.MethodName)) ∈ TT := mt4 (i := 120) rfl rfl
theorem wd_1156 : (Jvm.Cond.code ({ cls := "TopYard$Game", name := "append", desc := "(I)Z" } : Jvm.MethodName) prog_5_method_2_code (2 : Nat) (Option.some Jvm.ClassFile.FieldType.boolean)) ∈ TT := mt4 (i := 121) rfl rfl
theorem wd_1157 : (Jvm.Cond.methodLink "TopYard" (305 : Nat) ({ cls := "TopYard$Game", name := "parse", desc := "()I" } : Jvm.MethodName)) ∈ TT := mt4 (i := 130) rfl rfl
theorem wd_1158 : (Jvm.Cond.instanceMethod ({ cls := "TopYard$Game", name := "parse", desc := "()I" } : Jvm.MethodName)) ∈ TT := mt4 (i := 131) rfl rfl
theorem wd_1159 : (Jvm.Cond.selects "TopYard$Game" ({ cls := "TopYard$Game", name := "parse", desc := "()I" } : Jvm.MethodName) ({ cls := "TopYard$Game", name := "parse", desc := "()I" } : Jvm.MethodName)) ∈ TT := mt4 (i := 132) rfl rfl
theorem wd_1160 : (Jvm.Cond.code ({ cls := "TopYard$Game", name := "parse", desc := "()I" } : Jvm.MethodName) prog_5_method_8_code (7 : Nat) (Option.some Jvm.ClassFile.FieldType.int)) ∈ TT := mt4 (i := 133) rfl rfl
theorem wd_1161 : (Jvm.Cond.methodLink "TopYard" (308 : Nat) ({ cls := "TopYard", name := "topsOf", desc := "(I)I" } : Jvm.MethodName)) ∈ TT := mt4 (i := 168) rfl rfl
theorem wd_1162 : (Jvm.Cond.instanceMethod ({ cls := "TopYard", name := "topsOf", desc := "(I)I" } : Jvm.MethodName)) ∈ TT := mt4 (i := 170) rfl rfl
theorem wd_1163 : (Jvm.Cond.code ({ cls := "TopYard", name := "topsOf", desc := "(I)I" } : Jvm.MethodName) prog_1_method_58_code (4 : Nat) (Option.some Jvm.ClassFile.FieldType.int)) ∈ TT := mt4 (i := 171) rfl rfl
theorem wd_1164 : (Jvm.Cond.methodLink "TopYard" (311 : Nat) ({ cls := "TopYard", name := "playBouts", desc := "(II)V" } : Jvm.MethodName)) ∈ TT := mt4 (i := 176) rfl rfl
theorem wd_1165 : (Jvm.Cond.instanceMethod ({ cls := "TopYard", name := "playBouts", desc := "(II)V" } : Jvm.MethodName)) ∈ TT := mt4 (i := 178) rfl rfl
theorem wd_1166 : (Jvm.Cond.code ({ cls := "TopYard", name := "playBouts", desc := "(II)V" } : Jvm.MethodName) prog_1_method_61_code (9 : Nat) (Option.none : Option Jvm.ClassFile.FieldType)) ∈ TT := mt4 (i := 179) rfl rfl
theorem wd_1167 : (Jvm.Cond.methodLink "TopYard" (315 : Nat) ({ cls := "TopYard", name := "keepTops", desc := "(II)I" } : Jvm.MethodName)) ∈ TT := mt4 (i := 201) rfl rfl
theorem wd_1168 : (Jvm.Cond.instanceMethod ({ cls := "TopYard", name := "keepTops", desc := "(II)I" } : Jvm.MethodName)) ∈ TT := mt4 (i := 203) rfl rfl
theorem wd_1169 : (Jvm.Cond.code ({ cls := "TopYard", name := "keepTops", desc := "(II)I" } : Jvm.MethodName) prog_1_method_62_code (6 : Nat) (Option.some Jvm.ClassFile.FieldType.int)) ∈ TT := mt4 (i := 204) rfl rfl
theorem wd_1170 : (Jvm.Cond.methodLink "TopYard" (318 : Nat) ({ cls := "java/lang/Integer", name := "bitCount", desc := "(I)I" } : Jvm.MethodName)) ∈ TT := mt4 (i := 221) rfl rfl
theorem wd_1171 : (Jvm.Cond.methodLink "TopYard" (323 : Nat) ({ cls := "TopYard", name := "mateInPairing", desc := "(II)I" } : Jvm.MethodName)) ∈ TT := mt4 (i := 222) rfl rfl
theorem wd_1172 : (Jvm.Cond.instanceMethod ({ cls := "TopYard", name := "mateInPairing", desc := "(II)I" } : Jvm.MethodName)) ∈ TT := mt4 (i := 224) rfl rfl
theorem wd_1173 : (Jvm.Cond.code ({ cls := "TopYard", name := "mateInPairing", desc := "(II)I" } : Jvm.MethodName) prog_1_method_63_code (7 : Nat) (Option.some Jvm.ClassFile.FieldType.int)) ∈ TT := mt4 (i := 225) rfl rfl
theorem wd_1174 : (Jvm.Cond.methodLink "TopYard" (326 : Nat) ({ cls := "TopYard$Pack", name := "begin", desc := "(I)V" } : Jvm.MethodName)) ∈ TT := mt5 (i := 5) rfl rfl
theorem wd_1175 : (Jvm.Cond.instanceMethod ({ cls := "TopYard$Pack", name := "begin", desc := "(I)V" } : Jvm.MethodName)) ∈ TT := mt5 (i := 6) rfl rfl
theorem wd_1176 : (Jvm.Cond.selects "TopYard$Pack" ({ cls := "TopYard$Pack", name := "begin", desc := "(I)V" } : Jvm.MethodName) ({ cls := "TopYard$Pack", name := "begin", desc := "(I)V" } : Jvm.MethodName)) ∈ TT := mt5 (i := 7) rfl rfl
theorem wd_1177 : (Jvm.Cond.code ({ cls := "TopYard$Pack", name := "begin", desc := "(I)V" } : Jvm.MethodName) prog_7_method_2_code (2 : Nat) (Option.none : Option Jvm.ClassFile.FieldType)) ∈ TT := mt5 (i := 8) rfl rfl
theorem wd_1178 : (Jvm.Cond.methodLink "TopYard" (328 : Nat) ({ cls := "TopYard$Top", name := "worth", desc := "()I" } : Jvm.MethodName)) ∈ TT := mt5 (i := 13) rfl rfl
theorem wd_1179 : (Jvm.Cond.instanceMethod ({ cls := "TopYard$Top", name := "worth", desc := "()I" } : Jvm.MethodName)) ∈ TT := mt5 (i := 14) rfl rfl
theorem wd_1180 : (Jvm.Cond.selects "TopYard$Top" ({ cls := "TopYard$Top", name := "worth", desc := "()I" } : Jvm.MethodName) ({ cls := "TopYard$Top", name := "worth", desc := "()I" } : Jvm.MethodName)) ∈ TT := mt5 (i := 15) rfl rfl
theorem wd_1181 : (Jvm.Cond.code ({ cls := "TopYard$Top", name := "worth", desc := "()I" } : Jvm.MethodName) prog_11_method_2_code (1 : Nat) (Option.some Jvm.ClassFile.FieldType.int)) ∈ TT := mt5 (i := 16) rfl rfl
theorem wd_1182 : (Jvm.Cond.methodLink "TopYard" (331 : Nat) ({ cls := "TopYard$Pack", name := "offer", desc := "(II)V" } : Jvm.MethodName)) ∈ TT := mt5 (i := 17) rfl rfl
theorem wd_1183 : (Jvm.Cond.instanceMethod ({ cls := "TopYard$Pack", name := "offer", desc := "(II)V" } : Jvm.MethodName)) ∈ TT := mt5 (i := 18) rfl rfl
theorem wd_1184 : (Jvm.Cond.selects "TopYard$Pack" ({ cls := "TopYard$Pack", name := "offer", desc := "(II)V" } : Jvm.MethodName) ({ cls := "TopYard$Pack", name := "offer", desc := "(II)V" } : Jvm.MethodName)) ∈ TT := mt5 (i := 19) rfl rfl
theorem wd_1185 : (Jvm.Cond.code ({ cls := "TopYard$Pack", name := "offer", desc := "(II)V" } : Jvm.MethodName) prog_7_method_3_code (5 : Nat) (Option.none : Option Jvm.ClassFile.FieldType)) ∈ TT := mt5 (i := 20) rfl rfl
theorem wd_1186 : (Jvm.Cond.methodLink "TopYard" (334 : Nat) ({ cls := "TopYard$Pack", name := "bestWeight", desc := "()I" } : Jvm.MethodName)) ∈ TT := mt5 (i := 21) rfl rfl
theorem wd_1187 : (Jvm.Cond.instanceMethod ({ cls := "TopYard$Pack", name := "bestWeight", desc := "()I" } : Jvm.MethodName)) ∈ TT := mt5 (i := 22) rfl rfl
theorem wd_1188 : (Jvm.Cond.selects "TopYard$Pack" ({ cls := "TopYard$Pack", name := "bestWeight", desc := "()I" } : Jvm.MethodName) ({ cls := "TopYard$Pack", name := "bestWeight", desc := "()I" } : Jvm.MethodName)) ∈ TT := mt5 (i := 23) rfl rfl
theorem wd_1189 : (Jvm.Cond.code ({ cls := "TopYard$Pack", name := "bestWeight", desc := "()I" } : Jvm.MethodName) prog_7_method_4_code (3 : Nat) (Option.some Jvm.ClassFile.FieldType.int)) ∈ TT := mt5 (i := 24) rfl rfl
theorem wd_1190 : (Jvm.Cond.methodLink "TopYard" (343 : Nat) ({ cls := "TopYard$Sheet", name := "isForm", desc := "(I)Z" } : Jvm.MethodName)) ∈ TT := mt5 (i := 29) rfl rfl
theorem wd_1191 : (Jvm.Cond.static ({ cls := "TopYard$Sheet", name := "isForm", desc := "(I)Z" } : Jvm.MethodName)) ∈ TT := mt5 (i := 30) rfl rfl
theorem wd_1192 : (Jvm.Cond.code ({ cls := "TopYard$Sheet", name := "isForm", desc := "(I)Z" } : Jvm.MethodName) prog_9_method_2_code (1 : Nat) (Option.some Jvm.ClassFile.FieldType.boolean)) ∈ TT := mt5 (i := 31) rfl rfl
theorem wd_1193 : (Jvm.Cond.methodLink "TopYard" (346 : Nat) ({ cls := "TopYard$Sheet", name := "begin", desc := "(II)V" } : Jvm.MethodName)) ∈ TT := mt5 (i := 32) rfl rfl
theorem wd_1194 : (Jvm.Cond.instanceMethod ({ cls := "TopYard$Sheet", name := "begin", desc := "(II)V" } : Jvm.MethodName)) ∈ TT := mt5 (i := 33) rfl rfl
theorem wd_1195 : (Jvm.Cond.selects "TopYard$Sheet" ({ cls := "TopYard$Sheet", name := "begin", desc := "(II)V" } : Jvm.MethodName) ({ cls := "TopYard$Sheet", name := "begin", desc := "(II)V" } : Jvm.MethodName)) ∈ TT := mt5 (i := 34) rfl rfl
theorem wd_1196 : (Jvm.Cond.code ({ cls := "TopYard$Sheet", name := "begin", desc := "(II)V" } : Jvm.MethodName) prog_9_method_3_code (3 : Nat) (Option.none : Option Jvm.ClassFile.FieldType)) ∈ TT := mt5 (i := 35) rfl rfl
theorem wd_1197 : (Jvm.Cond.methodLink "TopYard" (348 : Nat) ({ cls := "TopYard$Sheet", name := "findingAt", desc := "(II)I" } : Jvm.MethodName)) ∈ TT := mt5 (i := 47) rfl rfl
theorem wd_1198 : (Jvm.Cond.instanceMethod ({ cls := "TopYard$Sheet", name := "findingAt", desc := "(II)I" } : Jvm.MethodName)) ∈ TT := mt5 (i := 48) rfl rfl
theorem wd_1199 : (Jvm.Cond.selects "TopYard$Sheet" ({ cls := "TopYard$Sheet", name := "findingAt", desc := "(II)I" } : Jvm.MethodName) ({ cls := "TopYard$Sheet", name := "findingAt", desc := "(II)I" } : Jvm.MethodName)) ∈ TT := mt5 (i := 49) rfl rfl
theorem wd_1200 : (Jvm.Cond.code ({ cls := "TopYard$Sheet", name := "findingAt", desc := "(II)I" } : Jvm.MethodName) prog_9_method_4_code (3 : Nat) (Option.some Jvm.ClassFile.FieldType.int)) ∈ TT := mt5 (i := 50) rfl rfl
theorem wd_1201 : (Jvm.Cond.methodLink "TopYard" (351 : Nat) ({ cls := "TopYard$Sheet", name := "store", desc := "(II)V" } : Jvm.MethodName)) ∈ TT := mt5 (i := 51) rfl rfl
theorem wd_1202 : (Jvm.Cond.instanceMethod ({ cls := "TopYard$Sheet", name := "store", desc := "(II)V" } : Jvm.MethodName)) ∈ TT := mt5 (i := 52) rfl rfl
theorem wd_1203 : (Jvm.Cond.selects "TopYard$Sheet" ({ cls := "TopYard$Sheet", name := "store", desc := "(II)V" } : Jvm.MethodName) ({ cls := "TopYard$Sheet", name := "store", desc := "(II)V" } : Jvm.MethodName)) ∈ TT := mt5 (i := 53) rfl rfl
theorem wd_1204 : (Jvm.Cond.code ({ cls := "TopYard$Sheet", name := "store", desc := "(II)V" } : Jvm.MethodName) prog_9_method_7_code (3 : Nat) (Option.none : Option Jvm.ClassFile.FieldType)) ∈ TT := mt5 (i := 54) rfl rfl
theorem wd_1205 : (Jvm.Cond.methodLink "TopYard" (357 : Nat) ({ cls := "TopYard$Sheet", name := "spans", desc := "(II)Z" } : Jvm.MethodName)) ∈ TT := mt5 (i := 67) rfl rfl
theorem wd_1206 : (Jvm.Cond.instanceMethod ({ cls := "TopYard$Sheet", name := "spans", desc := "(II)Z" } : Jvm.MethodName)) ∈ TT := mt5 (i := 68) rfl rfl
theorem wd_1207 : (Jvm.Cond.selects "TopYard$Sheet" ({ cls := "TopYard$Sheet", name := "spans", desc := "(II)Z" } : Jvm.MethodName) ({ cls := "TopYard$Sheet", name := "spans", desc := "(II)Z" } : Jvm.MethodName)) ∈ TT := mt5 (i := 69) rfl rfl
theorem wd_1208 : (Jvm.Cond.code ({ cls := "TopYard$Sheet", name := "spans", desc := "(II)Z" } : Jvm.MethodName) prog_9_method_5_code (3 : Nat) (Option.some Jvm.ClassFile.FieldType.boolean)) ∈ TT := mt5 (i := 70) rfl rfl
theorem wd_1209 : (Jvm.Cond.methodLink "TopYard" (369 : Nat) ({ cls := "java/lang/Math", name := "min", desc := "(II)I" } : Jvm.MethodName)) ∈ TT := mt5 (i := 76) rfl rfl
theorem wd_1210 : (Jvm.Cond.methodLink "TopYard" (378 : Nat) ({ cls := "TopYard", name := "count", desc := "(I)I" } : Jvm.MethodName)) ∈ TT := mt5 (i := 87) rfl rfl
theorem wd_1211 : (Jvm.Cond.methodLink "TopYard" (381 : Nat) ({ cls := "TopYard", name := "about", desc := "(II)I" } : Jvm.MethodName)) ∈ TT := mt5 (i := 88) rfl rfl
theorem wd_1212 : (Jvm.Cond.methodLink "TopYard" (384 : Nat) ({ cls := "TopYard", name := "run", desc := "()I" } : Jvm.MethodName)) ∈ TT := mt5 (i := 89) rfl rfl
theorem wd_1213 : (Jvm.Cond.methodLink "TopYard" (387 : Nat) ({ cls := "TopYard", name := "winner", desc := "()I" } : Jvm.MethodName)) ∈ TT := mt5 (i := 90) rfl rfl
theorem wd_1214 : (Jvm.Cond.methodLink "TopYard" (390 : Nat) ({ cls := "TopYard", name := "value", desc := "()I" } : Jvm.MethodName)) ∈ TT := mt5 (i := 91) rfl rfl
theorem wd_1215 : (Jvm.Cond.methodLink "TopYard" (393 : Nat) ({ cls := "TopYard$Bout", name := "spinUntil", desc := "(LTopYard$Bowl;[III)I" } : Jvm.MethodName)) ∈ TT := mt3 (i := 25) rfl rfl
theorem wd_1216 : (Jvm.Cond.instanceMethod ({ cls := "TopYard$Bout", name := "spinUntil", desc := "(LTopYard$Bowl;[III)I" } : Jvm.MethodName)) ∈ TT := mt3 (i := 26) rfl rfl
theorem wd_1217 : (Jvm.Cond.selects "TopYard$Bout" ({ cls := "TopYard$Bout", name := "spinUntil", desc := "(LTopYard$Bowl;[III)I" } : Jvm.MethodName) ({ cls := "TopYard$Bout", name := "spinUntil", desc := "(LTopYard$Bowl;[III)I" } : Jvm.MethodName)) ∈ TT := mt3 (i := 27) rfl rfl
theorem wd_1218 : (Jvm.Cond.code ({ cls := "TopYard$Bout", name := "spinUntil", desc := "(LTopYard$Bowl;[III)I" } : Jvm.MethodName) prog_2_method_7_code (6 : Nat) (Option.some Jvm.ClassFile.FieldType.int)) ∈ TT := mt3 (i := 28) rfl rfl
theorem wd_1219 : (Jvm.Cond.methodLink "TopYard" (397 : Nat) ({ cls := "TopYard$Spinner", name := "fellInRing", desc := "()Z" } : Jvm.MethodName)) ∈ TT := mt3 (i := 191) rfl rfl
theorem wd_1220 : (Jvm.Cond.instanceMethod ({ cls := "TopYard$Spinner", name := "fellInRing", desc := "()Z" } : Jvm.MethodName)) ∈ TT := mt3 (i := 192) rfl rfl
theorem wd_1221 : (Jvm.Cond.selects "TopYard$Spinner" ({ cls := "TopYard$Spinner", name := "fellInRing", desc := "()Z" } : Jvm.MethodName) ({ cls := "TopYard$Spinner", name := "fellInRing", desc := "()Z" } : Jvm.MethodName)) ∈ TT := mt3 (i := 193) rfl rfl
theorem wd_1222 : (Jvm.Cond.code ({ cls := "TopYard$Spinner", name := "fellInRing", desc := "()Z" } : Jvm.MethodName) prog_10_method_6_code (1 : Nat) (Option.some Jvm.ClassFile.FieldType.boolean)) ∈ TT := mt3 (i := 194) rfl rfl
theorem wd_1223 : (Jvm.Cond.methodLink "TopYard" (400 : Nat) ({ cls := "TopYard$Past", name := "speaks", desc := "(II)Z" } : Jvm.MethodName)) ∈ TT := mt4 (i := 73) rfl rfl
theorem wd_1224 : (Jvm.Cond.methodLink "TopYard" (403 : Nat) ({ cls := "TopYard$Past", name := "firstLike", desc := "(I)I" } : Jvm.MethodName)) ∈ TT := mt4 (i := 77) rfl rfl
theorem wd_1225 : (Jvm.Cond.instanceMethod ({ cls := "TopYard$Past", name := "firstLike", desc := "(I)I" } : Jvm.MethodName)) ∈ TT := mt4 (i := 78) rfl rfl
theorem wd_1226 : (Jvm.Cond.selects "TopYard$Past" ({ cls := "TopYard$Past", name := "firstLike", desc := "(I)I" } : Jvm.MethodName) ({ cls := "TopYard$Past", name := "firstLike", desc := "(I)I" } : Jvm.MethodName)) ∈ TT := mt4 (i := 79) rfl rfl
theorem wd_1227 : (Jvm.Cond.code ({ cls := "TopYard$Past", name := "firstLike", desc := "(I)I" } : Jvm.MethodName) prog_8_method_4_code (3 : Nat) (Option.some Jvm.ClassFile.FieldType.int)) ∈ TT := mt4 (i := 80) rfl rfl
theorem wd_1228 : (Jvm.Cond.methodLink "TopYard" (415 : Nat) ({ cls := "TopYard", name := "isTopOf", desc := "(II)Z" } : Jvm.MethodName)) ∈ TT := mt4 (i := 172) rfl rfl
theorem wd_1229 : (Jvm.Cond.instanceMethod ({ cls := "TopYard", name := "isTopOf", desc := "(II)Z" } : Jvm.MethodName)) ∈ TT := mt4 (i := 174) rfl rfl
theorem wd_1230 : (Jvm.Cond.code ({ cls := "TopYard", name := "isTopOf", desc := "(II)Z" } : Jvm.MethodName) prog_1_method_59_code (4 : Nat) (Option.some Jvm.ClassFile.FieldType.boolean)) ∈ TT := mt4 (i := 175) rfl rfl
theorem wd_1231 : (Jvm.Cond.methodLink "TopYard" (418 : Nat) ({ cls := "java/lang/Math", name := "max", desc := "(II)I" } : Jvm.MethodName)) ∈ TT := mt4 (i := 180) rfl rfl
theorem wd_1232 : (Jvm.Cond.methodLink "TopYard" (421 : Nat) ({ cls := "TopYard$Game", name := "mostBouts", desc := "()I" } : Jvm.MethodName)) ∈ TT := mt4 (i := 181) rfl rfl
theorem wd_1233 : (Jvm.Cond.instanceMethod ({ cls := "TopYard$Game", name := "mostBouts", desc := "()I" } : Jvm.MethodName)) ∈ TT := mt4 (i := 182) rfl rfl
theorem wd_1234 : (Jvm.Cond.selects "TopYard$Game" ({ cls := "TopYard$Game", name := "mostBouts", desc := "()I" } : Jvm.MethodName) ({ cls := "TopYard$Game", name := "mostBouts", desc := "()I" } : Jvm.MethodName)) ∈ TT := mt4 (i := 183) rfl rfl
theorem wd_1235 : (Jvm.Cond.code ({ cls := "TopYard$Game", name := "mostBouts", desc := "()I" } : Jvm.MethodName) prog_5_method_4_code (1 : Nat) (Option.some Jvm.ClassFile.FieldType.int)) ∈ TT := mt4 (i := 184) rfl rfl
theorem wd_1236 : (Jvm.Cond.methodLink "TopYard" (424 : Nat) ({ cls := "TopYard$Game", name := "winsNeeded", desc := "()I" } : Jvm.MethodName)) ∈ TT := mt4 (i := 185) rfl rfl
theorem wd_1237 : (Jvm.Cond.instanceMethod ({ cls := "TopYard$Game", name := "winsNeeded", desc := "()I" } : Jvm.MethodName)) ∈ TT := mt4 (i := 186) rfl rfl
theorem wd_1238 : (Jvm.Cond.selects "TopYard$Game" ({ cls := "TopYard$Game", name := "winsNeeded", desc := "()I" } : Jvm.MethodName) ({ cls := "TopYard$Game", name := "winsNeeded", desc := "()I" } : Jvm.MethodName)) ∈ TT := mt4 (i := 187) rfl rfl
theorem wd_1239 : (Jvm.Cond.code ({ cls := "TopYard$Game", name := "winsNeeded", desc := "()I" } : Jvm.MethodName) prog_5_method_3_code (1 : Nat) (Option.some Jvm.ClassFile.FieldType.int)) ∈ TT := mt4 (i := 188) rfl rfl
theorem wd_1240 : (Jvm.Cond.methodLink "TopYard" (427 : Nat) ({ cls := "TopYard", name := "nthTopOf", desc := "(II)I" } : Jvm.MethodName)) ∈ TT := mt4 (i := 189) rfl rfl
theorem wd_1241 : (Jvm.Cond.instanceMethod ({ cls := "TopYard", name := "nthTopOf", desc := "(II)I" } : Jvm.MethodName)) ∈ TT := mt4 (i := 191) rfl rfl
theorem wd_1242 : (Jvm.Cond.code ({ cls := "TopYard", name := "nthTopOf", desc := "(II)I" } : Jvm.MethodName) prog_1_method_60_code (5 : Nat) (Option.some Jvm.ClassFile.FieldType.int)) ∈ TT := mt4 (i := 192) rfl rfl
theorem wd_1243 : (Jvm.Cond.methodLink "TopYard" (430 : Nat) ({ cls := "TopYard$Game", name := "turns", desc := "()I" } : Jvm.MethodName)) ∈ TT := mt4 (i := 193) rfl rfl
theorem wd_1244 : (Jvm.Cond.instanceMethod ({ cls := "TopYard$Game", name := "turns", desc := "()I" } : Jvm.MethodName)) ∈ TT := mt4 (i := 194) rfl rfl
theorem wd_1245 : (Jvm.Cond.selects "TopYard$Game" ({ cls := "TopYard$Game", name := "turns", desc := "()I" } : Jvm.MethodName) ({ cls := "TopYard$Game", name := "turns", desc := "()I" } : Jvm.MethodName)) ∈ TT := mt4 (i := 195) rfl rfl
theorem wd_1246 : (Jvm.Cond.code ({ cls := "TopYard$Game", name := "turns", desc := "()I" } : Jvm.MethodName) prog_5_method_6_code (1 : Nat) (Option.some Jvm.ClassFile.FieldType.int)) ∈ TT := mt4 (i := 196) rfl rfl
theorem wd_1247 : (Jvm.Cond.methodLink "TopYard" (433 : Nat) ({ cls := "TopYard$Game", name := "ring", desc := "()I" } : Jvm.MethodName)) ∈ TT := mt4 (i := 197) rfl rfl
theorem wd_1248 : (Jvm.Cond.instanceMethod ({ cls := "TopYard$Game", name := "ring", desc := "()I" } : Jvm.MethodName)) ∈ TT := mt4 (i := 198) rfl rfl
theorem wd_1249 : (Jvm.Cond.selects "TopYard$Game" ({ cls := "TopYard$Game", name := "ring", desc := "()I" } : Jvm.MethodName) ({ cls := "TopYard$Game", name := "ring", desc := "()I" } : Jvm.MethodName)) ∈ TT := mt4 (i := 199) rfl rfl
theorem wd_1250 : (Jvm.Cond.code ({ cls := "TopYard$Game", name := "ring", desc := "()I" } : Jvm.MethodName) prog_5_method_5_code (1 : Nat) (Option.some Jvm.ClassFile.FieldType.int)) ∈ TT := mt4 (i := 200) rfl rfl
theorem wd_1251 : (Jvm.Cond.methodLink "TopYard" (435 : Nat) ({ cls := "TopYard$Game", name := "keeps", desc := "()I" } : Jvm.MethodName)) ∈ TT := mt4 (i := 205) rfl rfl
theorem wd_1252 : (Jvm.Cond.instanceMethod ({ cls := "TopYard$Game", name := "keeps", desc := "()I" } : Jvm.MethodName)) ∈ TT := mt4 (i := 206) rfl rfl
theorem wd_1253 : (Jvm.Cond.selects "TopYard$Game" ({ cls := "TopYard$Game", name := "keeps", desc := "()I" } : Jvm.MethodName) ({ cls := "TopYard$Game", name := "keeps", desc := "()I" } : Jvm.MethodName)) ∈ TT := mt4 (i := 207) rfl rfl
theorem wd_1254 : (Jvm.Cond.code ({ cls := "TopYard$Game", name := "keeps", desc := "()I" } : Jvm.MethodName) prog_5_method_7_code (1 : Nat) (Option.some Jvm.ClassFile.FieldType.int)) ∈ TT := mt4 (i := 208) rfl rfl
theorem wd_1255 : (Jvm.Cond.methodLink "TopYard" (438 : Nat) ({ cls := "java/lang/Integer", name := "numberOfTrailingZeros", desc := "(I)I" } : Jvm.MethodName)) ∈ TT := mt4 (i := 226) rfl rfl
theorem wd_1256 : (Jvm.Cond.methodLink "TopYard" (441 : Nat) ({ cls := "TopYard", name := "bestMate", desc := "(III)I" } : Jvm.MethodName)) ∈ TT := mt4 (i := 227) rfl rfl
theorem wd_1257 : (Jvm.Cond.instanceMethod ({ cls := "TopYard", name := "bestMate", desc := "(III)I" } : Jvm.MethodName)) ∈ TT := mt4 (i := 229) rfl rfl
theorem wd_1258 : (Jvm.Cond.code ({ cls := "TopYard", name := "bestMate", desc := "(III)I" } : Jvm.MethodName) prog_1_method_64_code (11 : Nat) (Option.some Jvm.ClassFile.FieldType.int)) ∈ TT := mt4 (i := 230) rfl rfl
theorem wd_1259 : (Jvm.Cond.methodLink "TopYard" (445 : Nat) ({ cls := "TopYard", name := "costOfPair", desc := "([III)J" } : Jvm.MethodName)) ∈ TT := mt4 (i := 231) rfl rfl
theorem wd_1260 : (Jvm.Cond.static ({ cls := "TopYard", name := "costOfPair", desc := "([III)J" } : Jvm.MethodName)) ∈ TT := mt4 (i := 232) rfl rfl
theorem wd_1261 : (Jvm.Cond.code ({ cls := "TopYard", name := "costOfPair", desc := "([III)J" } : Jvm.MethodName) prog_1_method_65_code (5 : Nat) (Option.some Jvm.ClassFile.FieldType.long)) ∈ TT := mt4 (i := 233) rfl rfl
theorem wd_1262 : (Jvm.Cond.methodLink "TopYard" (449 : Nat) ({ cls := "TopYard", name := "leastCost", desc := "([III)J" } : Jvm.MethodName)) ∈ TT := mt4 (i := 234) rfl rfl
theorem wd_1263 : (Jvm.Cond.static ({ cls := "TopYard", name := "leastCost", desc := "([III)J" } : Jvm.MethodName)) ∈ TT := mt4 (i := 235) rfl rfl
theorem wd_1264 : (Jvm.Cond.code ({ cls := "TopYard", name := "leastCost", desc := "([III)J" } : Jvm.MethodName) prog_1_method_66_code (10 : Nat) (Option.some Jvm.ClassFile.FieldType.long)) ∈ TT := mt4 (i := 236) rfl rfl
theorem wd_1265 : (Jvm.Cond.methodLink "TopYard" (454 : Nat) ({ cls := "java/lang/Math", name := "max", desc := "(JJ)J" } : Jvm.MethodName)) ∈ TT := mt4 (i := 238) rfl rfl
theorem wd_1266 : (Jvm.Cond.static ({ cls := "java/lang/Math", name := "max", desc := "(JJ)J" } : Jvm.MethodName)) ∈ TT := mt4 (i := 239) rfl rfl
theorem wd_1267 : (Jvm.Cond.code ({ cls := "java/lang/Math", name := "max", desc := "(JJ)J" } : Jvm.MethodName) prog_15_method_66_code (4 : Nat) (Option.some Jvm.ClassFile.FieldType.long)) ∈ TT := mt5 (i := 0) rfl rfl
theorem wd_1268 : (Jvm.Cond.methodLink "TopYard" (83 : Nat) ({ cls := "java/util/Arrays", name := "fill", desc := "([II)V" } : Jvm.MethodName)) ∈ TT := mt2 (i := 31) rfl rfl
theorem wd_1269 : (Jvm.Cond.methodLink "TopYard" (90 : Nat) ({ cls := "TopYard", name := "within", desc := "(III)Z" } : Jvm.MethodName)) ∈ TT := mt2 (i := 103) rfl rfl
theorem wd_1270 : (Jvm.Cond.static ({ cls := "TopYard", name := "within", desc := "(III)Z" } : Jvm.MethodName)) ∈ TT := mt2 (i := 104) rfl rfl
theorem wd_1271 : (Jvm.Cond.code ({ cls := "TopYard", name := "within", desc := "(III)Z" } : Jvm.MethodName) prog_1_method_49_code (3 : Nat) (Option.some Jvm.ClassFile.FieldType.boolean)) ∈ TT := mt2 (i := 105) rfl rfl
theorem wd_1272 : (Jvm.Cond.methodLink "TopYard" (94 : Nat) ({ cls := "TopYard$Headings", name := "alongX", desc := "(I)I" } : Jvm.MethodName)) ∈ TT := mt2 (i := 106) rfl rfl
