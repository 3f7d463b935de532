-- FACTS OF THE TABLES: classes, fields, calls, by their places
abbrev ZN (c n d : String) : MethodName := ⟨c, n, d⟩
def y_B_init : ZMI := (⟨"BesideAnother$Book", "<init>", "()V"⟩, prog_2_method_1_code, 1, none)
def y_B_tell : ZMI := (⟨"BesideAnother$Book", "tell", "(LBesideAnother$Text;)V"⟩, prog_2_method_2_code, 2, none)
def y_B_isLater : ZMI := (⟨"BesideAnother$Book", "isLater", "()Z"⟩, prog_2_method_3_code, 1, (some .boolean))
def y_B_condition : ZMI := (⟨"BesideAnother$Book", "condition", "()LBesideAnother$Expression;"⟩, prog_2_method_4_code, 1, (some (.object "BesideAnother$Expression")))
def y_E_init : ZMI := (⟨"BesideAnother$Expression", "<init>", "()V"⟩, prog_3_method_1_code, 1, none)
def y_E_clear : ZMI := (⟨"BesideAnother$Expression", "clear", "()V"⟩, prog_3_method_2_code, 1, none)
def y_E_append : ZMI := (⟨"BesideAnother$Expression", "append", "(I)V"⟩, prog_3_method_3_code, 2, none)
def y_E_copy : ZMI := (⟨"BesideAnother$Expression", "copy", "(LBesideAnother$Expression;)V"⟩, prog_3_method_4_code, 2, none)
def y_E_worth : ZMI := (⟨"BesideAnother$Expression", "worth", "(III)I"⟩, prog_3_method_5_code, 7, (some .int))
def y_E_joined : ZMI := (⟨"BesideAnother$Expression", "joined", "(III)I"⟩, prog_3_method_6_code, 3, (some .int))
def y_K_init : ZMI := (⟨"BesideAnother$Kept", "<init>", "()V"⟩, prog_4_method_1_code, 1, none)
def y_R_init : ZMI := (⟨"BesideAnother$Reader", "<init>", "()V"⟩, prog_5_method_1_code, 1, none)
def y_R_begin : ZMI := (⟨"BesideAnother$Reader", "begin", "(II)V"⟩, prog_5_method_2_code, 3, none)
def y_R_left : ZMI := (⟨"BesideAnother$Reader", "left", "()I"⟩, prog_5_method_3_code, 1, (some .int))
def y_S_init : ZMI := (⟨"BesideAnother$Search", "<init>", "()V"⟩, prog_6_method_1_code, 1, none)
def y_S_clear : ZMI := (⟨"BesideAnother$Search", "clear", "()V"⟩, prog_6_method_2_code, 2, none)
def y_S_seed : ZMI := (⟨"BesideAnother$Search", "seed", "(J)V"⟩, prog_6_method_3_code, 3, none)
def y_S_spread : ZMI := (⟨"BesideAnother$Search", "spread", "(LBesideAnother$Tables;I)Z"⟩, prog_6_method_4_code, 12, (some .boolean))
def y_S_place : ZMI := (⟨"BesideAnother$Search", "place", "(JII)I"⟩, prog_6_method_5_code, 6, (some .int))
def y_S_slotOf : ZMI := (⟨"BesideAnother$Search", "slotOf", "(J)I"⟩, prog_6_method_6_code, 6, (some .int))
def y_S_indexOf : ZMI := (⟨"BesideAnother$Search", "indexOf", "(J)I"⟩, prog_6_method_7_code, 3, (some .int))
def y_S_firstWith : ZMI := (⟨"BesideAnother$Search", "firstWith", "(I)I"⟩, prog_6_method_8_code, 3, (some .int))
def y_S_union : ZMI := (⟨"BesideAnother$Search", "union", "()I"⟩, prog_6_method_9_code, 3, (some .int))
def y_S_farthest : ZMI := (⟨"BesideAnother$Search", "farthest", "()I"⟩, prog_6_method_10_code, 1, (some .int))
def y_S_gather : ZMI := (⟨"BesideAnother$Search", "gather", "()V"⟩, prog_6_method_11_code, 6, none)
def y_V_init : ZMI := (⟨"BesideAnother$Survey", "<init>", "()V"⟩, prog_7_method_1_code, 1, none)
def y_V_begin : ZMI := (⟨"BesideAnother$Survey", "begin", "(I)V"⟩, prog_7_method_2_code, 2, none)
def y_V_take : ZMI := (⟨"BesideAnother$Survey", "take", "(I)V"⟩, prog_7_method_3_code, 3, none)
def y_T_init : ZMI := (⟨"BesideAnother$Tables", "<init>", "()V"⟩, prog_8_method_1_code, 2, none)
def y_T_has : ZMI := (⟨"BesideAnother$Tables", "has", "(I)Z"⟩, prog_8_method_2_code, 2, (some .boolean))
def y_T_all : ZMI := (⟨"BesideAnother$Tables", "all", "()I"⟩, prog_8_method_3_code, 1, (some .int))
def y_T_beyond : ZMI := (⟨"BesideAnother$Tables", "beyond", "(I)Z"⟩, prog_8_method_4_code, 2, (some .boolean))
def y_T_forget : ZMI := (⟨"BesideAnother$Tables", "forget", "()V"⟩, prog_8_method_5_code, 1, none)
def y_T_countIn : ZMI := (⟨"BesideAnother$Tables", "countIn", "(I)V"⟩, prog_8_method_6_code, 3, none)
def y_T_spent : ZMI := (⟨"BesideAnother$Tables", "spent", "()I"⟩, prog_8_method_7_code, 3, (some .int))
def y_T_mayBy : ZMI := (⟨"BesideAnother$Tables", "mayBy", "(II)I"⟩, prog_8_method_8_code, 6, (some .int))
def y_T_settled : ZMI := (⟨"BesideAnother$Tables", "settled", "(JI)J"⟩, prog_8_method_9_code, 7, (some .long))
def y_T_possible : ZMI := (⟨"BesideAnother$Tables", "possible", "(JII)I"⟩, prog_8_method_10_code, 9, (some .int))
def y_T_refusal : ZMI := (⟨"BesideAnother$Tables", "refusal", "(JII)I"⟩, prog_8_method_11_code, 9, (some .int))
def y_T_after : ZMI := (⟨"BesideAnother$Tables", "after", "(JI)J"⟩, prog_8_method_12_code, 10, (some .long))
def y_P_init : ZMI := (⟨"BesideAnother$Text", "<init>", "()V"⟩, prog_9_method_1_code, 1, none)
def y_P_append : ZMI := (⟨"BesideAnother$Text", "append", "(I)I"⟩, prog_9_method_2_code, 3, (some .int))
def y_P_cut : ZMI := (⟨"BesideAnother$Text", "cut", "(I)Z"⟩, prog_9_method_3_code, 2, (some .boolean))
def y_P_clear : ZMI := (⟨"BesideAnother$Text", "clear", "()V"⟩, prog_9_method_4_code, 1, none)
def y_P_parse : ZMI := (⟨"BesideAnother$Text", "parse", "(IZ)I"⟩, prog_9_method_5_code, 4, (some .int))
def y_P_later : ZMI := (⟨"BesideAnother$Text", "later", "()Z"⟩, prog_9_method_6_code, 1, (some .boolean))
def y_P_whole : ZMI := (⟨"BesideAnother$Text", "whole", "(LBesideAnother$Expression;)Z"⟩, prog_9_method_7_code, 2, (some .boolean))
def y_P_takes : ZMI := (⟨"BesideAnother$Text", "takes", "(I)Z"⟩, prog_9_method_8_code, 2, (some .boolean))
def y_P_anyOf : ZMI := (⟨"BesideAnother$Text", "anyOf", "(I)Z"⟩, prog_9_method_9_code, 2, (some .boolean))
def y_P_allOf : ZMI := (⟨"BesideAnother$Text", "allOf", "(I)Z"⟩, prog_9_method_10_code, 2, (some .boolean))
def y_P_compared : ZMI := (⟨"BesideAnother$Text", "compared", "(I)Z"⟩, prog_9_method_11_code, 3, (some .boolean))
def y_P_sum : ZMI := (⟨"BesideAnother$Text", "sum", "(I)Z"⟩, prog_9_method_12_code, 3, (some .boolean))
def y_P_denied : ZMI := (⟨"BesideAnother$Text", "denied", "(I)Z"⟩, prog_9_method_13_code, 4, (some .boolean))
def y_P_thing : ZMI := (⟨"BesideAnother$Text", "thing", "(I)Z"⟩, prog_9_method_14_code, 3, (some .boolean))
def y_P_isDigit : ZMI := (⟨"BesideAnother$Text", "isDigit", "()Z"⟩, prog_9_method_15_code, 1, (some .boolean))
def y_X_init : ZMI := (⟨"BesideAnother", "<init>", "()V"⟩, prog_1_method_1_code, 2, none)
def y_X_sign : ZMI := (⟨"BesideAnother", "sign", "(I)I"⟩, prog_1_method_2_code, 2, (some .int))
def y_X_end : ZMI := (⟨"BesideAnother", "end", "(I)Z"⟩, prog_1_method_3_code, 2, (some .boolean))
def y_X_book : ZMI := (⟨"BesideAnother", "book", "(I)I"⟩, prog_1_method_4_code, 6, (some .int))
def y_X_rule : ZMI := (⟨"BesideAnother", "rule", "()I"⟩, prog_1_method_5_code, 2, (some .int))
def y_X_set : ZMI := (⟨"BesideAnother", "set", "(III)I"⟩, prog_1_method_6_code, 5, (some .int))
def y_X_sheet : ZMI := (⟨"BesideAnother", "sheet", "(IIII)I"⟩, prog_1_method_7_code, 9, (some .int))
def y_X_entry : ZMI := (⟨"BesideAnother", "entry", "(II)I"⟩, prog_1_method_8_code, 3, (some .int))
def y_X_about : ZMI := (⟨"BesideAnother", "about", "(II)I"⟩, prog_1_method_9_code, 4, (some .int))
def y_X_open : ZMI := (⟨"BesideAnother", "open", "(I)I"⟩, prog_1_method_10_code, 2, (some .int))
def y_X_value : ZMI := (⟨"BesideAnother", "value", "(II)I"⟩, prog_1_method_11_code, 4, (some .int))
def y_X_act : ZMI := (⟨"BesideAnother", "act", "(I)I"⟩, prog_1_method_12_code, 3, (some .int))
def y_X_make : ZMI := (⟨"BesideAnother", "make", "(I)I"⟩, prog_1_method_13_code, 5, (some .int))
def y_X_why : ZMI := (⟨"BesideAnother", "why", "(I)I"⟩, prog_1_method_14_code, 2, (some .int))
def y_X_can : ZMI := (⟨"BesideAnother", "can", "()I"⟩, prog_1_method_15_code, 6, (some .int))
def y_X_night : ZMI := (⟨"BesideAnother", "night", "(I)I"⟩, prog_1_method_16_code, 3, (some .int))
def y_X_judge : ZMI := (⟨"BesideAnother", "judge", "(III)I"⟩, prog_1_method_17_code, 9, (some .int))
def y_X_spentBy : ZMI := (⟨"BesideAnother", "spentBy", "([I)I"⟩, prog_1_method_18_code, 4, (some .int))
def y_X_reader : ZMI := (⟨"BesideAnother", "reader", "(II)I"⟩, prog_1_method_19_code, 3, (some .int))
def y_X_sit : ZMI := (⟨"BesideAnother", "sit", "(II)I"⟩, prog_1_method_20_code, 4, (some .int))
def y_X_read : ZMI := (⟨"BesideAnother", "read", "(II)I"⟩, prog_1_method_21_code, 3, (some .int))
def y_X_finishBook : ZMI := (⟨"BesideAnother", "finishBook", "(LBesideAnother$Reader;I)V"⟩, prog_1_method_22_code, 3, none)
def y_X_of : ZMI := (⟨"BesideAnother", "of", "(II)I"⟩, prog_1_method_23_code, 4, (some .int))
def y_X_hours : ZMI := (⟨"BesideAnother", "hours", "(I)I"⟩, prog_1_method_24_code, 5, (some .int))
def y_X_satisfied : ZMI := (⟨"BesideAnother", "satisfied", "()I"⟩, prog_1_method_25_code, 3, (some .int))
def y_X_lineUp : ZMI := (⟨"BesideAnother", "lineUp", "()V"⟩, prog_1_method_26_code, 4, none)
def y_X_turn : ZMI := (⟨"BesideAnother", "turn", "(I)Z"⟩, prog_1_method_27_code, 7, (some .boolean))
def y_X_leading : ZMI := (⟨"BesideAnother", "leading", "(IILBesideAnother$Reader;)I"⟩, prog_1_method_28_code, 9, (some .int))
def y_X_note : ZMI := (⟨"BesideAnother", "note", "(III)V"⟩, prog_1_method_29_code, 4, none)
def y_X_log : ZMI := (⟨"BesideAnother", "log", "(I)I"⟩, prog_1_method_30_code, 2, (some .int))
def y_X_logKept : ZMI := (⟨"BesideAnother", "logKept", "()I"⟩, prog_1_method_31_code, 1, (some .int))
def y_X_order : ZMI := (⟨"BesideAnother", "order", "()I"⟩, prog_1_method_32_code, 2, (some .int))
def y_X_ring : ZMI := (⟨"BesideAnother", "ring", "()I"⟩, prog_1_method_33_code, 4, (some .int))
def y_X_tellRing : ZMI := (⟨"BesideAnother", "tellRing", "(I)I"⟩, prog_1_method_34_code, 6, (some .int))
def y_X_ringFrom : ZMI := (⟨"BesideAnother", "ringFrom", "(II)I"⟩, prog_1_method_35_code, 6, (some .int))
def y_X_needs : ZMI := (⟨"BesideAnother", "needs", "(II)I"⟩, prog_1_method_36_code, 3, (some .int))
def y_X_bars : ZMI := (⟨"BesideAnother", "bars", "(II)I"⟩, prog_1_method_37_code, 3, (some .int))
def y_X_least : ZMI := (⟨"BesideAnother", "least", "(II)I"⟩, prog_1_method_38_code, 3, (some .int))
def y_X_look : ZMI := (⟨"BesideAnother", "look", "(II)V"⟩, prog_1_method_39_code, 5, none)
def y_X_knot : ZMI := (⟨"BesideAnother", "knot", "(I)I"⟩, prog_1_method_40_code, 3, (some .int))
def y_X_hold : ZMI := (⟨"BesideAnother", "hold", "(I)I"⟩, prog_1_method_41_code, 5, (some .int))
def y_X_comes : ZMI := (⟨"BesideAnother", "comes", "(I)I"⟩, prog_1_method_42_code, 2, (some .int))
def y_X_searchTable : ZMI := (⟨"BesideAnother", "searchTable", "(I)V"⟩, prog_1_method_43_code, 2, none)
def y_X_tellReach : ZMI := (⟨"BesideAnother", "tellReach", "()I"⟩, prog_1_method_44_code, 1, (some .int))
def y_X_together : ZMI := (⟨"BesideAnother", "together", "(II)I"⟩, prog_1_method_45_code, 3, (some .int))
def y_X_tellWay : ZMI := (⟨"BesideAnother", "tellWay", "(I)I"⟩, prog_1_method_46_code, 5, (some .int))
def y_X_frees : ZMI := (⟨"BesideAnother", "frees", "(I)I"⟩, prog_1_method_47_code, 7, (some .int))
def y_X_keeps : ZMI := (⟨"BesideAnother", "keeps", "(II)I"⟩, prog_1_method_48_code, 8, (some .int))
def y_X_finish : ZMI := (⟨"BesideAnother", "finish", "(II)I"⟩, prog_1_method_49_code, 5, (some .int))
def y_X_tellMissing : ZMI := (⟨"BesideAnother", "tellMissing", "(I)I"⟩, prog_1_method_50_code, 2, (some .int))
def y_X_reach : ZMI := (⟨"BesideAnother", "reach", "()I"⟩, prog_1_method_51_code, 1, (some .int))
def y_X_searchFrom : ZMI := (⟨"BesideAnother", "searchFrom", "(J)Z"⟩, prog_1_method_52_code, 3, (some .boolean))
def y_X_soonest : ZMI := (⟨"BesideAnother", "soonest", "(I)I"⟩, prog_1_method_53_code, 2, (some .int))
def y_X_till : ZMI := (⟨"BesideAnother", "till", "(III)I"⟩, prog_1_method_54_code, 4, (some .int))
def y_X_lost : ZMI := (⟨"BesideAnother", "lost", "()I"⟩, prog_1_method_55_code, 5, (some .int))
def y_X_free : ZMI := (⟨"BesideAnother", "free", "()I"⟩, prog_1_method_56_code, 3, (some .int))
def y_X_keep : ZMI := (⟨"BesideAnother", "keep", "(I)Z"⟩, prog_1_method_57_code, 4, (some .boolean))
def y_X_again : ZMI := (⟨"BesideAnother", "again", "(I)Z"⟩, prog_1_method_58_code, 5, (some .boolean))
def y_X_count : ZMI := (⟨"BesideAnother", "count", "(I)I"⟩, prog_1_method_59_code, 2, (some .int))
def y_X_row : ZMI := (⟨"BesideAnother", "row", "(I)I"⟩, prog_1_method_60_code, 2, (some .int))
def y_X_tell : ZMI := (⟨"BesideAnother", "tell", "(I)V"⟩, prog_1_method_61_code, 2, none)
def y_X_isTable : ZMI := (⟨"BesideAnother", "isTable", "(I)Z"⟩, prog_1_method_62_code, 1, (some .boolean))
def y_X_isReader : ZMI := (⟨"BesideAnother", "isReader", "(I)Z"⟩, prog_1_method_63_code, 2, (some .boolean))
def y_X_lowest : ZMI := (⟨"BesideAnother", "lowest", "(I)I"⟩, prog_1_method_64_code, 2, (some .int))
def y_X_on : ZMI := (⟨"BesideAnother", "on", "(JI)I"⟩, prog_1_method_65_code, 3, (some .int))
def y_X_with : ZMI := (⟨"BesideAnother", "with", "(JII)J"⟩, prog_1_method_66_code, 5, (some .long))
def y_X_anywhere : ZMI := (⟨"BesideAnother", "anywhere", "(J)I"⟩, prog_1_method_67_code, 2, (some .int))
def y_X_tableOf : ZMI := (⟨"BesideAnother", "tableOf", "(JI)I"⟩, prog_1_method_68_code, 4, (some .int))
def y_M_thrown : ZMI := (⟨"BesideAnotherModel", "thrown", "()I"⟩, prog_11_method_1_code, 1, (some .int))
def y_M_refuse : ZMI := (⟨"BesideAnotherModel", "refuse", "()I"⟩, prog_11_method_2_code, 1, (some .int))
def y_M_in : ZMI := (⟨"BesideAnotherModel", "in", "(JJJ)Z"⟩, prog_11_method_3_code, 6, (some .boolean))
def y_M_has : ZMI := (⟨"BesideAnotherModel", "has", "(II)Z"⟩, prog_11_method_4_code, 2, (some .boolean))
def y_M_flag : ZMI := (⟨"BesideAnotherModel", "flag", "(Z)I"⟩, prog_11_method_5_code, 1, (some .int))
def y_M_enters : ZMI := (⟨"BesideAnotherModel", "enters", "(I)V"⟩, prog_11_method_6_code, 2, none)
def y_M_isBook : ZMI := (⟨"BesideAnotherModel", "isBook", "(I)Z"⟩, prog_11_method_7_code, 2, (some .boolean))
def y_M_isTable : ZMI := (⟨"BesideAnotherModel", "isTable", "(I)Z"⟩, prog_11_method_8_code, 1, (some .boolean))
def y_M_isReader : ZMI := (⟨"BesideAnotherModel", "isReader", "(I)Z"⟩, prog_11_method_9_code, 2, (some .boolean))
def y_M_areBooks : ZMI := (⟨"BesideAnotherModel", "areBooks", "(I)Z"⟩, prog_11_method_10_code, 2, (some .boolean))
def y_M_readBy : ZMI := (⟨"BesideAnotherModel", "readBy", "(I)I"⟩, prog_11_method_11_code, 4, (some .int))
def y_M_sign : ZMI := (⟨"BesideAnotherModel", "sign", "(I)I"⟩, prog_11_method_12_code, 3, (some .int))
def y_M_end : ZMI := (⟨"BesideAnotherModel", "end", "(I)Z"⟩, prog_11_method_13_code, 2, (some .boolean))
def y_M_isDigit : ZMI := (⟨"BesideAnotherModel", "isDigit", "()Z"⟩, prog_11_method_14_code, 1, (some .boolean))
def y_M_takes : ZMI := (⟨"BesideAnotherModel", "takes", "(I)Z"⟩, prog_11_method_15_code, 3, (some .boolean))
def y_M_among : ZMI := (⟨"BesideAnotherModel", "among", "(Ljava/lang/String;)I"⟩, prog_11_method_16_code, 3, (some .int))
def y_M_marks : ZMI := (⟨"BesideAnotherModel", "marks", "(I)V"⟩, prog_11_method_17_code, 2, none)
def y_M_thing : ZMI := (⟨"BesideAnotherModel", "thing", "()Z"⟩, prog_11_method_18_code, 2, (some .boolean))
def y_M_ahead : ZMI := (⟨"BesideAnotherModel", "ahead", "()Z"⟩, prog_11_method_19_code, 2, (some .boolean))
def y_M_ranked : ZMI := (⟨"BesideAnotherModel", "ranked", "(I)Z"⟩, prog_11_method_20_code, 6, (some .boolean))
def y_M_begins : ZMI := (⟨"BesideAnotherModel", "begins", "(I)I"⟩, prog_11_method_21_code, 3, (some .int))
def y_M_reads : ZMI := (⟨"BesideAnotherModel", "reads", "(I)Z"⟩, prog_11_method_22_code, 2, (some .boolean))
def y_M_faultOf : ZMI := (⟨"BesideAnotherModel", "faultOf", "(IIZ)I"⟩, prog_11_method_23_code, 5, (some .int))
def y_M_lays : ZMI := (⟨"BesideAnotherModel", "lays", "(II)V"⟩, prog_11_method_24_code, 4, none)
def y_M_acted : ZMI := (⟨"BesideAnotherModel", "acted", "(III)I"⟩, prog_11_method_25_code, 4, (some .int))
def y_M_signOf : ZMI := (⟨"BesideAnotherModel", "signOf", "(IIII)I"⟩, prog_11_method_26_code, 5, (some .int))
def y_M_works : ZMI := (⟨"BesideAnotherModel", "works", "(IIII)I"⟩, prog_11_method_27_code, 8, (some .int))
def y_M_isSecond : ZMI := (⟨"BesideAnotherModel", "isSecond", "(I)Z"⟩, prog_11_method_28_code, 2, (some .boolean))
def y_M_conditionOf : ZMI := (⟨"BesideAnotherModel", "conditionOf", "(III)I"⟩, prog_11_method_29_code, 4, (some .int))
def y_M_may : ZMI := (⟨"BesideAnotherModel", "may", "(III)Z"⟩, prog_11_method_30_code, 4, (some .boolean))
def y_M_settled : ZMI := (⟨"BesideAnotherModel", "settled", "(II)I"⟩, prog_11_method_31_code, 6, (some .int))
def y_M_tableOf : ZMI := (⟨"BesideAnotherModel", "tableOf", "(I)I"⟩, prog_11_method_32_code, 3, (some .int))
def y_M_book : ZMI := (⟨"BesideAnotherModel", "book", "(I)I"⟩, prog_11_method_33_code, 8, (some .int))
def y_M_rule : ZMI := (⟨"BesideAnotherModel", "rule", "()I"⟩, prog_11_method_34_code, 4, (some .int))
def y_M_set : ZMI := (⟨"BesideAnotherModel", "set", "(III)I"⟩, prog_11_method_35_code, 7, (some .int))
def y_M_sheet : ZMI := (⟨"BesideAnotherModel", "sheet", "(IIII)I"⟩, prog_11_method_36_code, 9, (some .int))
def y_M_about : ZMI := (⟨"BesideAnotherModel", "about", "(II)I"⟩, prog_11_method_37_code, 3, (some .int))
def y_M_open : ZMI := (⟨"BesideAnotherModel", "open", "(I)I"⟩, prog_11_method_38_code, 2, (some .int))
def y_M_value : ZMI := (⟨"BesideAnotherModel", "value", "(II)I"⟩, prog_11_method_39_code, 3, (some .int))
def y_M_isAct : ZMI := (⟨"BesideAnotherModel", "isAct", "(I)Z"⟩, prog_11_method_40_code, 2, (some .boolean))
def y_M_whyNot : ZMI := (⟨"BesideAnotherModel", "whyNot", "(I)I"⟩, prog_11_method_41_code, 4, (some .int))
def y_M_noPlace : ZMI := (⟨"BesideAnotherModel", "noPlace", "(II)I"⟩, prog_11_method_42_code, 3, (some .int))
def y_M_shut : ZMI := (⟨"BesideAnotherModel", "shut", "(I)I"⟩, prog_11_method_43_code, 4, (some .int))
def y_M_opens : ZMI := (⟨"BesideAnotherModel", "opens", "(II)I"⟩, prog_11_method_44_code, 4, (some .int))
def y_M_makes : ZMI := (⟨"BesideAnotherModel", "makes", "(I)I"⟩, prog_11_method_45_code, 4, (some .int))
def y_M_act : ZMI := (⟨"BesideAnotherModel", "act", "(I)I"⟩, prog_11_method_46_code, 3, (some .int))
def y_M_why : ZMI := (⟨"BesideAnotherModel", "why", "(I)I"⟩, prog_11_method_47_code, 2, (some .int))
def y_M_can : ZMI := (⟨"BesideAnotherModel", "can", "()I"⟩, prog_11_method_48_code, 3, (some .int))
def y_M_night : ZMI := (⟨"BesideAnotherModel", "night", "(I)I"⟩, prog_11_method_49_code, 4, (some .int))
def y_M_putsBy : ZMI := (⟨"BesideAnotherModel", "putsBy", "()V"⟩, prog_11_method_50_code, 2, none)
def y_M_putsBack : ZMI := (⟨"BesideAnotherModel", "putsBack", "()V"⟩, prog_11_method_51_code, 2, none)
def y_M_judge : ZMI := (⟨"BesideAnotherModel", "judge", "(III)I"⟩, prog_11_method_52_code, 7, (some .int))
def y_M_reader : ZMI := (⟨"BesideAnotherModel", "reader", "(II)I"⟩, prog_11_method_53_code, 3, (some .int))
def y_M_sit : ZMI := (⟨"BesideAnotherModel", "sit", "(II)I"⟩, prog_11_method_54_code, 4, (some .int))
def y_M_hasRead : ZMI := (⟨"BesideAnotherModel", "hasRead", "(II)I"⟩, prog_11_method_55_code, 4, (some .int))
def y_M_read : ZMI := (⟨"BesideAnotherModel", "read", "(II)I"⟩, prog_11_method_56_code, 3, (some .int))
def y_M_leftOf : ZMI := (⟨"BesideAnotherModel", "leftOf", "(I)I"⟩, prog_11_method_57_code, 2, (some .int))
def y_M_of : ZMI := (⟨"BesideAnotherModel", "of", "(II)I"⟩, prog_11_method_58_code, 3, (some .int))
def y_M_ruleOf : ZMI := (⟨"BesideAnotherModel", "ruleOf", "(I)I"⟩, prog_11_method_59_code, 2, (some .int))
def y_M_ranks : ZMI := (⟨"BesideAnotherModel", "ranks", "()V"⟩, prog_11_method_60_code, 5, none)
def y_M_notes : ZMI := (⟨"BesideAnotherModel", "notes", "(I)V"⟩, prog_11_method_61_code, 3, none)
def y_M_firstOpen : ZMI := (⟨"BesideAnotherModel", "firstOpen", "(II)I"⟩, prog_11_method_62_code, 4, (some .int))
def y_M_helps : ZMI := (⟨"BesideAnotherModel", "helps", "(III)Z"⟩, prog_11_method_63_code, 5, (some .boolean))
def y_M_does : ZMI := (⟨"BesideAnotherModel", "does", "(I)I"⟩, prog_11_method_64_code, 7, (some .int))
def y_M_goesHour : ZMI := (⟨"BesideAnotherModel", "goesHour", "()Z"⟩, prog_11_method_65_code, 4, (some .boolean))
def y_M_hours : ZMI := (⟨"BesideAnotherModel", "hours", "(I)I"⟩, prog_11_method_66_code, 6, (some .int))
def y_M_log : ZMI := (⟨"BesideAnotherModel", "log", "(I)I"⟩, prog_11_method_67_code, 2, (some .int))
def y_M_order : ZMI := (⟨"BesideAnotherModel", "order", "()I"⟩, prog_11_method_68_code, 2, (some .int))
def y_M_rings : ZMI := (⟨"BesideAnotherModel", "rings", "(III)Z"⟩, prog_11_method_69_code, 6, (some .boolean))
def y_M_tellsRing : ZMI := (⟨"BesideAnotherModel", "tellsRing", "(II)I"⟩, prog_11_method_70_code, 6, (some .int))
def y_M_ring : ZMI := (⟨"BesideAnotherModel", "ring", "()I"⟩, prog_11_method_71_code, 3, (some .int))
def y_M_looks : ZMI := (⟨"BesideAnotherModel", "looks", "(II)Z"⟩, prog_11_method_72_code, 5, (some .boolean))
def y_M_needs : ZMI := (⟨"BesideAnotherModel", "needs", "(II)I"⟩, prog_11_method_73_code, 3, (some .int))
def y_M_bars : ZMI := (⟨"BesideAnotherModel", "bars", "(II)I"⟩, prog_11_method_74_code, 3, (some .int))
def y_M_least : ZMI := (⟨"BesideAnotherModel", "least", "(II)I"⟩, prog_11_method_75_code, 3, (some .int))
def y_M_knot : ZMI := (⟨"BesideAnotherModel", "knot", "(I)I"⟩, prog_11_method_76_code, 4, (some .int))
def y_M_nextOf : ZMI := (⟨"BesideAnotherModel", "nextOf", "(II)I"⟩, prog_11_method_77_code, 3, (some .int))
def y_M_laysOut : ZMI := (⟨"BesideAnotherModel", "laysOut", "(I)V"⟩, prog_11_method_78_code, 5, none)
def y_M_spreads : ZMI := (⟨"BesideAnotherModel", "spreads", "(I)V"⟩, prog_11_method_79_code, 6, none)
def y_M_everOpen : ZMI := (⟨"BesideAnotherModel", "everOpen", "()I"⟩, prog_11_method_80_code, 3, (some .int))
def y_M_hold : ZMI := (⟨"BesideAnotherModel", "hold", "(I)I"⟩, prog_11_method_81_code, 5, (some .int))
def y_M_comes : ZMI := (⟨"BesideAnotherModel", "comes", "(I)I"⟩, prog_11_method_82_code, 2, (some .int))
def y_M_tellsWay : ZMI := (⟨"BesideAnotherModel", "tellsWay", "(II)V"⟩, prog_11_method_83_code, 7, none)
def y_M_together : ZMI := (⟨"BesideAnotherModel", "together", "(II)I"⟩, prog_11_method_84_code, 4, (some .int))
def y_M_frees : ZMI := (⟨"BesideAnotherModel", "frees", "(I)I"⟩, prog_11_method_85_code, 8, (some .int))
def y_M_everAll : ZMI := (⟨"BesideAnotherModel", "everAll", "()V"⟩, prog_11_method_86_code, 6, none)
def y_M_keeps : ZMI := (⟨"BesideAnotherModel", "keeps", "(II)I"⟩, prog_11_method_87_code, 6, (some .int))
def y_M_finish : ZMI := (⟨"BesideAnotherModel", "finish", "(II)I"⟩, prog_11_method_88_code, 5, (some .int))
def y_M_stateNow : ZMI := (⟨"BesideAnotherModel", "stateNow", "()J"⟩, prog_11_method_89_code, 1, (some .long))
def y_M_setOf : ZMI := (⟨"BesideAnotherModel", "setOf", "(JI)I"⟩, prog_11_method_90_code, 3, (some .int))
def y_M_everyOf : ZMI := (⟨"BesideAnotherModel", "everyOf", "(J)I"⟩, prog_11_method_91_code, 2, (some .int))
def y_M_stands : ZMI := (⟨"BesideAnotherModel", "stands", "(J)V"⟩, prog_11_method_92_code, 4, none)
def y_M_slotOf : ZMI := (⟨"BesideAnotherModel", "slotOf", "(J)I"⟩, prog_11_method_93_code, 4, (some .int))
def y_M_numberOf : ZMI := (⟨"BesideAnotherModel", "numberOf", "(JII)I"⟩, prog_11_method_94_code, 6, (some .int))
def y_M_explores : ZMI := (⟨"BesideAnotherModel", "explores", "(J)Z"⟩, prog_11_method_95_code, 8, (some .boolean))
def y_M_everFound : ZMI := (⟨"BesideAnotherModel", "everFound", "()I"⟩, prog_11_method_96_code, 3, (some .int))
def y_M_reach : ZMI := (⟨"BesideAnotherModel", "reach", "()I"⟩, prog_11_method_97_code, 1, (some .int))
def y_M_tellsTo : ZMI := (⟨"BesideAnotherModel", "tellsTo", "(I)I"⟩, prog_11_method_98_code, 4, (some .int))
def y_M_soonest : ZMI := (⟨"BesideAnotherModel", "soonest", "(I)I"⟩, prog_11_method_99_code, 3, (some .int))
def y_M_till : ZMI := (⟨"BesideAnotherModel", "till", "(III)I"⟩, prog_11_method_100_code, 5, (some .int))
def y_M_lost : ZMI := (⟨"BesideAnotherModel", "lost", "()I"⟩, prog_11_method_101_code, 8, (some .int))
def y_M_free : ZMI := (⟨"BesideAnotherModel", "free", "()I"⟩, prog_11_method_102_code, 5, (some .int))
def y_M_keep : ZMI := (⟨"BesideAnotherModel", "keep", "(I)Z"⟩, prog_11_method_103_code, 4, (some .boolean))
def y_M_again : ZMI := (⟨"BesideAnotherModel", "again", "(I)Z"⟩, prog_11_method_104_code, 4, (some .boolean))
def y_M_count : ZMI := (⟨"BesideAnotherModel", "count", "(I)I"⟩, prog_11_method_105_code, 2, (some .int))
def y_M_init : ZMI := (⟨"BesideAnotherModel", "<init>", "()V"⟩, prog_11_method_106_code, 1, none)
def y_M_row : ZMI := (⟨"BesideAnotherModel", "row", "(I)I"⟩, prog_11_method_107_code, 2, (some .int))
def y_J_numberOfTrailingZeros : ZMI := (⟨"java/lang/Integer", "numberOfTrailingZeros", "(I)I"⟩, prog_16_method_48_code, 2, (some .int))
def y_J_bitCount : ZMI := (⟨"java/lang/Integer", "bitCount", "(I)I"⟩, prog_16_method_49_code, 1, (some .int))
def y_L_about : ZMI := (⟨"BesideAnotherLaw", "about", "(LBesideAnother;II[J)I"⟩, method_3_code, 5, (some .int))
def y_L_value : ZMI := (⟨"BesideAnotherLaw", "value", "(LBesideAnother;II[J)I"⟩, method_4_code, 5, (some .int))
def y_L_of : ZMI := (⟨"BesideAnotherLaw", "of", "(LBesideAnother;II[J)I"⟩, method_5_code, 5, (some .int))
def y_L_row : ZMI := (⟨"BesideAnotherLaw", "row", "(LBesideAnother;I[J)I"⟩, method_6_code, 4, (some .int))
def y_L_law : ZMI := (⟨"BesideAnotherLaw", "law", "([I)Z"⟩, code, 7, (some .boolean))
theorem z_C0 : ZCL 0 z_R0 z_F0 6 := ⟨rfl, by decide +kernel, rfl, ⟨z_y0, z_ty0⟩, z_nm0⟩
theorem z_C1 : ZCL 1 z_R1 z_F1 3 := ⟨rfl, by decide +kernel, rfl, ⟨z_y1, z_ty1⟩, z_nm1⟩
theorem z_C2 : ZCL 2 z_R2 z_F2 9 := ⟨rfl, by decide +kernel, rfl, ⟨z_y2, z_ty2⟩, z_nm2⟩
theorem z_C3 : ZCL 3 z_R3 z_F3 4 := ⟨rfl, by decide +kernel, rfl, ⟨z_y3, z_ty3⟩, z_nm3⟩
theorem z_C4 : ZCL 4 z_R4 z_F4 10 := ⟨rfl, by decide +kernel, rfl, ⟨z_y4, z_ty4⟩, z_nm4⟩
theorem z_C5 : ZCL 5 z_R5 z_F5 5 := ⟨rfl, by decide +kernel, rfl, ⟨z_y5, z_ty5⟩, z_nm5⟩
theorem z_C6 : ZCL 6 z_R6 z_F6 6 := ⟨rfl, by decide +kernel, rfl, ⟨z_y6, z_ty6⟩, z_nm6⟩
theorem z_C7 : ZCL 7 z_R7 z_F7 8 := ⟨rfl, by decide +kernel, rfl, ⟨z_y7, z_ty7⟩, z_nm7⟩
theorem z_C8 : ZCL 8 z_R8 z_F8 19 := ⟨rfl, by decide +kernel, rfl, ⟨z_y8, z_ty8⟩, z_nm8⟩
theorem z_C9 : ZCL 9 z_R9 z_F9 53 := ⟨rfl, by decide +kernel, rfl, ⟨z_y9, z_ty9⟩, z_nm9⟩
theorem zo_0 : z_isO 0 9 = true := by decide +kernel
theorem zo_1 : z_isO 1 8 = true := by decide +kernel
theorem za_102 : z_isA 1 102 20 = true := by decide +kernel
theorem za_104 : z_isA 1 104 12 = true := by decide +kernel
theorem za_105 : z_isA 1 105 12 = true := by decide +kernel
theorem za_106 : z_isA 1 106 12 = true := by decide +kernel
theorem za_107 : z_isA 1 107 3 = true := by decide +kernel
theorem za_108 : z_isA 1 108 3 = true := by decide +kernel
theorem za_110 : z_isA 1 110 6 = true := by decide +kernel
theorem za_111 : z_isA 1 111 6 = true := by decide +kernel
theorem za_112 : z_isA 1 112 6 = true := by decide +kernel
theorem za_113 : z_isA 1 113 6 = true := by decide +kernel
theorem za_114 : z_isA 1 114 1728 = true := by decide +kernel
theorem za_115 : z_isA 1 115 27 = true := by decide +kernel
theorem za_116 : z_isA 1 116 64 = true := by decide +kernel
theorem za_117 : z_isA 1 117 80 = true := by decide +kernel
theorem za_123 : z_isA 1 123 3 = true := by decide +kernel
theorem za_124 : z_isA 1 124 12 = true := by decide +kernel
theorem za_125 : z_isA 1 125 6 = true := by decide +kernel
theorem za_126 : z_isA 1 126 6 = true := by decide +kernel
theorem za_128 : z_isA 1 128 60 = true := by decide +kernel
theorem za_130 : z_isA 1 130 12 = true := by decide +kernel
theorem za_131 : z_isA 1 131 12 = true := by decide +kernel
theorem za_136 : z_isA 1 136 98304 = true := by decide +kernel
theorem za_137 : z_isA 1 137 4096 = true := by decide +kernel
theorem za_138 : z_isA 1 138 4096 = true := by decide +kernel
theorem za_139 : z_isA 1 139 4096 = true := by decide +kernel
theorem za_141 : z_isA 1 141 5000 = true := by decide +kernel
theorem za_142 : z_isA 1 142 4096 = true := by decide +kernel
theorem za_143 : z_isA 2 143 5000 = true := by decide +kernel
theorem za_144 : z_isA 1 144 5000 = true := by decide +kernel
theorem za_145 : z_isA 1 145 5000 = true := by decide +kernel
theorem za_146 : z_isA 1 146 5000 = true := by decide +kernel
theorem za_147 : z_isA 1 147 180000 = true := by decide +kernel
theorem za_148 : z_isA 1 148 16384 = true := by decide +kernel
theorem za_150 : z_isA 1 150 5000 = true := by decide +kernel
theorem za_151 : z_isA 3 151 3 = true := by decide +kernel
theorem za_152 : z_isA 1 152 273 = true := by decide +kernel
theorem zo_200 : z_isO 200 7 = true := by decide +kernel
theorem zo_201 : z_isO 201 6 = true := by decide +kernel
theorem zo_202 : z_isO 202 4 = true := by decide +kernel
theorem zo_203 : z_isO 203 5 = true := by decide +kernel
theorem za_205 : z_isA 5 205 6 = true := by decide +kernel
theorem za_206 : z_isA 6 206 3 = true := by decide +kernel
theorem za_210 : z_isA 1 210 60 = true := by decide +kernel
theorem za_212 : z_isA 1 212 12 = true := by decide +kernel
theorem za_214 : z_isA 1 214 6 = true := by decide +kernel
theorem za_215 : z_isA 1 215 6 = true := by decide +kernel
theorem za_216 : z_isA 1 216 12 = true := by decide +kernel
theorem za_217 : z_isA 1 217 12 = true := by decide +kernel
theorem za_218 : z_isA 1 218 13 = true := by decide +kernel
theorem za_224 : z_isA 1 224 80 = true := by decide +kernel
theorem za_240 : z_isA 4 240 12 = true := by decide +kernel
theorem za_241 : z_isA 1 241 3 = true := by decide +kernel
theorem za_243 : z_isA 1 243 12288 = true := by decide +kernel
theorem za_244 : z_isA 1 244 12288 = true := by decide +kernel
theorem za_260 : z_isA 2 260 5000 = true := by decide +kernel
theorem za_261 : z_isA 1 261 5000 = true := by decide +kernel
theorem za_262 : z_isA 1 262 5000 = true := by decide +kernel
theorem za_263 : z_isA 1 263 5000 = true := by decide +kernel
theorem za_264 : z_isA 1 264 5000 = true := by decide +kernel
theorem za_266 : z_isA 1 266 16384 = true := by decide +kernel
theorem za_267 : z_isA 1 267 5000 = true := by decide +kernel
theorem za_268 : z_isA 1 268 5001 = true := by decide +kernel
theorem za_269 : z_isA 1 269 180000 = true := by decide +kernel
theorem zo_352 : z_isO 352 1 = true := by decide +kernel
theorem zo_353 : z_isO 353 1 = true := by decide +kernel
theorem zo_354 : z_isO 354 1 = true := by decide +kernel
theorem za_550 : z_isA 2 550 1 = true := by decide +kernel
theorem z_all {P : Nat → Prop} (h : ∀ i ∈ z_ids, P i) {o c : Nat} (ho : z_isO o c = true) : P o := h o (z_isO_id ho).1
theorem ze_c {o : Nat} (h : z_isO o 1 = true) : z_isA 1 (o + 80) 60 = true := z_all (P := fun o => z_isO o 1 = true → z_isA 1 (o + 80) 60 = true) (by decide +kernel) h h
theorem ze_s {o : Nat} (h : z_isO o 1 = true) : z_isA 1 (o + 120) 60 = true := z_all (P := fun o => z_isO o 1 = true → z_isA 1 (o + 120) 60 = true) (by decide +kernel) h h
theorem zk_l {o : Nat} (h : z_isO o 2 = true) : z_isA 1 (o + 10) 60 = true := z_all (P := fun o => z_isO o 2 = true → z_isA 1 (o + 10) 60 = true) (by decide +kernel) h h
theorem zk_o {o : Nat} (h : z_isO o 2 = true) : z_isA 1 (o + 15) 12 = true := z_all (P := fun o => z_isO o 2 = true → z_isA 1 (o + 15) 12 = true) (by decide +kernel) h h
theorem zk_t {o : Nat} (h : z_isO o 2 = true) : z_isA 1 (o + 20) 6 = true := z_all (P := fun o => z_isO o 2 = true → z_isA 1 (o + 20) 6 = true) (by decide +kernel) h h
theorem zk_r {o : Nat} (h : z_isO o 2 = true) : z_isA 1 (o + 25) 6 = true := z_all (P := fun o => z_isO o 2 = true → z_isA 1 (o + 25) 6 = true) (by decide +kernel) h h
theorem zb_f {o : Nat} (h : z_isO o 0 = true) : z_isO (o + 20) 1 = true := z_all (P := fun o => z_isO o 0 = true → z_isO (o + 20) 1 = true) (by decide +kernel) h h
theorem zb_s {o : Nat} (h : z_isO o 0 = true) : z_isO (o + 40) 1 = true := z_all (P := fun o => z_isO o 0 = true → z_isO (o + 40) 1 = true) (by decide +kernel) h h
theorem z_inb {i : Int32} {n : Nat} (h : inb i n = true) : i.toNatClampNeg < n := (of_decide_eq_true h).2
theorem zr_b {i : Int32} (h : inb i 12 = true) : z_isO (z_ra 240 i.toNatClampNeg) 0 = true := by
  have h1 := z_inb h
  generalize i.toNatClampNeg = k at h1
  revert k; decide +kernel
theorem zr_r {i : Int32} (h : inb i 6 = true) : z_isO (z_ra 205 i.toNatClampNeg) 3 = true := by
  have h1 := z_inb h
  generalize i.toNatClampNeg = k at h1
  revert k; decide +kernel
theorem zr_k {i : Int32} (h : inb i 3 = true) : z_isO (z_ra 206 i.toNatClampNeg) 2 = true := by
  have h1 := z_inb h
  generalize i.toNatClampNeg = k at h1
  revert k; decide +kernel
theorem zf_X_12 : ZFL "BesideAnother" 12 8 0 := ⟨z_R8, z_F8, 19, z_C8, by decide, (gw_m 370 (by decide +kernel) (by decide +kernel))⟩
theorem zf_X_19 : ZFL "BesideAnother" 19 8 1 := ⟨z_R8, z_F8, 19, z_C8, by decide, (gw_m 371 (by decide +kernel) (by decide +kernel))⟩
theorem zf_X_26 : ZFL "BesideAnother" 26 8 2 := ⟨z_R8, z_F8, 19, z_C8, by decide, (gw_m 372 (by decide +kernel) (by decide +kernel))⟩
theorem zf_X_33 : ZFL "BesideAnother" 33 8 3 := ⟨z_R8, z_F8, 19, z_C8, by decide, (gw_m 373 (by decide +kernel) (by decide +kernel))⟩
theorem zf_X_40 : ZFL "BesideAnother" 40 8 4 := ⟨z_R8, z_F8, 19, z_C8, by decide, (gw_m 374 (by decide +kernel) (by decide +kernel))⟩
theorem zf_X_46 : ZFL "BesideAnother" 46 8 5 := ⟨z_R8, z_F8, 19, z_C8, by decide, (gw_m 375 (by decide +kernel) (by decide +kernel))⟩
theorem zf_X_52 : ZFL "BesideAnother" 52 8 6 := ⟨z_R8, z_F8, 19, z_C8, by decide, (gw_m 376 (by decide +kernel) (by decide +kernel))⟩
theorem zf_X_56 : ZFL "BesideAnother" 56 8 10 := ⟨z_R8, z_F8, 19, z_C8, by decide, (gw_m 380 (by decide +kernel) (by decide +kernel))⟩
theorem zf_X_60 : ZFL "BesideAnother" 60 8 12 := ⟨z_R8, z_F8, 19, z_C8, by decide, (gw_m 382 (by decide +kernel) (by decide +kernel))⟩
theorem zf_X_63 : ZFL "BesideAnother" 63 8 14 := ⟨z_R8, z_F8, 19, z_C8, by decide, (gw_m 384 (by decide +kernel) (by decide +kernel))⟩
theorem zf_X_66 : ZFL "BesideAnother" 66 8 15 := ⟨z_R8, z_F8, 19, z_C8, by decide, (gw_m 385 (by decide +kernel) (by decide +kernel))⟩
theorem zf_X_69 : ZFL "BesideAnother" 69 8 16 := ⟨z_R8, z_F8, 19, z_C8, by decide, (gw_m 386 (by decide +kernel) (by decide +kernel))⟩
theorem zf_X_72 : ZFL "BesideAnother" 72 8 17 := ⟨z_R8, z_F8, 19, z_C8, by decide, (gw_m 387 (by decide +kernel) (by decide +kernel))⟩
theorem zf_X_75 : ZFL "BesideAnother" 75 8 18 := ⟨z_R8, z_F8, 19, z_C8, by decide, (gw_m 388 (by decide +kernel) (by decide +kernel))⟩
theorem zf_X_88 : ZFL "BesideAnother" 88 6 2 := ⟨z_R6, z_F6, 6, z_C6, by decide, (gw_m 217 (by decide +kernel) (by decide +kernel))⟩
theorem zp_X_88 : ZFP "BesideAnother" 88 6 2 .int := ⟨z_R6, z_F6, 6, z_C6, by decide, (gw_m 217 (by decide +kernel) (by decide +kernel)), rfl, by decide +kernel⟩
theorem zf_X_102 : ZFL "BesideAnother" 102 6 0 := ⟨z_R6, z_F6, 6, z_C6, by decide, (gw_m 213 (by decide +kernel) (by decide +kernel))⟩
theorem zf_X_115 : ZFL "BesideAnother" 115 8 8 := ⟨z_R8, z_F8, 19, z_C8, by decide, (gw_m 378 (by decide +kernel) (by decide +kernel))⟩
theorem zp_X_115 : ZFP "BesideAnother" 115 8 8 .long := ⟨z_R8, z_F8, 19, z_C8, by decide, (gw_m 378 (by decide +kernel) (by decide +kernel)), rfl, by decide +kernel⟩
theorem zf_X_127 : ZFL "BesideAnother" 127 7 3 := ⟨z_R7, z_F7, 8, z_C7, by decide, (gw_m 151 (by decide +kernel) (by decide +kernel))⟩
theorem zf_X_131 : ZFL "BesideAnother" 131 7 0 := ⟨z_R7, z_F7, 8, z_C7, by decide, (gw_m 145 (by decide +kernel) (by decide +kernel))⟩
theorem zf_X_138 : ZFL "BesideAnother" 138 0 3 := ⟨z_R0, z_F0, 6, z_C0, by decide, (gw_m 192 (by decide +kernel) (by decide +kernel))⟩
theorem zp_X_138 : ZFP "BesideAnother" 138 0 3 .int := ⟨z_R0, z_F0, 6, z_C0, by decide, (gw_m 192 (by decide +kernel) (by decide +kernel)), rfl, by decide +kernel⟩
theorem zf_X_144 : ZFL "BesideAnother" 144 6 1 := ⟨z_R6, z_F6, 6, z_C6, by decide, (gw_m 215 (by decide +kernel) (by decide +kernel))⟩
theorem zf_X_166 : ZFL "BesideAnother" 166 0 4 := ⟨z_R0, z_F0, 6, z_C0, by decide, (gw_m 195 (by decide +kernel) (by decide +kernel))⟩
theorem zp_X_166 : ZFP "BesideAnother" 166 0 4 .int := ⟨z_R0, z_F0, 6, z_C0, by decide, (gw_m 195 (by decide +kernel) (by decide +kernel)), rfl, by decide +kernel⟩
theorem zf_X_169 : ZFL "BesideAnother" 169 0 5 := ⟨z_R0, z_F0, 6, z_C0, by decide, (gw_m 198 (by decide +kernel) (by decide +kernel))⟩
theorem zp_X_169 : ZFP "BesideAnother" 169 0 5 .int := ⟨z_R0, z_F0, 6, z_C0, by decide, (gw_m 198 (by decide +kernel) (by decide +kernel)), rfl, by decide +kernel⟩
theorem zf_X_209 : ZFL "BesideAnother" 209 8 13 := ⟨z_R8, z_F8, 19, z_C8, by decide, (gw_m 383 (by decide +kernel) (by decide +kernel))⟩
theorem zp_X_209 : ZFP "BesideAnother" 209 8 13 .int := ⟨z_R8, z_F8, 19, z_C8, by decide, (gw_m 383 (by decide +kernel) (by decide +kernel)), rfl, by decide +kernel⟩
theorem zf_X_229 : ZFL "BesideAnother" 229 8 7 := ⟨z_R8, z_F8, 19, z_C8, by decide, (gw_m 377 (by decide +kernel) (by decide +kernel))⟩
theorem zp_X_229 : ZFP "BesideAnother" 229 8 7 .int := ⟨z_R8, z_F8, 19, z_C8, by decide, (gw_m 377 (by decide +kernel) (by decide +kernel)), rfl, by decide +kernel⟩
theorem zf_X_239 : ZFL "BesideAnother" 239 3 1 := ⟨z_R3, z_F3, 4, z_C3, by decide, (gw_m 319 (by decide +kernel) (by decide +kernel))⟩
theorem zp_X_239 : ZFP "BesideAnother" 239 3 1 .int := ⟨z_R3, z_F3, 4, z_C3, by decide, (gw_m 319 (by decide +kernel) (by decide +kernel)), rfl, by decide +kernel⟩
theorem zf_X_246 : ZFL "BesideAnother" 246 3 3 := ⟨z_R3, z_F3, 4, z_C3, by decide, (gw_m 323 (by decide +kernel) (by decide +kernel))⟩
theorem zp_X_246 : ZFP "BesideAnother" 246 3 3 .int := ⟨z_R3, z_F3, 4, z_C3, by decide, (gw_m 323 (by decide +kernel) (by decide +kernel)), rfl, by decide +kernel⟩
theorem zf_X_251 : ZFL "BesideAnother" 251 3 2 := ⟨z_R3, z_F3, 4, z_C3, by decide, (gw_m 321 (by decide +kernel) (by decide +kernel))⟩
theorem zf_X_265 : ZFL "BesideAnother" 265 8 9 := ⟨z_R8, z_F8, 19, z_C8, by decide, (gw_m 379 (by decide +kernel) (by decide +kernel))⟩
theorem zp_X_265 : ZFP "BesideAnother" 265 8 9 .int := ⟨z_R8, z_F8, 19, z_C8, by decide, (gw_m 379 (by decide +kernel) (by decide +kernel)), rfl, by decide +kernel⟩
theorem zf_X_287 : ZFL "BesideAnother" 287 8 11 := ⟨z_R8, z_F8, 19, z_C8, by decide, (gw_m 381 (by decide +kernel) (by decide +kernel))⟩
theorem zp_X_287 : ZFP "BesideAnother" 287 8 11 .int := ⟨z_R8, z_F8, 19, z_C8, by decide, (gw_m 381 (by decide +kernel) (by decide +kernel)), rfl, by decide +kernel⟩
theorem zf_X_302 : ZFL "BesideAnother" 302 5 0 := ⟨z_R5, z_F5, 5, z_C5, by decide, (gw_m 285 (by decide +kernel) (by decide +kernel))⟩
theorem zf_X_308 : ZFL "BesideAnother" 308 5 1 := ⟨z_R5, z_F5, 5, z_C5, by decide, (gw_m 287 (by decide +kernel) (by decide +kernel))⟩
theorem zf_X_311 : ZFL "BesideAnother" 311 5 4 := ⟨z_R5, z_F5, 5, z_C5, by decide, (gw_m 293 (by decide +kernel) (by decide +kernel))⟩
theorem zf_X_314 : ZFL "BesideAnother" 314 5 3 := ⟨z_R5, z_F5, 5, z_C5, by decide, (gw_m 291 (by decide +kernel) (by decide +kernel))⟩
theorem zf_X_317 : ZFL "BesideAnother" 317 5 2 := ⟨z_R5, z_F5, 5, z_C5, by decide, (gw_m 289 (by decide +kernel) (by decide +kernel))⟩
theorem zf_X_349 : ZFL "BesideAnother" 349 4 5 := ⟨z_R4, z_F4, 10, z_C4, by decide, (gw_m 251 (by decide +kernel) (by decide +kernel))⟩
theorem zf_X_356 : ZFL "BesideAnother" 356 4 3 := ⟨z_R4, z_F4, 10, z_C4, by decide, (gw_m 247 (by decide +kernel) (by decide +kernel))⟩
theorem zf_X_359 : ZFL "BesideAnother" 359 4 2 := ⟨z_R4, z_F4, 10, z_C4, by decide, (gw_m 245 (by decide +kernel) (by decide +kernel))⟩
theorem zf_X_362 : ZFL "BesideAnother" 362 4 1 := ⟨z_R4, z_F4, 10, z_C4, by decide, (gw_m 243 (by decide +kernel) (by decide +kernel))⟩
theorem zf_X_371 : ZFL "BesideAnother" 371 4 4 := ⟨z_R4, z_F4, 10, z_C4, by decide, (gw_m 249 (by decide +kernel) (by decide +kernel))⟩
theorem zf_X_381 : ZFL "BesideAnother" 381 2 0 := ⟨z_R2, z_F2, 9, z_C2, by decide, (gw_m 338 (by decide +kernel) (by decide +kernel))⟩
theorem zp_X_381 : ZFP "BesideAnother" 381 2 0 .boolean := ⟨z_R2, z_F2, 9, z_C2, by decide, (gw_m 338 (by decide +kernel) (by decide +kernel)), rfl, by decide +kernel⟩
theorem zf_X_385 : ZFL "BesideAnother" 385 2 1 := ⟨z_R2, z_F2, 9, z_C2, by decide, (gw_m 339 (by decide +kernel) (by decide +kernel))⟩
theorem zp_X_385 : ZFP "BesideAnother" 385 2 1 .long := ⟨z_R2, z_F2, 9, z_C2, by decide, (gw_m 339 (by decide +kernel) (by decide +kernel)), rfl, by decide +kernel⟩
theorem zf_X_388 : ZFL "BesideAnother" 388 2 2 := ⟨z_R2, z_F2, 9, z_C2, by decide, (gw_m 340 (by decide +kernel) (by decide +kernel))⟩
theorem zp_X_388 : ZFP "BesideAnother" 388 2 2 .int := ⟨z_R2, z_F2, 9, z_C2, by decide, (gw_m 340 (by decide +kernel) (by decide +kernel)), rfl, by decide +kernel⟩
theorem zf_X_391 : ZFL "BesideAnother" 391 2 3 := ⟨z_R2, z_F2, 9, z_C2, by decide, (gw_m 341 (by decide +kernel) (by decide +kernel))⟩
theorem zp_X_391 : ZFP "BesideAnother" 391 2 3 .int := ⟨z_R2, z_F2, 9, z_C2, by decide, (gw_m 341 (by decide +kernel) (by decide +kernel)), rfl, by decide +kernel⟩
theorem zf_X_392 : ZFL "BesideAnother" 392 2 4 := ⟨z_R2, z_F2, 9, z_C2, by decide, (gw_m 342 (by decide +kernel) (by decide +kernel))⟩
theorem zp_X_392 : ZFP "BesideAnother" 392 2 4 .int := ⟨z_R2, z_F2, 9, z_C2, by decide, (gw_m 342 (by decide +kernel) (by decide +kernel)), rfl, by decide +kernel⟩
theorem zf_X_394 : ZFL "BesideAnother" 394 2 5 := ⟨z_R2, z_F2, 9, z_C2, by decide, (gw_m 344 (by decide +kernel) (by decide +kernel))⟩
theorem zf_X_401 : ZFL "BesideAnother" 401 2 6 := ⟨z_R2, z_F2, 9, z_C2, by decide, (gw_m 346 (by decide +kernel) (by decide +kernel))⟩
theorem zf_X_403 : ZFL "BesideAnother" 403 2 7 := ⟨z_R2, z_F2, 9, z_C2, by decide, (gw_m 348 (by decide +kernel) (by decide +kernel))⟩
theorem zf_X_405 : ZFL "BesideAnother" 405 2 8 := ⟨z_R2, z_F2, 9, z_C2, by decide, (gw_m 350 (by decide +kernel) (by decide +kernel))⟩
theorem zf_X_407 : ZFL "BesideAnother" 407 3 0 := ⟨z_R3, z_F3, 4, z_C3, by decide, (gw_m 317 (by decide +kernel) (by decide +kernel))⟩
theorem zf_B_12 : ZFL "BesideAnother$Book" 12 0 0 := ⟨z_R0, z_F0, 6, z_C0, by decide, (gw_m 188 (by decide +kernel) (by decide +kernel))⟩
theorem zf_B_18 : ZFL "BesideAnother$Book" 18 0 1 := ⟨z_R0, z_F0, 6, z_C0, by decide, (gw_m 189 (by decide +kernel) (by decide +kernel))⟩
theorem zf_B_21 : ZFL "BesideAnother$Book" 21 0 3 := ⟨z_R0, z_F0, 6, z_C0, by decide, (gw_m 191 (by decide +kernel) (by decide +kernel))⟩
theorem zf_B_25 : ZFL "BesideAnother$Book" 25 7 0 := ⟨z_R7, z_F7, 8, z_C7, by decide, (gw_m 144 (by decide +kernel) (by decide +kernel))⟩
theorem zf_B_32 : ZFL "BesideAnother$Book" 32 7 1 := ⟨z_R7, z_F7, 8, z_C7, by decide, (gw_m 147 (by decide +kernel) (by decide +kernel))⟩
theorem zf_B_33 : ZFL "BesideAnother$Book" 33 7 2 := ⟨z_R7, z_F7, 8, z_C7, by decide, (gw_m 148 (by decide +kernel) (by decide +kernel))⟩
theorem zf_B_36 : ZFL "BesideAnother$Book" 36 0 2 := ⟨z_R0, z_F0, 6, z_C0, by decide, (gw_m 190 (by decide +kernel) (by decide +kernel))⟩
theorem zp_B_36 : ZFP "BesideAnother$Book" 36 0 2 .int := ⟨z_R0, z_F0, 6, z_C0, by decide, (gw_m 190 (by decide +kernel) (by decide +kernel)), rfl, by decide +kernel⟩
theorem zf_B_37 : ZFL "BesideAnother$Book" 37 0 5 := ⟨z_R0, z_F0, 6, z_C0, by decide, (gw_m 196 (by decide +kernel) (by decide +kernel))⟩
theorem zf_E_9 : ZFL "BesideAnother$Expression" 9 1 0 := ⟨z_R1, z_F1, 3, z_C1, by decide, (gw_m 132 (by decide +kernel) (by decide +kernel))⟩
theorem zf_E_15 : ZFL "BesideAnother$Expression" 15 1 1 := ⟨z_R1, z_F1, 3, z_C1, by decide, (gw_m 133 (by decide +kernel) (by decide +kernel))⟩
theorem zf_E_18 : ZFL "BesideAnother$Expression" 18 1 2 := ⟨z_R1, z_F1, 3, z_C1, by decide, (gw_m 134 (by decide +kernel) (by decide +kernel))⟩
theorem zp_E_18 : ZFP "BesideAnother$Expression" 18 1 2 .int := ⟨z_R1, z_F1, 3, z_C1, by decide, (gw_m 134 (by decide +kernel) (by decide +kernel)), rfl, by decide +kernel⟩
theorem zf_K_9 : ZFL "BesideAnother$Kept" 9 2 5 := ⟨z_R2, z_F2, 9, z_C2, by decide, (gw_m 343 (by decide +kernel) (by decide +kernel))⟩
theorem zf_K_15 : ZFL "BesideAnother$Kept" 15 2 6 := ⟨z_R2, z_F2, 9, z_C2, by decide, (gw_m 345 (by decide +kernel) (by decide +kernel))⟩
theorem zf_K_18 : ZFL "BesideAnother$Kept" 18 2 7 := ⟨z_R2, z_F2, 9, z_C2, by decide, (gw_m 347 (by decide +kernel) (by decide +kernel))⟩
theorem zf_K_21 : ZFL "BesideAnother$Kept" 21 2 8 := ⟨z_R2, z_F2, 9, z_C2, by decide, (gw_m 349 (by decide +kernel) (by decide +kernel))⟩
theorem zf_R_7 : ZFL "BesideAnother$Reader" 7 3 0 := ⟨z_R3, z_F3, 4, z_C3, by decide, (gw_m 316 (by decide +kernel) (by decide +kernel))⟩
theorem zp_R_7 : ZFP "BesideAnother$Reader" 7 3 0 .int := ⟨z_R3, z_F3, 4, z_C3, by decide, (gw_m 316 (by decide +kernel) (by decide +kernel)), rfl, by decide +kernel⟩
theorem zf_R_13 : ZFL "BesideAnother$Reader" 13 3 1 := ⟨z_R3, z_F3, 4, z_C3, by decide, (gw_m 318 (by decide +kernel) (by decide +kernel))⟩
theorem zp_R_13 : ZFP "BesideAnother$Reader" 13 3 1 .int := ⟨z_R3, z_F3, 4, z_C3, by decide, (gw_m 318 (by decide +kernel) (by decide +kernel)), rfl, by decide +kernel⟩
theorem zf_R_16 : ZFL "BesideAnother$Reader" 16 3 2 := ⟨z_R3, z_F3, 4, z_C3, by decide, (gw_m 320 (by decide +kernel) (by decide +kernel))⟩
theorem zp_R_16 : ZFP "BesideAnother$Reader" 16 3 2 .int := ⟨z_R3, z_F3, 4, z_C3, by decide, (gw_m 320 (by decide +kernel) (by decide +kernel)), rfl, by decide +kernel⟩
theorem zf_R_19 : ZFL "BesideAnother$Reader" 19 3 3 := ⟨z_R3, z_F3, 4, z_C3, by decide, (gw_m 322 (by decide +kernel) (by decide +kernel))⟩
theorem zf_S_9 : ZFL "BesideAnother$Search" 9 4 0 := ⟨z_R4, z_F4, 10, z_C4, by decide, (gw_m 241 (by decide +kernel) (by decide +kernel))⟩
theorem zf_S_15 : ZFL "BesideAnother$Search" 15 4 1 := ⟨z_R4, z_F4, 10, z_C4, by decide, (gw_m 242 (by decide +kernel) (by decide +kernel))⟩
theorem zf_S_19 : ZFL "BesideAnother$Search" 19 4 2 := ⟨z_R4, z_F4, 10, z_C4, by decide, (gw_m 244 (by decide +kernel) (by decide +kernel))⟩
theorem zf_S_22 : ZFL "BesideAnother$Search" 22 4 3 := ⟨z_R4, z_F4, 10, z_C4, by decide, (gw_m 246 (by decide +kernel) (by decide +kernel))⟩
theorem zf_S_25 : ZFL "BesideAnother$Search" 25 4 4 := ⟨z_R4, z_F4, 10, z_C4, by decide, (gw_m 248 (by decide +kernel) (by decide +kernel))⟩
theorem zf_S_28 : ZFL "BesideAnother$Search" 28 4 6 := ⟨z_R4, z_F4, 10, z_C4, by decide, (gw_m 252 (by decide +kernel) (by decide +kernel))⟩
theorem zf_S_31 : ZFL "BesideAnother$Search" 31 4 7 := ⟨z_R4, z_F4, 10, z_C4, by decide, (gw_m 253 (by decide +kernel) (by decide +kernel))⟩
theorem zf_S_34 : ZFL "BesideAnother$Search" 34 4 8 := ⟨z_R4, z_F4, 10, z_C4, by decide, (gw_m 254 (by decide +kernel) (by decide +kernel))⟩
theorem zf_S_38 : ZFL "BesideAnother$Search" 38 4 9 := ⟨z_R4, z_F4, 10, z_C4, by decide, (gw_m 255 (by decide +kernel) (by decide +kernel))⟩
theorem zf_S_41 : ZFL "BesideAnother$Search" 41 4 5 := ⟨z_R4, z_F4, 10, z_C4, by decide, (gw_m 250 (by decide +kernel) (by decide +kernel))⟩
theorem zp_S_41 : ZFP "BesideAnother$Search" 41 4 5 .int := ⟨z_R4, z_F4, 10, z_C4, by decide, (gw_m 250 (by decide +kernel) (by decide +kernel)), rfl, by decide +kernel⟩
theorem zf_V_9 : ZFL "BesideAnother$Survey" 9 5 0 := ⟨z_R5, z_F5, 5, z_C5, by decide, (gw_m 284 (by decide +kernel) (by decide +kernel))⟩
theorem zp_V_9 : ZFP "BesideAnother$Survey" 9 5 0 .int := ⟨z_R5, z_F5, 5, z_C5, by decide, (gw_m 284 (by decide +kernel) (by decide +kernel)), rfl, by decide +kernel⟩
theorem zf_V_15 : ZFL "BesideAnother$Survey" 15 5 1 := ⟨z_R5, z_F5, 5, z_C5, by decide, (gw_m 286 (by decide +kernel) (by decide +kernel))⟩
theorem zp_V_15 : ZFP "BesideAnother$Survey" 15 5 1 .int := ⟨z_R5, z_F5, 5, z_C5, by decide, (gw_m 286 (by decide +kernel) (by decide +kernel)), rfl, by decide +kernel⟩
theorem zf_V_18 : ZFL "BesideAnother$Survey" 18 5 2 := ⟨z_R5, z_F5, 5, z_C5, by decide, (gw_m 288 (by decide +kernel) (by decide +kernel))⟩
theorem zp_V_18 : ZFP "BesideAnother$Survey" 18 5 2 .int := ⟨z_R5, z_F5, 5, z_C5, by decide, (gw_m 288 (by decide +kernel) (by decide +kernel)), rfl, by decide +kernel⟩
theorem zf_V_21 : ZFL "BesideAnother$Survey" 21 5 3 := ⟨z_R5, z_F5, 5, z_C5, by decide, (gw_m 290 (by decide +kernel) (by decide +kernel))⟩
theorem zp_V_21 : ZFP "BesideAnother$Survey" 21 5 3 .int := ⟨z_R5, z_F5, 5, z_C5, by decide, (gw_m 290 (by decide +kernel) (by decide +kernel)), rfl, by decide +kernel⟩
theorem zf_V_24 : ZFL "BesideAnother$Survey" 24 5 4 := ⟨z_R5, z_F5, 5, z_C5, by decide, (gw_m 292 (by decide +kernel) (by decide +kernel))⟩
theorem zp_V_24 : ZFP "BesideAnother$Survey" 24 5 4 .int := ⟨z_R5, z_F5, 5, z_C5, by decide, (gw_m 292 (by decide +kernel) (by decide +kernel)), rfl, by decide +kernel⟩
theorem zf_T_11 : ZFL "BesideAnother$Tables" 11 6 0 := ⟨z_R6, z_F6, 6, z_C6, by decide, (gw_m 212 (by decide +kernel) (by decide +kernel))⟩
theorem zf_T_17 : ZFL "BesideAnother$Tables" 17 6 1 := ⟨z_R6, z_F6, 6, z_C6, by decide, (gw_m 214 (by decide +kernel) (by decide +kernel))⟩
theorem zf_T_21 : ZFL "BesideAnother$Tables" 21 6 3 := ⟨z_R6, z_F6, 6, z_C6, by decide, (gw_m 218 (by decide +kernel) (by decide +kernel))⟩
theorem zf_T_24 : ZFL "BesideAnother$Tables" 24 6 4 := ⟨z_R6, z_F6, 6, z_C6, by decide, (gw_m 219 (by decide +kernel) (by decide +kernel))⟩
theorem zf_T_27 : ZFL "BesideAnother$Tables" 27 6 5 := ⟨z_R6, z_F6, 6, z_C6, by decide, (gw_m 220 (by decide +kernel) (by decide +kernel))⟩
theorem zp_T_27 : ZFP "BesideAnother$Tables" 27 6 5 .int := ⟨z_R6, z_F6, 6, z_C6, by decide, (gw_m 220 (by decide +kernel) (by decide +kernel)), rfl, by decide +kernel⟩
theorem zf_T_32 : ZFL "BesideAnother$Tables" 32 6 2 := ⟨z_R6, z_F6, 6, z_C6, by decide, (gw_m 216 (by decide +kernel) (by decide +kernel))⟩
theorem zf_T_35 : ZFL "BesideAnother$Tables" 35 0 5 := ⟨z_R0, z_F0, 6, z_C0, by decide, (gw_m 197 (by decide +kernel) (by decide +kernel))⟩
theorem zp_T_35 : ZFP "BesideAnother$Tables" 35 0 5 .int := ⟨z_R0, z_F0, 6, z_C0, by decide, (gw_m 197 (by decide +kernel) (by decide +kernel)), rfl, by decide +kernel⟩
theorem zf_T_38 : ZFL "BesideAnother$Tables" 38 0 4 := ⟨z_R0, z_F0, 6, z_C0, by decide, (gw_m 194 (by decide +kernel) (by decide +kernel))⟩
theorem zf_T_41 : ZFL "BesideAnother$Tables" 41 0 3 := ⟨z_R0, z_F0, 6, z_C0, by decide, (gw_m 193 (by decide +kernel) (by decide +kernel))⟩
theorem zf_P_12 : ZFL "BesideAnother$Text" 12 7 0 := ⟨z_R7, z_F7, 8, z_C7, by decide, (gw_m 143 (by decide +kernel) (by decide +kernel))⟩
theorem zf_P_18 : ZFL "BesideAnother$Text" 18 7 1 := ⟨z_R7, z_F7, 8, z_C7, by decide, (gw_m 146 (by decide +kernel) (by decide +kernel))⟩
theorem zf_P_21 : ZFL "BesideAnother$Text" 21 7 4 := ⟨z_R7, z_F7, 8, z_C7, by decide, (gw_m 152 (by decide +kernel) (by decide +kernel))⟩
theorem zf_P_25 : ZFL "BesideAnother$Text" 25 7 5 := ⟨z_R7, z_F7, 8, z_C7, by decide, (gw_m 153 (by decide +kernel) (by decide +kernel))⟩
theorem zp_P_25 : ZFP "BesideAnother$Text" 25 7 5 (.object "BesideAnother$Expression") := ⟨z_R7, z_F7, 8, z_C7, by decide, (gw_m 153 (by decide +kernel) (by decide +kernel)), rfl, by decide +kernel⟩
theorem zf_P_28 : ZFL "BesideAnother$Text" 28 7 3 := ⟨z_R7, z_F7, 8, z_C7, by decide, (gw_m 150 (by decide +kernel) (by decide +kernel))⟩
theorem zp_P_28 : ZFP "BesideAnother$Text" 28 7 3 .int := ⟨z_R7, z_F7, 8, z_C7, by decide, (gw_m 150 (by decide +kernel) (by decide +kernel)), rfl, by decide +kernel⟩
theorem zf_P_38 : ZFL "BesideAnother$Text" 38 7 7 := ⟨z_R7, z_F7, 8, z_C7, by decide, (gw_m 155 (by decide +kernel) (by decide +kernel))⟩
theorem zp_P_38 : ZFP "BesideAnother$Text" 38 7 7 .int := ⟨z_R7, z_F7, 8, z_C7, by decide, (gw_m 155 (by decide +kernel) (by decide +kernel)), rfl, by decide +kernel⟩
theorem zf_P_41 : ZFL "BesideAnother$Text" 41 7 6 := ⟨z_R7, z_F7, 8, z_C7, by decide, (gw_m 154 (by decide +kernel) (by decide +kernel))⟩
theorem zp_P_41 : ZFP "BesideAnother$Text" 41 7 6 .int := ⟨z_R7, z_F7, 8, z_C7, by decide, (gw_m 154 (by decide +kernel) (by decide +kernel)), rfl, by decide +kernel⟩
theorem zf_P_44 : ZFL "BesideAnother$Text" 44 7 2 := ⟨z_R7, z_F7, 8, z_C7, by decide, (gw_m 149 (by decide +kernel) (by decide +kernel))⟩
theorem zp_P_44 : ZFP "BesideAnother$Text" 44 7 2 .int := ⟨z_R7, z_F7, 8, z_C7, by decide, (gw_m 149 (by decide +kernel) (by decide +kernel)), rfl, by decide +kernel⟩
theorem zf_M_3 : ZFL "BesideAnotherModel" 3 9 0 := ⟨z_R9, z_F9, 53, z_C9, by decide, (gw_m 1500 (by decide +kernel) (by decide +kernel))⟩
theorem zp_M_3 : ZFP "BesideAnotherModel" 3 9 0 .int := ⟨z_R9, z_F9, 53, z_C9, by decide, (gw_m 1500 (by decide +kernel) (by decide +kernel)), rfl, by decide +kernel⟩
theorem zf_M_7 : ZFL "BesideAnotherModel" 7 9 2 := ⟨z_R9, z_F9, 53, z_C9, by decide, (gw_m 1502 (by decide +kernel) (by decide +kernel))⟩
theorem zf_M_11 : ZFL "BesideAnotherModel" 11 9 1 := ⟨z_R9, z_F9, 53, z_C9, by decide, (gw_m 1501 (by decide +kernel) (by decide +kernel))⟩
theorem zp_M_11 : ZFP "BesideAnotherModel" 11 9 1 .int := ⟨z_R9, z_F9, 53, z_C9, by decide, (gw_m 1501 (by decide +kernel) (by decide +kernel)), rfl, by decide +kernel⟩
theorem zf_M_14 : ZFL "BesideAnotherModel" 14 9 3 := ⟨z_R9, z_F9, 53, z_C9, by decide, (gw_m 1503 (by decide +kernel) (by decide +kernel))⟩
theorem zp_M_14 : ZFP "BesideAnotherModel" 14 9 3 .int := ⟨z_R9, z_F9, 53, z_C9, by decide, (gw_m 1503 (by decide +kernel) (by decide +kernel)), rfl, by decide +kernel⟩
theorem zf_M_23 : ZFL "BesideAnotherModel" 23 9 9 := ⟨z_R9, z_F9, 53, z_C9, by decide, (gw_m 1509 (by decide +kernel) (by decide +kernel))⟩
theorem zp_M_23 : ZFP "BesideAnotherModel" 23 9 9 .int := ⟨z_R9, z_F9, 53, z_C9, by decide, (gw_m 1509 (by decide +kernel) (by decide +kernel)), rfl, by decide +kernel⟩
theorem zf_M_26 : ZFL "BesideAnotherModel" 26 9 13 := ⟨z_R9, z_F9, 53, z_C9, by decide, (gw_m 1513 (by decide +kernel) (by decide +kernel))⟩
theorem zf_M_37 : ZFL "BesideAnotherModel" 37 9 18 := ⟨z_R9, z_F9, 53, z_C9, by decide, (gw_m 1518 (by decide +kernel) (by decide +kernel))⟩
theorem zp_M_37 : ZFP "BesideAnotherModel" 37 9 18 .int := ⟨z_R9, z_F9, 53, z_C9, by decide, (gw_m 1518 (by decide +kernel) (by decide +kernel)), rfl, by decide +kernel⟩
theorem zf_M_40 : ZFL "BesideAnotherModel" 40 9 17 := ⟨z_R9, z_F9, 53, z_C9, by decide, (gw_m 1517 (by decide +kernel) (by decide +kernel))⟩
theorem zf_M_43 : ZFL "BesideAnotherModel" 43 9 19 := ⟨z_R9, z_F9, 53, z_C9, by decide, (gw_m 1519 (by decide +kernel) (by decide +kernel))⟩
theorem zp_M_43 : ZFP "BesideAnotherModel" 43 9 19 .int := ⟨z_R9, z_F9, 53, z_C9, by decide, (gw_m 1519 (by decide +kernel) (by decide +kernel)), rfl, by decide +kernel⟩
theorem zf_M_46 : ZFL "BesideAnotherModel" 46 9 20 := ⟨z_R9, z_F9, 53, z_C9, by decide, (gw_m 1520 (by decide +kernel) (by decide +kernel))⟩
theorem zp_M_46 : ZFP "BesideAnotherModel" 46 9 20 .int := ⟨z_R9, z_F9, 53, z_C9, by decide, (gw_m 1520 (by decide +kernel) (by decide +kernel)), rfl, by decide +kernel⟩
theorem zf_M_63 : ZFL "BesideAnotherModel" 63 9 14 := ⟨z_R9, z_F9, 53, z_C9, by decide, (gw_m 1514 (by decide +kernel) (by decide +kernel))⟩
theorem zf_M_66 : ZFL "BesideAnotherModel" 66 9 22 := ⟨z_R9, z_F9, 53, z_C9, by decide, (gw_m 1522 (by decide +kernel) (by decide +kernel))⟩
theorem zp_M_66 : ZFP "BesideAnotherModel" 66 9 22 .int := ⟨z_R9, z_F9, 53, z_C9, by decide, (gw_m 1522 (by decide +kernel) (by decide +kernel)), rfl, by decide +kernel⟩
theorem zf_M_69 : ZFL "BesideAnotherModel" 69 9 15 := ⟨z_R9, z_F9, 53, z_C9, by decide, (gw_m 1515 (by decide +kernel) (by decide +kernel))⟩
theorem zf_M_88 : ZFL "BesideAnotherModel" 88 9 21 := ⟨z_R9, z_F9, 53, z_C9, by decide, (gw_m 1521 (by decide +kernel) (by decide +kernel))⟩
theorem zp_M_88 : ZFP "BesideAnotherModel" 88 9 21 .int := ⟨z_R9, z_F9, 53, z_C9, by decide, (gw_m 1521 (by decide +kernel) (by decide +kernel)), rfl, by decide +kernel⟩
theorem zf_M_124 : ZFL "BesideAnotherModel" 124 9 16 := ⟨z_R9, z_F9, 53, z_C9, by decide, (gw_m 1516 (by decide +kernel) (by decide +kernel))⟩
theorem zf_M_135 : ZFL "BesideAnotherModel" 135 9 6 := ⟨z_R9, z_F9, 53, z_C9, by decide, (gw_m 1506 (by decide +kernel) (by decide +kernel))⟩
theorem zf_M_154 : ZFL "BesideAnotherModel" 154 9 8 := ⟨z_R9, z_F9, 53, z_C9, by decide, (gw_m 1508 (by decide +kernel) (by decide +kernel))⟩
theorem zf_M_173 : ZFL "BesideAnotherModel" 173 9 4 := ⟨z_R9, z_F9, 53, z_C9, by decide, (gw_m 1504 (by decide +kernel) (by decide +kernel))⟩
theorem zf_M_176 : ZFL "BesideAnotherModel" 176 9 5 := ⟨z_R9, z_F9, 53, z_C9, by decide, (gw_m 1505 (by decide +kernel) (by decide +kernel))⟩
theorem zf_M_199 : ZFL "BesideAnotherModel" 199 9 7 := ⟨z_R9, z_F9, 53, z_C9, by decide, (gw_m 1507 (by decide +kernel) (by decide +kernel))⟩
theorem zf_M_242 : ZFL "BesideAnotherModel" 242 9 23 := ⟨z_R9, z_F9, 53, z_C9, by decide, (gw_m 1523 (by decide +kernel) (by decide +kernel))⟩
theorem zf_M_245 : ZFL "BesideAnotherModel" 245 9 24 := ⟨z_R9, z_F9, 53, z_C9, by decide, (gw_m 1524 (by decide +kernel) (by decide +kernel))⟩
theorem zf_M_257 : ZFL "BesideAnotherModel" 257 9 10 := ⟨z_R9, z_F9, 53, z_C9, by decide, (gw_m 1510 (by decide +kernel) (by decide +kernel))⟩
theorem zf_M_260 : ZFL "BesideAnotherModel" 260 9 11 := ⟨z_R9, z_F9, 53, z_C9, by decide, (gw_m 1511 (by decide +kernel) (by decide +kernel))⟩
theorem zf_M_263 : ZFL "BesideAnotherModel" 263 9 12 := ⟨z_R9, z_F9, 53, z_C9, by decide, (gw_m 1512 (by decide +kernel) (by decide +kernel))⟩
theorem zf_M_275 : ZFL "BesideAnotherModel" 275 9 26 := ⟨z_R9, z_F9, 53, z_C9, by decide, (gw_m 1526 (by decide +kernel) (by decide +kernel))⟩
theorem zf_M_281 : ZFL "BesideAnotherModel" 281 9 25 := ⟨z_R9, z_F9, 53, z_C9, by decide, (gw_m 1525 (by decide +kernel) (by decide +kernel))⟩
theorem zf_M_284 : ZFL "BesideAnotherModel" 284 9 27 := ⟨z_R9, z_F9, 53, z_C9, by decide, (gw_m 1527 (by decide +kernel) (by decide +kernel))⟩
theorem zp_M_284 : ZFP "BesideAnotherModel" 284 9 27 .int := ⟨z_R9, z_F9, 53, z_C9, by decide, (gw_m 1527 (by decide +kernel) (by decide +kernel)), rfl, by decide +kernel⟩
theorem zf_M_287 : ZFL "BesideAnotherModel" 287 9 28 := ⟨z_R9, z_F9, 53, z_C9, by decide, (gw_m 1528 (by decide +kernel) (by decide +kernel))⟩
theorem zf_M_308 : ZFL "BesideAnotherModel" 308 9 29 := ⟨z_R9, z_F9, 53, z_C9, by decide, (gw_m 1529 (by decide +kernel) (by decide +kernel))⟩
theorem zp_M_308 : ZFP "BesideAnotherModel" 308 9 29 .int := ⟨z_R9, z_F9, 53, z_C9, by decide, (gw_m 1529 (by decide +kernel) (by decide +kernel)), rfl, by decide +kernel⟩
theorem zf_M_316 : ZFL "BesideAnotherModel" 316 9 31 := ⟨z_R9, z_F9, 53, z_C9, by decide, (gw_m 1531 (by decide +kernel) (by decide +kernel))⟩
theorem zf_M_319 : ZFL "BesideAnotherModel" 319 9 30 := ⟨z_R9, z_F9, 53, z_C9, by decide, (gw_m 1530 (by decide +kernel) (by decide +kernel))⟩
theorem zf_M_328 : ZFL "BesideAnotherModel" 328 9 32 := ⟨z_R9, z_F9, 53, z_C9, by decide, (gw_m 1532 (by decide +kernel) (by decide +kernel))⟩
theorem zp_M_328 : ZFP "BesideAnotherModel" 328 9 32 .int := ⟨z_R9, z_F9, 53, z_C9, by decide, (gw_m 1532 (by decide +kernel) (by decide +kernel)), rfl, by decide +kernel⟩
theorem zf_M_331 : ZFL "BesideAnotherModel" 331 9 33 := ⟨z_R9, z_F9, 53, z_C9, by decide, (gw_m 1533 (by decide +kernel) (by decide +kernel))⟩
theorem zp_M_331 : ZFP "BesideAnotherModel" 331 9 33 .int := ⟨z_R9, z_F9, 53, z_C9, by decide, (gw_m 1533 (by decide +kernel) (by decide +kernel)), rfl, by decide +kernel⟩
theorem zf_M_334 : ZFL "BesideAnotherModel" 334 9 34 := ⟨z_R9, z_F9, 53, z_C9, by decide, (gw_m 1534 (by decide +kernel) (by decide +kernel))⟩
theorem zp_M_334 : ZFP "BesideAnotherModel" 334 9 34 .int := ⟨z_R9, z_F9, 53, z_C9, by decide, (gw_m 1534 (by decide +kernel) (by decide +kernel)), rfl, by decide +kernel⟩
theorem zf_M_337 : ZFL "BesideAnotherModel" 337 9 35 := ⟨z_R9, z_F9, 53, z_C9, by decide, (gw_m 1535 (by decide +kernel) (by decide +kernel))⟩
theorem zp_M_337 : ZFP "BesideAnotherModel" 337 9 35 .int := ⟨z_R9, z_F9, 53, z_C9, by decide, (gw_m 1535 (by decide +kernel) (by decide +kernel)), rfl, by decide +kernel⟩
theorem zf_M_343 : ZFL "BesideAnotherModel" 343 9 36 := ⟨z_R9, z_F9, 53, z_C9, by decide, (gw_m 1536 (by decide +kernel) (by decide +kernel))⟩
theorem zf_M_346 : ZFL "BesideAnotherModel" 346 9 37 := ⟨z_R9, z_F9, 53, z_C9, by decide, (gw_m 1537 (by decide +kernel) (by decide +kernel))⟩
theorem zf_M_349 : ZFL "BesideAnotherModel" 349 9 39 := ⟨z_R9, z_F9, 53, z_C9, by decide, (gw_m 1539 (by decide +kernel) (by decide +kernel))⟩
theorem zf_M_352 : ZFL "BesideAnotherModel" 352 9 40 := ⟨z_R9, z_F9, 53, z_C9, by decide, (gw_m 1540 (by decide +kernel) (by decide +kernel))⟩
theorem zp_M_352 : ZFP "BesideAnotherModel" 352 9 40 .int := ⟨z_R9, z_F9, 53, z_C9, by decide, (gw_m 1540 (by decide +kernel) (by decide +kernel)), rfl, by decide +kernel⟩
theorem zf_M_355 : ZFL "BesideAnotherModel" 355 9 38 := ⟨z_R9, z_F9, 53, z_C9, by decide, (gw_m 1538 (by decide +kernel) (by decide +kernel))⟩
theorem zf_M_370 : ZFL "BesideAnotherModel" 370 9 41 := ⟨z_R9, z_F9, 53, z_C9, by decide, (gw_m 1541 (by decide +kernel) (by decide +kernel))⟩
theorem zf_M_376 : ZFL "BesideAnotherModel" 376 9 42 := ⟨z_R9, z_F9, 53, z_C9, by decide, (gw_m 1542 (by decide +kernel) (by decide +kernel))⟩
theorem zf_M_390 : ZFL "BesideAnotherModel" 390 9 48 := ⟨z_R9, z_F9, 53, z_C9, by decide, (gw_m 1548 (by decide +kernel) (by decide +kernel))⟩
theorem zf_M_393 : ZFL "BesideAnotherModel" 393 9 43 := ⟨z_R9, z_F9, 53, z_C9, by decide, (gw_m 1543 (by decide +kernel) (by decide +kernel))⟩
theorem zf_M_401 : ZFL "BesideAnotherModel" 401 9 49 := ⟨z_R9, z_F9, 53, z_C9, by decide, (gw_m 1549 (by decide +kernel) (by decide +kernel))⟩
theorem zp_M_401 : ZFP "BesideAnotherModel" 401 9 49 .int := ⟨z_R9, z_F9, 53, z_C9, by decide, (gw_m 1549 (by decide +kernel) (by decide +kernel)), rfl, by decide +kernel⟩
theorem zf_M_404 : ZFL "BesideAnotherModel" 404 9 44 := ⟨z_R9, z_F9, 53, z_C9, by decide, (gw_m 1544 (by decide +kernel) (by decide +kernel))⟩
theorem zf_M_407 : ZFL "BesideAnotherModel" 407 9 45 := ⟨z_R9, z_F9, 53, z_C9, by decide, (gw_m 1545 (by decide +kernel) (by decide +kernel))⟩
theorem zf_M_410 : ZFL "BesideAnotherModel" 410 9 46 := ⟨z_R9, z_F9, 53, z_C9, by decide, (gw_m 1546 (by decide +kernel) (by decide +kernel))⟩
theorem zf_M_425 : ZFL "BesideAnotherModel" 425 9 47 := ⟨z_R9, z_F9, 53, z_C9, by decide, (gw_m 1547 (by decide +kernel) (by decide +kernel))⟩
theorem zf_M_441 : ZFL "BesideAnotherModel" 441 9 50 := ⟨z_R9, z_F9, 53, z_C9, by decide, (gw_m 1550 (by decide +kernel) (by decide +kernel))⟩
theorem zf_M_444 : ZFL "BesideAnotherModel" 444 9 51 := ⟨z_R9, z_F9, 53, z_C9, by decide, (gw_m 1551 (by decide +kernel) (by decide +kernel))⟩
theorem zf_M_448 : ZFL "BesideAnotherModel" 448 9 52 := ⟨z_R9, z_F9, 53, z_C9, by decide, (gw_m 1552 (by decide +kernel) (by decide +kernel))⟩
theorem zc_X_80 : ZCV "BesideAnother" 80 y_P_append 1 := ⟨(gw_m 432 (by decide +kernel) (by decide +kernel)), (gw_m 433 (by decide +kernel) (by decide +kernel)), (gw_m 434 (by decide +kernel) (by decide +kernel)), (gw_m 92 (by decide +kernel) (by decide +kernel)), (gw_m 435 (by decide +kernel) (by decide +kernel)), ⟨by decide +kernel, by decide +kernel⟩, by decide +kernel, by decide⟩
theorem zc_X_84 : ZCV "BesideAnother" 84 y_P_cut 1 := ⟨(gw_m 440 (by decide +kernel) (by decide +kernel)), (gw_m 441 (by decide +kernel) (by decide +kernel)), (gw_m 442 (by decide +kernel) (by decide +kernel)), (gw_m 92 (by decide +kernel) (by decide +kernel)), (gw_m 443 (by decide +kernel) (by decide +kernel)), ⟨by decide +kernel, by decide +kernel⟩, by decide +kernel, by decide⟩
theorem zc_X_92 : ZCV "BesideAnother" 92 y_T_has 1 := ⟨(gw_m 448 (by decide +kernel) (by decide +kernel)), (gw_m 449 (by decide +kernel) (by decide +kernel)), (gw_m 450 (by decide +kernel) (by decide +kernel)), (gw_m 94 (by decide +kernel) (by decide +kernel)), (gw_m 451 (by decide +kernel) (by decide +kernel)), ⟨by decide +kernel, by decide +kernel⟩, by decide +kernel, by decide⟩
theorem zc_X_95 : ZCV "BesideAnother" 95 y_P_clear 0 := ⟨(gw_m 452 (by decide +kernel) (by decide +kernel)), (gw_m 453 (by decide +kernel) (by decide +kernel)), (gw_m 454 (by decide +kernel) (by decide +kernel)), (gw_m 92 (by decide +kernel) (by decide +kernel)), (gw_m 455 (by decide +kernel) (by decide +kernel)), ⟨by decide +kernel, by decide +kernel⟩, by decide +kernel, by decide⟩
theorem zc_X_98 : ZCV "BesideAnother" 98 y_P_parse 2 := ⟨(gw_m 456 (by decide +kernel) (by decide +kernel)), (gw_m 457 (by decide +kernel) (by decide +kernel)), (gw_m 458 (by decide +kernel) (by decide +kernel)), (gw_m 92 (by decide +kernel) (by decide +kernel)), (gw_m 459 (by decide +kernel) (by decide +kernel)), ⟨by decide +kernel, by decide +kernel⟩, by decide +kernel, by decide⟩
theorem zc_X_106 : ZCV "BesideAnother" 106 y_B_tell 1 := ⟨(gw_m 511 (by decide +kernel) (by decide +kernel)), (gw_m 512 (by decide +kernel) (by decide +kernel)), (gw_m 513 (by decide +kernel) (by decide +kernel)), (gw_m 95 (by decide +kernel) (by decide +kernel)), (gw_m 514 (by decide +kernel) (by decide +kernel)), ⟨by decide +kernel, by decide +kernel⟩, by decide +kernel, by decide⟩
theorem zc_X_112 : ZCV "BesideAnother" 112 y_T_forget 0 := ⟨(gw_m 522 (by decide +kernel) (by decide +kernel)), (gw_m 523 (by decide +kernel) (by decide +kernel)), (gw_m 524 (by decide +kernel) (by decide +kernel)), (gw_m 94 (by decide +kernel) (by decide +kernel)), (gw_m 525 (by decide +kernel) (by decide +kernel)), ⟨by decide +kernel, by decide +kernel⟩, by decide +kernel, by decide⟩
theorem zc_X_119 : ZCS "BesideAnother" 119 y_X_tableOf 2 := ⟨(gw_m 526 (by decide +kernel) (by decide +kernel)), (gw_m 527 (by decide +kernel) (by decide +kernel)), (gw_m 91 (by decide +kernel) (by decide +kernel)), (gw_m 528 (by decide +kernel) (by decide +kernel)), ⟨by decide +kernel, by decide +kernel⟩, by decide +kernel, by decide⟩
theorem zc_X_123 : ZCV "BesideAnother" 123 y_T_settled 2 := ⟨(gw_m 532 (by decide +kernel) (by decide +kernel)), (gw_m 533 (by decide +kernel) (by decide +kernel)), (gw_m 534 (by decide +kernel) (by decide +kernel)), (gw_m 94 (by decide +kernel) (by decide +kernel)), (gw_m 535 (by decide +kernel) (by decide +kernel)), ⟨by decide +kernel, by decide +kernel⟩, by decide +kernel, by decide⟩
theorem zc_X_130 : ZCV "BesideAnother" 130 y_E_clear 0 := ⟨(gw_m 571 (by decide +kernel) (by decide +kernel)), (gw_m 464 (by decide +kernel) (by decide +kernel)), (gw_m 465 (by decide +kernel) (by decide +kernel)), (gw_m 93 (by decide +kernel) (by decide +kernel)), (gw_m 466 (by decide +kernel) (by decide +kernel)), ⟨by decide +kernel, by decide +kernel⟩, by decide +kernel, by decide⟩
theorem zc_X_134 : ZCV "BesideAnother" 134 y_E_copy 1 := ⟨(gw_m 572 (by decide +kernel) (by decide +kernel)), (gw_m 516 (by decide +kernel) (by decide +kernel)), (gw_m 517 (by decide +kernel) (by decide +kernel)), (gw_m 93 (by decide +kernel) (by decide +kernel)), (gw_m 518 (by decide +kernel) (by decide +kernel)), ⟨by decide +kernel, by decide +kernel⟩, by decide +kernel, by decide⟩
theorem zc_X_141 : ZCS "BesideAnother" 141 y_X_isTable 1 := ⟨(gw_m 577 (by decide +kernel) (by decide +kernel)), (gw_m 578 (by decide +kernel) (by decide +kernel)), (gw_m 91 (by decide +kernel) (by decide +kernel)), (gw_m 579 (by decide +kernel) (by decide +kernel)), ⟨by decide +kernel, by decide +kernel⟩, by decide +kernel, by decide⟩
theorem zc_X_147 : ZCS "BesideAnother" 147 y_X_entry 2 := ⟨(gw_m 584 (by decide +kernel) (by decide +kernel)), (gw_m 585 (by decide +kernel) (by decide +kernel)), (gw_m 91 (by decide +kernel) (by decide +kernel)), (gw_m 586 (by decide +kernel) (by decide +kernel)), ⟨by decide +kernel, by decide +kernel⟩, by decide +kernel, by decide⟩
theorem zc_X_172 : ZCV "BesideAnother" 172 y_B_isLater 0 := ⟨(gw_m 972 (by decide +kernel) (by decide +kernel)), (gw_m 546 (by decide +kernel) (by decide +kernel)), (gw_m 547 (by decide +kernel) (by decide +kernel)), (gw_m 95 (by decide +kernel) (by decide +kernel)), (gw_m 548 (by decide +kernel) (by decide +kernel)), ⟨by decide +kernel, by decide +kernel⟩, by decide +kernel, by decide⟩
theorem zc_X_178 : ZCS "BesideAnother" 178 y_X_on 2 := ⟨(gw_m 529 (by decide +kernel) (by decide +kernel)), (gw_m 530 (by decide +kernel) (by decide +kernel)), (gw_m 91 (by decide +kernel) (by decide +kernel)), (gw_m 531 (by decide +kernel) (by decide +kernel)), ⟨by decide +kernel, by decide +kernel⟩, by decide +kernel, by decide⟩
theorem zc_X_183 : ZCV "BesideAnother" 183 y_B_condition 0 := ⟨(gw_m 982 (by decide +kernel) (by decide +kernel)), (gw_m 542 (by decide +kernel) (by decide +kernel)), (gw_m 543 (by decide +kernel) (by decide +kernel)), (gw_m 95 (by decide +kernel) (by decide +kernel)), (gw_m 544 (by decide +kernel) (by decide +kernel)), ⟨by decide +kernel, by decide +kernel⟩, by decide +kernel, by decide⟩
theorem zc_X_187 : ZCV "BesideAnother" 187 y_E_worth 3 := ⟨(gw_m 689 (by decide +kernel) (by decide +kernel)), (gw_m 550 (by decide +kernel) (by decide +kernel)), (gw_m 551 (by decide +kernel) (by decide +kernel)), (gw_m 93 (by decide +kernel) (by decide +kernel)), (gw_m 552 (by decide +kernel) (by decide +kernel)), ⟨by decide +kernel, by decide +kernel⟩, by decide +kernel, by decide⟩
theorem zc_X_191 : ZCV "BesideAnother" 191 y_T_spent 0 := ⟨(gw_m 599 (by decide +kernel) (by decide +kernel)), (gw_m 600 (by decide +kernel) (by decide +kernel)), (gw_m 601 (by decide +kernel) (by decide +kernel)), (gw_m 94 (by decide +kernel) (by decide +kernel)), (gw_m 602 (by decide +kernel) (by decide +kernel)), ⟨by decide +kernel, by decide +kernel⟩, by decide +kernel, by decide⟩
theorem zc_X_195 : ZCV "BesideAnother" 195 y_T_refusal 3 := ⟨(gw_m 603 (by decide +kernel) (by decide +kernel)), (gw_m 604 (by decide +kernel) (by decide +kernel)), (gw_m 605 (by decide +kernel) (by decide +kernel)), (gw_m 94 (by decide +kernel) (by decide +kernel)), (gw_m 606 (by decide +kernel) (by decide +kernel)), ⟨by decide +kernel, by decide +kernel⟩, by decide +kernel, by decide⟩
theorem zc_X_199 : ZCV "BesideAnother" 199 y_X_make 1 := ⟨(gw_m 610 (by decide +kernel) (by decide +kernel)), (gw_m 612 (by decide +kernel) (by decide +kernel)), (gw_m 10 (by decide +kernel) (by decide +kernel)), (gw_m 91 (by decide +kernel) (by decide +kernel)), (gw_m 613 (by decide +kernel) (by decide +kernel)), ⟨by decide +kernel, by decide +kernel⟩, by decide +kernel, by decide⟩
theorem zc_X_202 : ZCS "BesideAnother" 202 y_X_anywhere 1 := ⟨(gw_m 614 (by decide +kernel) (by decide +kernel)), (gw_m 615 (by decide +kernel) (by decide +kernel)), (gw_m 91 (by decide +kernel) (by decide +kernel)), (gw_m 616 (by decide +kernel) (by decide +kernel)), ⟨by decide +kernel, by decide +kernel⟩, by decide +kernel, by decide⟩
theorem zc_X_206 : ZCV "BesideAnother" 206 y_T_after 2 := ⟨(gw_m 617 (by decide +kernel) (by decide +kernel)), (gw_m 618 (by decide +kernel) (by decide +kernel)), (gw_m 619 (by decide +kernel) (by decide +kernel)), (gw_m 94 (by decide +kernel) (by decide +kernel)), (gw_m 620 (by decide +kernel) (by decide +kernel)), ⟨by decide +kernel, by decide +kernel⟩, by decide +kernel, by decide⟩
theorem zc_X_212 : ZCV "BesideAnother" 212 y_T_possible 3 := ⟨(gw_m 630 (by decide +kernel) (by decide +kernel)), (gw_m 631 (by decide +kernel) (by decide +kernel)), (gw_m 632 (by decide +kernel) (by decide +kernel)), (gw_m 94 (by decide +kernel) (by decide +kernel)), (gw_m 633 (by decide +kernel) (by decide +kernel)), ⟨by decide +kernel, by decide +kernel⟩, by decide +kernel, by decide⟩
theorem zc_X_215 : ZCV "BesideAnother" 215 y_X_tell 1 := ⟨(gw_m 635 (by decide +kernel) (by decide +kernel)), (gw_m 637 (by decide +kernel) (by decide +kernel)), (gw_m 11 (by decide +kernel) (by decide +kernel)), (gw_m 91 (by decide +kernel) (by decide +kernel)), (gw_m 638 (by decide +kernel) (by decide +kernel)), ⟨by decide +kernel, by decide +kernel⟩, by decide +kernel, by decide⟩
theorem zc_X_218 : ZCV "BesideAnother" 218 y_T_beyond 1 := ⟨(gw_m 643 (by decide +kernel) (by decide +kernel)), (gw_m 644 (by decide +kernel) (by decide +kernel)), (gw_m 645 (by decide +kernel) (by decide +kernel)), (gw_m 94 (by decide +kernel) (by decide +kernel)), (gw_m 646 (by decide +kernel) (by decide +kernel)), ⟨by decide +kernel, by decide +kernel⟩, by decide +kernel, by decide⟩
theorem zc_X_221 : ZCS "BesideAnother" 221 y_X_with 3 := ⟨(gw_m 647 (by decide +kernel) (by decide +kernel)), (gw_m 563 (by decide +kernel) (by decide +kernel)), (gw_m 91 (by decide +kernel) (by decide +kernel)), (gw_m 564 (by decide +kernel) (by decide +kernel)), ⟨by decide +kernel, by decide +kernel⟩, by decide +kernel, by decide⟩
theorem zc_X_225 : ZCV "BesideAnother" 225 y_X_spentBy 1 := ⟨(gw_m 652 (by decide +kernel) (by decide +kernel)), (gw_m 654 (by decide +kernel) (by decide +kernel)), (gw_m 12 (by decide +kernel) (by decide +kernel)), (gw_m 91 (by decide +kernel) (by decide +kernel)), (gw_m 655 (by decide +kernel) (by decide +kernel)), ⟨by decide +kernel, by decide +kernel⟩, by decide +kernel, by decide⟩
theorem zc_X_232 : ZCV "BesideAnother" 232 y_R_begin 2 := ⟨(gw_m 660 (by decide +kernel) (by decide +kernel)), (gw_m 661 (by decide +kernel) (by decide +kernel)), (gw_m 662 (by decide +kernel) (by decide +kernel)), (gw_m 98 (by decide +kernel) (by decide +kernel)), (gw_m 663 (by decide +kernel) (by decide +kernel)), ⟨by decide +kernel, by decide +kernel⟩, by decide +kernel, by decide⟩
theorem zc_X_236 : ZCV "BesideAnother" 236 y_X_isReader 1 := ⟨(gw_m 668 (by decide +kernel) (by decide +kernel)), (gw_m 670 (by decide +kernel) (by decide +kernel)), (gw_m 13 (by decide +kernel) (by decide +kernel)), (gw_m 91 (by decide +kernel) (by decide +kernel)), (gw_m 671 (by decide +kernel) (by decide +kernel)), ⟨by decide +kernel, by decide +kernel⟩, by decide +kernel, by decide⟩
theorem zc_X_242 : ZCV "BesideAnother" 242 y_X_finishBook 2 := ⟨(gw_m 676 (by decide +kernel) (by decide +kernel)), (gw_m 678 (by decide +kernel) (by decide +kernel)), (gw_m 14 (by decide +kernel) (by decide +kernel)), (gw_m 91 (by decide +kernel) (by decide +kernel)), (gw_m 679 (by decide +kernel) (by decide +kernel)), ⟨by decide +kernel, by decide +kernel⟩, by decide +kernel, by decide⟩
theorem zc_X_254 : ZCV "BesideAnother" 254 y_R_left 0 := ⟨(gw_m 694 (by decide +kernel) (by decide +kernel)), (gw_m 695 (by decide +kernel) (by decide +kernel)), (gw_m 696 (by decide +kernel) (by decide +kernel)), (gw_m 98 (by decide +kernel) (by decide +kernel)), (gw_m 697 (by decide +kernel) (by decide +kernel)), ⟨by decide +kernel, by decide +kernel⟩, by decide +kernel, by decide⟩
theorem zc_X_259 : ZCV "BesideAnother" 259 y_X_lineUp 0 := ⟨(gw_m 684 (by decide +kernel) (by decide +kernel)), (gw_m 686 (by decide +kernel) (by decide +kernel)), (gw_m 15 (by decide +kernel) (by decide +kernel)), (gw_m 91 (by decide +kernel) (by decide +kernel)), (gw_m 687 (by decide +kernel) (by decide +kernel)), ⟨by decide +kernel, by decide +kernel⟩, by decide +kernel, by decide⟩
theorem zc_X_262 : ZCV "BesideAnother" 262 y_X_turn 1 := ⟨(gw_m 690 (by decide +kernel) (by decide +kernel)), (gw_m 692 (by decide +kernel) (by decide +kernel)), (gw_m 16 (by decide +kernel) (by decide +kernel)), (gw_m 91 (by decide +kernel) (by decide +kernel)), (gw_m 693 (by decide +kernel) (by decide +kernel)), ⟨by decide +kernel, by decide +kernel⟩, by decide +kernel, by decide⟩
theorem zc_X_268 : ZCV "BesideAnother" 268 y_X_satisfied 0 := ⟨(gw_m 709 (by decide +kernel) (by decide +kernel)), (gw_m 711 (by decide +kernel) (by decide +kernel)), (gw_m 19 (by decide +kernel) (by decide +kernel)), (gw_m 91 (by decide +kernel) (by decide +kernel)), (gw_m 712 (by decide +kernel) (by decide +kernel)), ⟨by decide +kernel, by decide +kernel⟩, by decide +kernel, by decide⟩
theorem zc_X_271 : ZCS "BesideAnother" 271 y_J_bitCount 1 := ⟨(gw_m 688 (by decide +kernel) (by decide +kernel)), (gw_m 554 (by decide +kernel) (by decide +kernel)), (gw_m 103 (by decide +kernel) (by decide +kernel)), (gw_m 555 (by decide +kernel) (by decide +kernel)), ⟨by decide +kernel, by decide +kernel⟩, by decide +kernel, by decide⟩
theorem zc_X_276 : ZCS "BesideAnother" 276 y_X_lowest 1 := ⟨(gw_m 698 (by decide +kernel) (by decide +kernel)), (gw_m 699 (by decide +kernel) (by decide +kernel)), (gw_m 91 (by decide +kernel) (by decide +kernel)), (gw_m 700 (by decide +kernel) (by decide +kernel)), ⟨by decide +kernel, by decide +kernel⟩, by decide +kernel, by decide⟩
theorem zc_X_279 : ZCV "BesideAnother" 279 y_X_note 3 := ⟨(gw_m 701 (by decide +kernel) (by decide +kernel)), (gw_m 703 (by decide +kernel) (by decide +kernel)), (gw_m 17 (by decide +kernel) (by decide +kernel)), (gw_m 91 (by decide +kernel) (by decide +kernel)), (gw_m 704 (by decide +kernel) (by decide +kernel)), ⟨by decide +kernel, by decide +kernel⟩, by decide +kernel, by decide⟩
theorem zc_X_283 : ZCV "BesideAnother" 283 y_X_leading 3 := ⟨(gw_m 705 (by decide +kernel) (by decide +kernel)), (gw_m 707 (by decide +kernel) (by decide +kernel)), (gw_m 18 (by decide +kernel) (by decide +kernel)), (gw_m 91 (by decide +kernel) (by decide +kernel)), (gw_m 708 (by decide +kernel) (by decide +kernel)), ⟨by decide +kernel, by decide +kernel⟩, by decide +kernel, by decide⟩
theorem zc_X_290 : ZCV "BesideAnother" 290 y_X_logKept 0 := ⟨(gw_m 717 (by decide +kernel) (by decide +kernel)), (gw_m 719 (by decide +kernel) (by decide +kernel)), (gw_m 20 (by decide +kernel) (by decide +kernel)), (gw_m 91 (by decide +kernel) (by decide +kernel)), (gw_m 720 (by decide +kernel) (by decide +kernel)), ⟨by decide +kernel, by decide +kernel⟩, by decide +kernel, by decide⟩
theorem zc_X_293 : ZCV "BesideAnother" 293 y_X_tellRing 1 := ⟨(gw_m 729 (by decide +kernel) (by decide +kernel)), (gw_m 731 (by decide +kernel) (by decide +kernel)), (gw_m 21 (by decide +kernel) (by decide +kernel)), (gw_m 91 (by decide +kernel) (by decide +kernel)), (gw_m 732 (by decide +kernel) (by decide +kernel)), ⟨by decide +kernel, by decide +kernel⟩, by decide +kernel, by decide⟩
theorem zc_X_296 : ZCV "BesideAnother" 296 y_X_ringFrom 2 := ⟨(gw_m 733 (by decide +kernel) (by decide +kernel)), (gw_m 735 (by decide +kernel) (by decide +kernel)), (gw_m 22 (by decide +kernel) (by decide +kernel)), (gw_m 91 (by decide +kernel) (by decide +kernel)), (gw_m 736 (by decide +kernel) (by decide +kernel)), ⟨by decide +kernel, by decide +kernel⟩, by decide +kernel, by decide⟩
theorem zc_X_299 : ZCV "BesideAnother" 299 y_X_look 2 := ⟨(gw_m 741 (by decide +kernel) (by decide +kernel)), (gw_m 743 (by decide +kernel) (by decide +kernel)), (gw_m 23 (by decide +kernel) (by decide +kernel)), (gw_m 91 (by decide +kernel) (by decide +kernel)), (gw_m 744 (by decide +kernel) (by decide +kernel)), ⟨by decide +kernel, by decide +kernel⟩, by decide +kernel, by decide⟩
theorem zc_X_305 : ZCV "BesideAnother" 305 y_T_all 0 := ⟨(gw_m 745 (by decide +kernel) (by decide +kernel)), (gw_m 746 (by decide +kernel) (by decide +kernel)), (gw_m 747 (by decide +kernel) (by decide +kernel)), (gw_m 94 (by decide +kernel) (by decide +kernel)), (gw_m 748 (by decide +kernel) (by decide +kernel)), ⟨by decide +kernel, by decide +kernel⟩, by decide +kernel, by decide⟩
theorem zc_X_320 : ZCV "BesideAnother" 320 y_V_begin 1 := ⟨(gw_m 749 (by decide +kernel) (by decide +kernel)), (gw_m 750 (by decide +kernel) (by decide +kernel)), (gw_m 751 (by decide +kernel) (by decide +kernel)), (gw_m 97 (by decide +kernel) (by decide +kernel)), (gw_m 752 (by decide +kernel) (by decide +kernel)), ⟨by decide +kernel, by decide +kernel⟩, by decide +kernel, by decide⟩
theorem zc_X_322 : ZCV "BesideAnother" 322 y_T_mayBy 2 := ⟨(gw_m 753 (by decide +kernel) (by decide +kernel)), (gw_m 538 (by decide +kernel) (by decide +kernel)), (gw_m 539 (by decide +kernel) (by decide +kernel)), (gw_m 94 (by decide +kernel) (by decide +kernel)), (gw_m 540 (by decide +kernel) (by decide +kernel)), ⟨by decide +kernel, by decide +kernel⟩, by decide +kernel, by decide⟩
theorem zc_X_325 : ZCV "BesideAnother" 325 y_V_take 1 := ⟨(gw_m 754 (by decide +kernel) (by decide +kernel)), (gw_m 755 (by decide +kernel) (by decide +kernel)), (gw_m 756 (by decide +kernel) (by decide +kernel)), (gw_m 97 (by decide +kernel) (by decide +kernel)), (gw_m 757 (by decide +kernel) (by decide +kernel)), ⟨by decide +kernel, by decide +kernel⟩, by decide +kernel, by decide⟩
theorem zc_X_328 : ZCV "BesideAnother" 328 y_X_searchTable 1 := ⟨(gw_m 779 (by decide +kernel) (by decide +kernel)), (gw_m 781 (by decide +kernel) (by decide +kernel)), (gw_m 24 (by decide +kernel) (by decide +kernel)), (gw_m 91 (by decide +kernel) (by decide +kernel)), (gw_m 782 (by decide +kernel) (by decide +kernel)), ⟨by decide +kernel, by decide +kernel⟩, by decide +kernel, by decide⟩
theorem zc_X_331 : ZCV "BesideAnother" 331 y_X_tellReach 0 := ⟨(gw_m 807 (by decide +kernel) (by decide +kernel)), (gw_m 809 (by decide +kernel) (by decide +kernel)), (gw_m 27 (by decide +kernel) (by decide +kernel)), (gw_m 91 (by decide +kernel) (by decide +kernel)), (gw_m 810 (by decide +kernel) (by decide +kernel)), ⟨by decide +kernel, by decide +kernel⟩, by decide +kernel, by decide⟩
theorem zc_X_334 : ZCV "BesideAnother" 334 y_S_clear 0 := ⟨(gw_m 783 (by decide +kernel) (by decide +kernel)), (gw_m 784 (by decide +kernel) (by decide +kernel)), (gw_m 785 (by decide +kernel) (by decide +kernel)), (gw_m 96 (by decide +kernel) (by decide +kernel)), (gw_m 786 (by decide +kernel) (by decide +kernel)), ⟨by decide +kernel, by decide +kernel⟩, by decide +kernel, by decide⟩
theorem zc_X_335 : ZCV "BesideAnother" 335 y_S_seed 1 := ⟨(gw_m 787 (by decide +kernel) (by decide +kernel)), (gw_m 788 (by decide +kernel) (by decide +kernel)), (gw_m 789 (by decide +kernel) (by decide +kernel)), (gw_m 96 (by decide +kernel) (by decide +kernel)), (gw_m 790 (by decide +kernel) (by decide +kernel)), ⟨by decide +kernel, by decide +kernel⟩, by decide +kernel, by decide⟩
theorem zc_X_339 : ZCV "BesideAnother" 339 y_S_spread 2 := ⟨(gw_m 800 (by decide +kernel) (by decide +kernel)), (gw_m 801 (by decide +kernel) (by decide +kernel)), (gw_m 802 (by decide +kernel) (by decide +kernel)), (gw_m 96 (by decide +kernel) (by decide +kernel)), (gw_m 803 (by decide +kernel) (by decide +kernel)), ⟨by decide +kernel, by decide +kernel⟩, by decide +kernel, by decide⟩
theorem zc_X_343 : ZCV "BesideAnother" 343 y_S_union 0 := ⟨(gw_m 811 (by decide +kernel) (by decide +kernel)), (gw_m 812 (by decide +kernel) (by decide +kernel)), (gw_m 813 (by decide +kernel) (by decide +kernel)), (gw_m 96 (by decide +kernel) (by decide +kernel)), (gw_m 814 (by decide +kernel) (by decide +kernel)), ⟨by decide +kernel, by decide +kernel⟩, by decide +kernel, by decide⟩
theorem zc_X_346 : ZCV "BesideAnother" 346 y_S_farthest 0 := ⟨(gw_m 816 (by decide +kernel) (by decide +kernel)), (gw_m 817 (by decide +kernel) (by decide +kernel)), (gw_m 818 (by decide +kernel) (by decide +kernel)), (gw_m 96 (by decide +kernel) (by decide +kernel)), (gw_m 819 (by decide +kernel) (by decide +kernel)), ⟨by decide +kernel, by decide +kernel⟩, by decide +kernel, by decide⟩
theorem zc_X_350 : ZCV "BesideAnother" 350 y_S_firstWith 1 := ⟨(gw_m 824 (by decide +kernel) (by decide +kernel)), (gw_m 825 (by decide +kernel) (by decide +kernel)), (gw_m 826 (by decide +kernel) (by decide +kernel)), (gw_m 96 (by decide +kernel) (by decide +kernel)), (gw_m 827 (by decide +kernel) (by decide +kernel)), ⟨by decide +kernel, by decide +kernel⟩, by decide +kernel, by decide⟩
theorem zc_X_353 : ZCV "BesideAnother" 353 y_X_tellWay 1 := ⟨(gw_m 828 (by decide +kernel) (by decide +kernel)), (gw_m 830 (by decide +kernel) (by decide +kernel)), (gw_m 28 (by decide +kernel) (by decide +kernel)), (gw_m 91 (by decide +kernel) (by decide +kernel)), (gw_m 831 (by decide +kernel) (by decide +kernel)), ⟨by decide +kernel, by decide +kernel⟩, by decide +kernel, by decide⟩
theorem zc_X_365 : ZCV "BesideAnother" 365 y_S_gather 0 := ⟨(gw_m 840 (by decide +kernel) (by decide +kernel)), (gw_m 841 (by decide +kernel) (by decide +kernel)), (gw_m 842 (by decide +kernel) (by decide +kernel)), (gw_m 96 (by decide +kernel) (by decide +kernel)), (gw_m 843 (by decide +kernel) (by decide +kernel)), ⟨by decide +kernel, by decide +kernel⟩, by decide +kernel, by decide⟩
theorem zc_X_368 : ZCV "BesideAnother" 368 y_S_indexOf 1 := ⟨(gw_m 845 (by decide +kernel) (by decide +kernel)), (gw_m 846 (by decide +kernel) (by decide +kernel)), (gw_m 847 (by decide +kernel) (by decide +kernel)), (gw_m 96 (by decide +kernel) (by decide +kernel)), (gw_m 848 (by decide +kernel) (by decide +kernel)), ⟨by decide +kernel, by decide +kernel⟩, by decide +kernel, by decide⟩
theorem zc_X_374 : ZCV "BesideAnother" 374 y_X_tellMissing 1 := ⟨(gw_m 853 (by decide +kernel) (by decide +kernel)), (gw_m 855 (by decide +kernel) (by decide +kernel)), (gw_m 29 (by decide +kernel) (by decide +kernel)), (gw_m 91 (by decide +kernel) (by decide +kernel)), (gw_m 856 (by decide +kernel) (by decide +kernel)), ⟨by decide +kernel, by decide +kernel⟩, by decide +kernel, by decide⟩
theorem zc_X_377 : ZCV "BesideAnother" 377 y_X_searchFrom 1 := ⟨(gw_m 861 (by decide +kernel) (by decide +kernel)), (gw_m 863 (by decide +kernel) (by decide +kernel)), (gw_m 30 (by decide +kernel) (by decide +kernel)), (gw_m 91 (by decide +kernel) (by decide +kernel)), (gw_m 864 (by decide +kernel) (by decide +kernel)), ⟨by decide +kernel, by decide +kernel⟩, by decide +kernel, by decide⟩
theorem zc_X_410 : ZCV "BesideAnother" 410 y_T_countIn 1 := ⟨(gw_m 890 (by decide +kernel) (by decide +kernel)), (gw_m 891 (by decide +kernel) (by decide +kernel)), (gw_m 892 (by decide +kernel) (by decide +kernel)), (gw_m 94 (by decide +kernel) (by decide +kernel)), (gw_m 893 (by decide +kernel) (by decide +kernel)), ⟨by decide +kernel, by decide +kernel⟩, by decide +kernel, by decide⟩
theorem zc_B_28 : ZCV "BesideAnother$Book" 28 y_E_copy 1 := ⟨(gw_m 515 (by decide +kernel) (by decide +kernel)), (gw_m 516 (by decide +kernel) (by decide +kernel)), (gw_m 517 (by decide +kernel) (by decide +kernel)), (gw_m 93 (by decide +kernel) (by decide +kernel)), (gw_m 518 (by decide +kernel) (by decide +kernel)), ⟨by decide +kernel, by decide +kernel⟩, by decide +kernel, by decide⟩
theorem zc_B_40 : ZCV "BesideAnother$Book" 40 y_B_isLater 0 := ⟨(gw_m 545 (by decide +kernel) (by decide +kernel)), (gw_m 546 (by decide +kernel) (by decide +kernel)), (gw_m 547 (by decide +kernel) (by decide +kernel)), (gw_m 95 (by decide +kernel) (by decide +kernel)), (gw_m 548 (by decide +kernel) (by decide +kernel)), ⟨by decide +kernel, by decide +kernel⟩, by decide +kernel, by decide⟩
theorem zc_E_28 : ZCS "BesideAnother$Expression" 28 y_J_bitCount 1 := ⟨(gw_m 553 (by decide +kernel) (by decide +kernel)), (gw_m 554 (by decide +kernel) (by decide +kernel)), (gw_m 103 (by decide +kernel) (by decide +kernel)), (gw_m 555 (by decide +kernel) (by decide +kernel)), ⟨by decide +kernel, by decide +kernel⟩, by decide +kernel, by decide⟩
theorem zc_E_34 : ZCS "BesideAnother$Expression" 34 y_E_joined 3 := ⟨(gw_m 559 (by decide +kernel) (by decide +kernel)), (gw_m 560 (by decide +kernel) (by decide +kernel)), (gw_m 93 (by decide +kernel) (by decide +kernel)), (gw_m 561 (by decide +kernel) (by decide +kernel)), ⟨by decide +kernel, by decide +kernel⟩, by decide +kernel, by decide⟩
theorem zc_S_45 : ZCV "BesideAnother$Search" 45 y_S_place 3 := ⟨(gw_m 791 (by decide +kernel) (by decide +kernel)), (gw_m 793 (by decide +kernel) (by decide +kernel)), (gw_m 25 (by decide +kernel) (by decide +kernel)), (gw_m 96 (by decide +kernel) (by decide +kernel)), (gw_m 794 (by decide +kernel) (by decide +kernel)), ⟨by decide +kernel, by decide +kernel⟩, by decide +kernel, by decide⟩
theorem zc_S_49 : ZCV "BesideAnother$Search" 49 y_T_spent 0 := ⟨(gw_m 804 (by decide +kernel) (by decide +kernel)), (gw_m 600 (by decide +kernel) (by decide +kernel)), (gw_m 601 (by decide +kernel) (by decide +kernel)), (gw_m 94 (by decide +kernel) (by decide +kernel)), (gw_m 602 (by decide +kernel) (by decide +kernel)), ⟨by decide +kernel, by decide +kernel⟩, by decide +kernel, by decide⟩
theorem zc_S_55 : ZCV "BesideAnother$Search" 55 y_T_possible 3 := ⟨(gw_m 805 (by decide +kernel) (by decide +kernel)), (gw_m 631 (by decide +kernel) (by decide +kernel)), (gw_m 632 (by decide +kernel) (by decide +kernel)), (gw_m 94 (by decide +kernel) (by decide +kernel)), (gw_m 633 (by decide +kernel) (by decide +kernel)), ⟨by decide +kernel, by decide +kernel⟩, by decide +kernel, by decide⟩
theorem zc_S_58 : ZCV "BesideAnother$Search" 58 y_T_after 2 := ⟨(gw_m 806 (by decide +kernel) (by decide +kernel)), (gw_m 618 (by decide +kernel) (by decide +kernel)), (gw_m 619 (by decide +kernel) (by decide +kernel)), (gw_m 94 (by decide +kernel) (by decide +kernel)), (gw_m 620 (by decide +kernel) (by decide +kernel)), ⟨by decide +kernel, by decide +kernel⟩, by decide +kernel, by decide⟩
theorem zc_S_62 : ZCV "BesideAnother$Search" 62 y_S_slotOf 1 := ⟨(gw_m 795 (by decide +kernel) (by decide +kernel)), (gw_m 797 (by decide +kernel) (by decide +kernel)), (gw_m 26 (by decide +kernel) (by decide +kernel)), (gw_m 96 (by decide +kernel) (by decide +kernel)), (gw_m 798 (by decide +kernel) (by decide +kernel)), ⟨by decide +kernel, by decide +kernel⟩, by decide +kernel, by decide⟩
theorem zc_S_67 : ZCN "BesideAnother$Search" 67 y_X_anywhere 1 := ⟨List.mem_of_getElem? (i := 725) (by decide +kernel), (gw_m 615 (by decide +kernel) (by decide +kernel)), (gw_m 91 (by decide +kernel) (by decide +kernel)), (gw_m 616 (by decide +kernel) (by decide +kernel)), ⟨by decide +kernel, by decide +kernel⟩, by decide +kernel, by decide⟩
theorem zc_V_27 : ZCS "BesideAnother$Survey" 27 y_J_bitCount 1 := ⟨(gw_m 758 (by decide +kernel) (by decide +kernel)), (gw_m 554 (by decide +kernel) (by decide +kernel)), (gw_m 103 (by decide +kernel) (by decide +kernel)), (gw_m 555 (by decide +kernel) (by decide +kernel)), ⟨by decide +kernel, by decide +kernel⟩, by decide +kernel, by decide⟩
theorem zc_T_44 : ZCV "BesideAnother$Tables" 44 y_B_condition 0 := ⟨(gw_m 541 (by decide +kernel) (by decide +kernel)), (gw_m 542 (by decide +kernel) (by decide +kernel)), (gw_m 543 (by decide +kernel) (by decide +kernel)), (gw_m 95 (by decide +kernel) (by decide +kernel)), (gw_m 544 (by decide +kernel) (by decide +kernel)), ⟨by decide +kernel, by decide +kernel⟩, by decide +kernel, by decide⟩
theorem zc_T_48 : ZCV "BesideAnother$Tables" 48 y_E_worth 3 := ⟨(gw_m 549 (by decide +kernel) (by decide +kernel)), (gw_m 550 (by decide +kernel) (by decide +kernel)), (gw_m 551 (by decide +kernel) (by decide +kernel)), (gw_m 93 (by decide +kernel) (by decide +kernel)), (gw_m 552 (by decide +kernel) (by decide +kernel)), ⟨by decide +kernel, by decide +kernel⟩, by decide +kernel, by decide⟩
theorem zc_T_54 : ZCN "BesideAnother$Tables" 54 y_X_on 2 := ⟨List.mem_of_getElem? (i := 446) (by decide +kernel), (gw_m 530 (by decide +kernel) (by decide +kernel)), (gw_m 91 (by decide +kernel) (by decide +kernel)), (gw_m 531 (by decide +kernel) (by decide +kernel)), ⟨by decide +kernel, by decide +kernel⟩, by decide +kernel, by decide⟩
theorem zc_T_58 : ZCV "BesideAnother$Tables" 58 y_T_mayBy 2 := ⟨(gw_m 537 (by decide +kernel) (by decide +kernel)), (gw_m 538 (by decide +kernel) (by decide +kernel)), (gw_m 539 (by decide +kernel) (by decide +kernel)), (gw_m 94 (by decide +kernel) (by decide +kernel)), (gw_m 540 (by decide +kernel) (by decide +kernel)), ⟨by decide +kernel, by decide +kernel⟩, by decide +kernel, by decide⟩
theorem zc_T_62 : ZCN "BesideAnother$Tables" 62 y_X_with 3 := ⟨List.mem_of_getElem? (i := 472) (by decide +kernel), (gw_m 563 (by decide +kernel) (by decide +kernel)), (gw_m 91 (by decide +kernel) (by decide +kernel)), (gw_m 564 (by decide +kernel) (by decide +kernel)), ⟨by decide +kernel, by decide +kernel⟩, by decide +kernel, by decide⟩
theorem zc_T_66 : ZCN "BesideAnother$Tables" 66 y_X_anywhere 1 := ⟨List.mem_of_getElem? (i := 544) (by decide +kernel), (gw_m 615 (by decide +kernel) (by decide +kernel)), (gw_m 91 (by decide +kernel) (by decide +kernel)), (gw_m 616 (by decide +kernel) (by decide +kernel)), ⟨by decide +kernel, by decide +kernel⟩, by decide +kernel, by decide⟩
theorem zc_T_70 : ZCS "BesideAnother$Tables" 70 y_J_bitCount 1 := ⟨(gw_m 609 (by decide +kernel) (by decide +kernel)), (gw_m 554 (by decide +kernel) (by decide +kernel)), (gw_m 103 (by decide +kernel) (by decide +kernel)), (gw_m 555 (by decide +kernel) (by decide +kernel)), ⟨by decide +kernel, by decide +kernel⟩, by decide +kernel, by decide⟩
theorem zc_T_76 : ZCV "BesideAnother$Tables" 76 y_T_has 1 := ⟨(gw_m 607 (by decide +kernel) (by decide +kernel)), (gw_m 449 (by decide +kernel) (by decide +kernel)), (gw_m 450 (by decide +kernel) (by decide +kernel)), (gw_m 94 (by decide +kernel) (by decide +kernel)), (gw_m 451 (by decide +kernel) (by decide +kernel)), ⟨by decide +kernel, by decide +kernel⟩, by decide +kernel, by decide⟩
theorem zc_T_80 : ZCN "BesideAnother$Tables" 80 y_X_tableOf 2 := ⟨List.mem_of_getElem? (i := 518) (by decide +kernel), (gw_m 527 (by decide +kernel) (by decide +kernel)), (gw_m 91 (by decide +kernel) (by decide +kernel)), (gw_m 528 (by decide +kernel) (by decide +kernel)), ⟨by decide +kernel, by decide +kernel⟩, by decide +kernel, by decide⟩
theorem zc_T_83 : ZCV "BesideAnother$Tables" 83 y_T_settled 2 := ⟨(gw_m 621 (by decide +kernel) (by decide +kernel)), (gw_m 533 (by decide +kernel) (by decide +kernel)), (gw_m 534 (by decide +kernel) (by decide +kernel)), (gw_m 94 (by decide +kernel) (by decide +kernel)), (gw_m 535 (by decide +kernel) (by decide +kernel)), ⟨by decide +kernel, by decide +kernel⟩, by decide +kernel, by decide⟩
theorem zc_P_47 : ZCV "BesideAnother$Text" 47 y_E_clear 0 := ⟨(gw_m 463 (by decide +kernel) (by decide +kernel)), (gw_m 464 (by decide +kernel) (by decide +kernel)), (gw_m 465 (by decide +kernel) (by decide +kernel)), (gw_m 93 (by decide +kernel) (by decide +kernel)), (gw_m 466 (by decide +kernel) (by decide +kernel)), ⟨by decide +kernel, by decide +kernel⟩, by decide +kernel, by decide⟩
theorem zc_P_50 : ZCV "BesideAnother$Text" 50 y_P_whole 1 := ⟨(gw_m 467 (by decide +kernel) (by decide +kernel)), (gw_m 469 (by decide +kernel) (by decide +kernel)), (gw_m 0 (by decide +kernel) (by decide +kernel)), (gw_m 92 (by decide +kernel) (by decide +kernel)), (gw_m 470 (by decide +kernel) (by decide +kernel)), ⟨by decide +kernel, by decide +kernel⟩, by decide +kernel, by decide⟩
theorem zc_P_54 : ZCV "BesideAnother$Text" 54 y_P_later 0 := ⟨(gw_m 507 (by decide +kernel) (by decide +kernel)), (gw_m 509 (by decide +kernel) (by decide +kernel)), (gw_m 9 (by decide +kernel) (by decide +kernel)), (gw_m 92 (by decide +kernel) (by decide +kernel)), (gw_m 510 (by decide +kernel) (by decide +kernel)), ⟨by decide +kernel, by decide +kernel⟩, by decide +kernel, by decide⟩
theorem zc_P_58 : ZCV "BesideAnother$Text" 58 y_P_takes 1 := ⟨(gw_m 495 (by decide +kernel) (by decide +kernel)), (gw_m 497 (by decide +kernel) (by decide +kernel)), (gw_m 7 (by decide +kernel) (by decide +kernel)), (gw_m 92 (by decide +kernel) (by decide +kernel)), (gw_m 498 (by decide +kernel) (by decide +kernel)), ⟨by decide +kernel, by decide +kernel⟩, by decide +kernel, by decide⟩
theorem zc_P_62 : ZCV "BesideAnother$Text" 62 y_P_anyOf 1 := ⟨(gw_m 471 (by decide +kernel) (by decide +kernel)), (gw_m 473 (by decide +kernel) (by decide +kernel)), (gw_m 1 (by decide +kernel) (by decide +kernel)), (gw_m 92 (by decide +kernel) (by decide +kernel)), (gw_m 474 (by decide +kernel) (by decide +kernel)), ⟨by decide +kernel, by decide +kernel⟩, by decide +kernel, by decide⟩
theorem zc_P_65 : ZCV "BesideAnother$Text" 65 y_P_allOf 1 := ⟨(gw_m 475 (by decide +kernel) (by decide +kernel)), (gw_m 477 (by decide +kernel) (by decide +kernel)), (gw_m 2 (by decide +kernel) (by decide +kernel)), (gw_m 92 (by decide +kernel) (by decide +kernel)), (gw_m 478 (by decide +kernel) (by decide +kernel)), ⟨by decide +kernel, by decide +kernel⟩, by decide +kernel, by decide⟩
theorem zc_P_68 : ZCV "BesideAnother$Text" 68 y_E_append 1 := ⟨(gw_m 503 (by decide +kernel) (by decide +kernel)), (gw_m 504 (by decide +kernel) (by decide +kernel)), (gw_m 505 (by decide +kernel) (by decide +kernel)), (gw_m 93 (by decide +kernel) (by decide +kernel)), (gw_m 506 (by decide +kernel) (by decide +kernel)), ⟨by decide +kernel, by decide +kernel⟩, by decide +kernel, by decide⟩
theorem zc_P_72 : ZCV "BesideAnother$Text" 72 y_P_compared 1 := ⟨(gw_m 479 (by decide +kernel) (by decide +kernel)), (gw_m 481 (by decide +kernel) (by decide +kernel)), (gw_m 3 (by decide +kernel) (by decide +kernel)), (gw_m 92 (by decide +kernel) (by decide +kernel)), (gw_m 482 (by decide +kernel) (by decide +kernel)), ⟨by decide +kernel, by decide +kernel⟩, by decide +kernel, by decide⟩
theorem zc_P_75 : ZCV "BesideAnother$Text" 75 y_P_sum 1 := ⟨(gw_m 483 (by decide +kernel) (by decide +kernel)), (gw_m 485 (by decide +kernel) (by decide +kernel)), (gw_m 4 (by decide +kernel) (by decide +kernel)), (gw_m 92 (by decide +kernel) (by decide +kernel)), (gw_m 486 (by decide +kernel) (by decide +kernel)), ⟨by decide +kernel, by decide +kernel⟩, by decide +kernel, by decide⟩
theorem zc_P_78 : ZCV "BesideAnother$Text" 78 y_P_denied 1 := ⟨(gw_m 487 (by decide +kernel) (by decide +kernel)), (gw_m 489 (by decide +kernel) (by decide +kernel)), (gw_m 5 (by decide +kernel) (by decide +kernel)), (gw_m 92 (by decide +kernel) (by decide +kernel)), (gw_m 490 (by decide +kernel) (by decide +kernel)), ⟨by decide +kernel, by decide +kernel⟩, by decide +kernel, by decide⟩
theorem zc_P_81 : ZCV "BesideAnother$Text" 81 y_P_thing 1 := ⟨(gw_m 491 (by decide +kernel) (by decide +kernel)), (gw_m 493 (by decide +kernel) (by decide +kernel)), (gw_m 6 (by decide +kernel) (by decide +kernel)), (gw_m 92 (by decide +kernel) (by decide +kernel)), (gw_m 494 (by decide +kernel) (by decide +kernel)), ⟨by decide +kernel, by decide +kernel⟩, by decide +kernel, by decide⟩
theorem zc_P_84 : ZCV "BesideAnother$Text" 84 y_P_isDigit 0 := ⟨(gw_m 499 (by decide +kernel) (by decide +kernel)), (gw_m 501 (by decide +kernel) (by decide +kernel)), (gw_m 8 (by decide +kernel) (by decide +kernel)), (gw_m 92 (by decide +kernel) (by decide +kernel)), (gw_m 502 (by decide +kernel) (by decide +kernel)), ⟨by decide +kernel, by decide +kernel⟩, by decide +kernel, by decide⟩
theorem zc_L_7 : ZCV "BesideAnotherLaw" 7 y_X_about 2 := ⟨(gw_m 902 (by decide +kernel) (by decide +kernel)), (gw_m 903 (by decide +kernel) (by decide +kernel)), (gw_m 904 (by decide +kernel) (by decide +kernel)), (gw_m 91 (by decide +kernel) (by decide +kernel)), (gw_m 905 (by decide +kernel) (by decide +kernel)), ⟨by decide +kernel, by decide +kernel⟩, by decide +kernel, by decide⟩
theorem zc_L_15 : ZCV "BesideAnotherLaw" 15 y_X_value 2 := ⟨(gw_m 977 (by decide +kernel) (by decide +kernel)), (gw_m 978 (by decide +kernel) (by decide +kernel)), (gw_m 979 (by decide +kernel) (by decide +kernel)), (gw_m 91 (by decide +kernel) (by decide +kernel)), (gw_m 980 (by decide +kernel) (by decide +kernel)), ⟨by decide +kernel, by decide +kernel⟩, by decide +kernel, by decide⟩
theorem zc_L_18 : ZCV "BesideAnotherLaw" 18 y_X_of 2 := ⟨(gw_m 986 (by decide +kernel) (by decide +kernel)), (gw_m 987 (by decide +kernel) (by decide +kernel)), (gw_m 988 (by decide +kernel) (by decide +kernel)), (gw_m 91 (by decide +kernel) (by decide +kernel)), (gw_m 989 (by decide +kernel) (by decide +kernel)), ⟨by decide +kernel, by decide +kernel⟩, by decide +kernel, by decide⟩
theorem zc_L_21 : ZCV "BesideAnotherLaw" 21 y_X_row 1 := ⟨(gw_m 995 (by decide +kernel) (by decide +kernel)), (gw_m 996 (by decide +kernel) (by decide +kernel)), (gw_m 997 (by decide +kernel) (by decide +kernel)), (gw_m 91 (by decide +kernel) (by decide +kernel)), (gw_m 998 (by decide +kernel) (by decide +kernel)), ⟨by decide +kernel, by decide +kernel⟩, by decide +kernel, by decide⟩
theorem zc_L_29 : ZCV "BesideAnotherLaw" 29 y_X_sign 1 := ⟨(gw_m 428 (by decide +kernel) (by decide +kernel)), (gw_m 429 (by decide +kernel) (by decide +kernel)), (gw_m 430 (by decide +kernel) (by decide +kernel)), (gw_m 91 (by decide +kernel) (by decide +kernel)), (gw_m 431 (by decide +kernel) (by decide +kernel)), ⟨by decide +kernel, by decide +kernel⟩, by decide +kernel, by decide⟩
theorem zc_L_32 : ZCV "BesideAnotherLaw" 32 y_M_sign 1 := ⟨(gw_m 1004 (by decide +kernel) (by decide +kernel)), (gw_m 1005 (by decide +kernel) (by decide +kernel)), (gw_m 1006 (by decide +kernel) (by decide +kernel)), (gw_m 100 (by decide +kernel) (by decide +kernel)), (gw_m 1007 (by decide +kernel) (by decide +kernel)), ⟨by decide +kernel, by decide +kernel⟩, by decide +kernel, by decide⟩
theorem zc_L_33 : ZCV "BesideAnotherLaw" 33 y_X_end 1 := ⟨(gw_m 436 (by decide +kernel) (by decide +kernel)), (gw_m 437 (by decide +kernel) (by decide +kernel)), (gw_m 438 (by decide +kernel) (by decide +kernel)), (gw_m 91 (by decide +kernel) (by decide +kernel)), (gw_m 439 (by decide +kernel) (by decide +kernel)), ⟨by decide +kernel, by decide +kernel⟩, by decide +kernel, by decide⟩
theorem zc_L_37 : ZCV "BesideAnotherLaw" 37 y_M_end 1 := ⟨(gw_m 1008 (by decide +kernel) (by decide +kernel)), (gw_m 1009 (by decide +kernel) (by decide +kernel)), (gw_m 1010 (by decide +kernel) (by decide +kernel)), (gw_m 100 (by decide +kernel) (by decide +kernel)), (gw_m 1011 (by decide +kernel) (by decide +kernel)), ⟨by decide +kernel, by decide +kernel⟩, by decide +kernel, by decide⟩
theorem zc_L_38 : ZCV "BesideAnotherLaw" 38 y_X_book 1 := ⟨(gw_m 444 (by decide +kernel) (by decide +kernel)), (gw_m 445 (by decide +kernel) (by decide +kernel)), (gw_m 446 (by decide +kernel) (by decide +kernel)), (gw_m 91 (by decide +kernel) (by decide +kernel)), (gw_m 447 (by decide +kernel) (by decide +kernel)), ⟨by decide +kernel, by decide +kernel⟩, by decide +kernel, by decide⟩
theorem zc_L_41 : ZCV "BesideAnotherLaw" 41 y_M_book 1 := ⟨(gw_m 1015 (by decide +kernel) (by decide +kernel)), (gw_m 1016 (by decide +kernel) (by decide +kernel)), (gw_m 1017 (by decide +kernel) (by decide +kernel)), (gw_m 100 (by decide +kernel) (by decide +kernel)), (gw_m 1018 (by decide +kernel) (by decide +kernel)), ⟨by decide +kernel, by decide +kernel⟩, by decide +kernel, by decide⟩
theorem zc_L_42 : ZCV "BesideAnotherLaw" 42 y_X_rule 0 := ⟨(gw_m 567 (by decide +kernel) (by decide +kernel)), (gw_m 568 (by decide +kernel) (by decide +kernel)), (gw_m 569 (by decide +kernel) (by decide +kernel)), (gw_m 91 (by decide +kernel) (by decide +kernel)), (gw_m 570 (by decide +kernel) (by decide +kernel)), ⟨by decide +kernel, by decide +kernel⟩, by decide +kernel, by decide⟩
theorem zc_L_46 : ZCV "BesideAnotherLaw" 46 y_M_rule 0 := ⟨(gw_m 1167 (by decide +kernel) (by decide +kernel)), (gw_m 1168 (by decide +kernel) (by decide +kernel)), (gw_m 1169 (by decide +kernel) (by decide +kernel)), (gw_m 100 (by decide +kernel) (by decide +kernel)), (gw_m 1170 (by decide +kernel) (by decide +kernel)), ⟨by decide +kernel, by decide +kernel⟩, by decide +kernel, by decide⟩
theorem zc_L_47 : ZCV "BesideAnotherLaw" 47 y_X_set 3 := ⟨(gw_m 573 (by decide +kernel) (by decide +kernel)), (gw_m 574 (by decide +kernel) (by decide +kernel)), (gw_m 575 (by decide +kernel) (by decide +kernel)), (gw_m 91 (by decide +kernel) (by decide +kernel)), (gw_m 576 (by decide +kernel) (by decide +kernel)), ⟨by decide +kernel, by decide +kernel⟩, by decide +kernel, by decide⟩
theorem zc_L_51 : ZCV "BesideAnotherLaw" 51 y_M_set 3 := ⟨(gw_m 1171 (by decide +kernel) (by decide +kernel)), (gw_m 1172 (by decide +kernel) (by decide +kernel)), (gw_m 1173 (by decide +kernel) (by decide +kernel)), (gw_m 100 (by decide +kernel) (by decide +kernel)), (gw_m 1174 (by decide +kernel) (by decide +kernel)), ⟨by decide +kernel, by decide +kernel⟩, by decide +kernel, by decide⟩
theorem zc_L_52 : ZCV "BesideAnotherLaw" 52 y_X_sheet 4 := ⟨(gw_m 580 (by decide +kernel) (by decide +kernel)), (gw_m 581 (by decide +kernel) (by decide +kernel)), (gw_m 582 (by decide +kernel) (by decide +kernel)), (gw_m 91 (by decide +kernel) (by decide +kernel)), (gw_m 583 (by decide +kernel) (by decide +kernel)), ⟨by decide +kernel, by decide +kernel⟩, by decide +kernel, by decide⟩
theorem zc_L_56 : ZCV "BesideAnotherLaw" 56 y_M_sheet 4 := ⟨(gw_m 1185 (by decide +kernel) (by decide +kernel)), (gw_m 1186 (by decide +kernel) (by decide +kernel)), (gw_m 1187 (by decide +kernel) (by decide +kernel)), (gw_m 100 (by decide +kernel) (by decide +kernel)), (gw_m 1188 (by decide +kernel) (by decide +kernel)), ⟨by decide +kernel, by decide +kernel⟩, by decide +kernel, by decide⟩
theorem zc_L_62 : ZCV "BesideAnotherLaw" 62 y_M_about 2 := ⟨(gw_m 1191 (by decide +kernel) (by decide +kernel)), (gw_m 1192 (by decide +kernel) (by decide +kernel)), (gw_m 1193 (by decide +kernel) (by decide +kernel)), (gw_m 100 (by decide +kernel) (by decide +kernel)), (gw_m 1194 (by decide +kernel) (by decide +kernel)), ⟨by decide +kernel, by decide +kernel⟩, by decide +kernel, by decide⟩
theorem zc_L_63 : ZCV "BesideAnotherLaw" 63 y_M_thrown 0 := ⟨(gw_m 1000 (by decide +kernel) (by decide +kernel)), (gw_m 1001 (by decide +kernel) (by decide +kernel)), (gw_m 1002 (by decide +kernel) (by decide +kernel)), (gw_m 100 (by decide +kernel) (by decide +kernel)), (gw_m 1003 (by decide +kernel) (by decide +kernel)), ⟨by decide +kernel, by decide +kernel⟩, by decide +kernel, by decide⟩
theorem zc_L_66 : ZCV "BesideAnotherLaw" 66 y_X_open 1 := ⟨(gw_m 591 (by decide +kernel) (by decide +kernel)), (gw_m 592 (by decide +kernel) (by decide +kernel)), (gw_m 593 (by decide +kernel) (by decide +kernel)), (gw_m 91 (by decide +kernel) (by decide +kernel)), (gw_m 594 (by decide +kernel) (by decide +kernel)), ⟨by decide +kernel, by decide +kernel⟩, by decide +kernel, by decide⟩
theorem zc_L_69 : ZCV "BesideAnotherLaw" 69 y_M_open 1 := ⟨(gw_m 1200 (by decide +kernel) (by decide +kernel)), (gw_m 1201 (by decide +kernel) (by decide +kernel)), (gw_m 1202 (by decide +kernel) (by decide +kernel)), (gw_m 100 (by decide +kernel) (by decide +kernel)), (gw_m 1203 (by decide +kernel) (by decide +kernel)), ⟨by decide +kernel, by decide +kernel⟩, by decide +kernel, by decide⟩
theorem zc_L_72 : ZCV "BesideAnotherLaw" 72 y_M_value 2 := ⟨(gw_m 1204 (by decide +kernel) (by decide +kernel)), (gw_m 1205 (by decide +kernel) (by decide +kernel)), (gw_m 1206 (by decide +kernel) (by decide +kernel)), (gw_m 100 (by decide +kernel) (by decide +kernel)), (gw_m 1207 (by decide +kernel) (by decide +kernel)), ⟨by decide +kernel, by decide +kernel⟩, by decide +kernel, by decide⟩
theorem zc_L_73 : ZCV "BesideAnotherLaw" 73 y_X_act 1 := ⟨(gw_m 595 (by decide +kernel) (by decide +kernel)), (gw_m 596 (by decide +kernel) (by decide +kernel)), (gw_m 597 (by decide +kernel) (by decide +kernel)), (gw_m 91 (by decide +kernel) (by decide +kernel)), (gw_m 598 (by decide +kernel) (by decide +kernel)), ⟨by decide +kernel, by decide +kernel⟩, by decide +kernel, by decide⟩
theorem zc_L_76 : ZCV "BesideAnotherLaw" 76 y_M_act 1 := ⟨(gw_m 1208 (by decide +kernel) (by decide +kernel)), (gw_m 1209 (by decide +kernel) (by decide +kernel)), (gw_m 1210 (by decide +kernel) (by decide +kernel)), (gw_m 100 (by decide +kernel) (by decide +kernel)), (gw_m 1211 (by decide +kernel) (by decide +kernel)), ⟨by decide +kernel, by decide +kernel⟩, by decide +kernel, by decide⟩
theorem zc_L_77 : ZCV "BesideAnotherLaw" 77 y_X_why 1 := ⟨(gw_m 622 (by decide +kernel) (by decide +kernel)), (gw_m 623 (by decide +kernel) (by decide +kernel)), (gw_m 624 (by decide +kernel) (by decide +kernel)), (gw_m 91 (by decide +kernel) (by decide +kernel)), (gw_m 625 (by decide +kernel) (by decide +kernel)), ⟨by decide +kernel, by decide +kernel⟩, by decide +kernel, by decide⟩
theorem zc_L_80 : ZCV "BesideAnotherLaw" 80 y_M_why 1 := ⟨(gw_m 1237 (by decide +kernel) (by decide +kernel)), (gw_m 1238 (by decide +kernel) (by decide +kernel)), (gw_m 1239 (by decide +kernel) (by decide +kernel)), (gw_m 100 (by decide +kernel) (by decide +kernel)), (gw_m 1240 (by decide +kernel) (by decide +kernel)), ⟨by decide +kernel, by decide +kernel⟩, by decide +kernel, by decide⟩
theorem zc_L_81 : ZCV "BesideAnotherLaw" 81 y_X_can 0 := ⟨(gw_m 626 (by decide +kernel) (by decide +kernel)), (gw_m 627 (by decide +kernel) (by decide +kernel)), (gw_m 628 (by decide +kernel) (by decide +kernel)), (gw_m 91 (by decide +kernel) (by decide +kernel)), (gw_m 629 (by decide +kernel) (by decide +kernel)), ⟨by decide +kernel, by decide +kernel⟩, by decide +kernel, by decide⟩
theorem zc_L_84 : ZCV "BesideAnotherLaw" 84 y_M_can 0 := ⟨(gw_m 1241 (by decide +kernel) (by decide +kernel)), (gw_m 1242 (by decide +kernel) (by decide +kernel)), (gw_m 1243 (by decide +kernel) (by decide +kernel)), (gw_m 100 (by decide +kernel) (by decide +kernel)), (gw_m 1244 (by decide +kernel) (by decide +kernel)), ⟨by decide +kernel, by decide +kernel⟩, by decide +kernel, by decide⟩
theorem zc_L_85 : ZCV "BesideAnotherLaw" 85 y_X_night 1 := ⟨(gw_m 639 (by decide +kernel) (by decide +kernel)), (gw_m 640 (by decide +kernel) (by decide +kernel)), (gw_m 641 (by decide +kernel) (by decide +kernel)), (gw_m 91 (by decide +kernel) (by decide +kernel)), (gw_m 642 (by decide +kernel) (by decide +kernel)), ⟨by decide +kernel, by decide +kernel⟩, by decide +kernel, by decide⟩
theorem zc_L_88 : ZCV "BesideAnotherLaw" 88 y_M_night 1 := ⟨(gw_m 1251 (by decide +kernel) (by decide +kernel)), (gw_m 1252 (by decide +kernel) (by decide +kernel)), (gw_m 1253 (by decide +kernel) (by decide +kernel)), (gw_m 100 (by decide +kernel) (by decide +kernel)), (gw_m 1254 (by decide +kernel) (by decide +kernel)), ⟨by decide +kernel, by decide +kernel⟩, by decide +kernel, by decide⟩
theorem zc_L_89 : ZCV "BesideAnotherLaw" 89 y_X_judge 3 := ⟨(gw_m 648 (by decide +kernel) (by decide +kernel)), (gw_m 649 (by decide +kernel) (by decide +kernel)), (gw_m 650 (by decide +kernel) (by decide +kernel)), (gw_m 91 (by decide +kernel) (by decide +kernel)), (gw_m 651 (by decide +kernel) (by decide +kernel)), ⟨by decide +kernel, by decide +kernel⟩, by decide +kernel, by decide⟩
theorem zc_L_92 : ZCV "BesideAnotherLaw" 92 y_M_judge 3 := ⟨(gw_m 1259 (by decide +kernel) (by decide +kernel)), (gw_m 1260 (by decide +kernel) (by decide +kernel)), (gw_m 1261 (by decide +kernel) (by decide +kernel)), (gw_m 100 (by decide +kernel) (by decide +kernel)), (gw_m 1262 (by decide +kernel) (by decide +kernel)), ⟨by decide +kernel, by decide +kernel⟩, by decide +kernel, by decide⟩
theorem zc_L_93 : ZCV "BesideAnotherLaw" 93 y_X_reader 2 := ⟨(gw_m 656 (by decide +kernel) (by decide +kernel)), (gw_m 657 (by decide +kernel) (by decide +kernel)), (gw_m 658 (by decide +kernel) (by decide +kernel)), (gw_m 91 (by decide +kernel) (by decide +kernel)), (gw_m 659 (by decide +kernel) (by decide +kernel)), ⟨by decide +kernel, by decide +kernel⟩, by decide +kernel, by decide⟩
theorem zc_L_96 : ZCV "BesideAnotherLaw" 96 y_M_reader 2 := ⟨(gw_m 1272 (by decide +kernel) (by decide +kernel)), (gw_m 1273 (by decide +kernel) (by decide +kernel)), (gw_m 1274 (by decide +kernel) (by decide +kernel)), (gw_m 100 (by decide +kernel) (by decide +kernel)), (gw_m 1275 (by decide +kernel) (by decide +kernel)), ⟨by decide +kernel, by decide +kernel⟩, by decide +kernel, by decide⟩
theorem zc_L_97 : ZCV "BesideAnotherLaw" 97 y_X_sit 2 := ⟨(gw_m 664 (by decide +kernel) (by decide +kernel)), (gw_m 665 (by decide +kernel) (by decide +kernel)), (gw_m 666 (by decide +kernel) (by decide +kernel)), (gw_m 91 (by decide +kernel) (by decide +kernel)), (gw_m 667 (by decide +kernel) (by decide +kernel)), ⟨by decide +kernel, by decide +kernel⟩, by decide +kernel, by decide⟩
theorem zc_L_100 : ZCV "BesideAnotherLaw" 100 y_M_sit 2 := ⟨(gw_m 1276 (by decide +kernel) (by decide +kernel)), (gw_m 1277 (by decide +kernel) (by decide +kernel)), (gw_m 1278 (by decide +kernel) (by decide +kernel)), (gw_m 100 (by decide +kernel) (by decide +kernel)), (gw_m 1279 (by decide +kernel) (by decide +kernel)), ⟨by decide +kernel, by decide +kernel⟩, by decide +kernel, by decide⟩
theorem zc_L_101 : ZCV "BesideAnotherLaw" 101 y_X_read 2 := ⟨(gw_m 672 (by decide +kernel) (by decide +kernel)), (gw_m 673 (by decide +kernel) (by decide +kernel)), (gw_m 674 (by decide +kernel) (by decide +kernel)), (gw_m 91 (by decide +kernel) (by decide +kernel)), (gw_m 675 (by decide +kernel) (by decide +kernel)), ⟨by decide +kernel, by decide +kernel⟩, by decide +kernel, by decide⟩
theorem zc_L_104 : ZCV "BesideAnotherLaw" 104 y_M_read 2 := ⟨(gw_m 1284 (by decide +kernel) (by decide +kernel)), (gw_m 1285 (by decide +kernel) (by decide +kernel)), (gw_m 1286 (by decide +kernel) (by decide +kernel)), (gw_m 100 (by decide +kernel) (by decide +kernel)), (gw_m 1287 (by decide +kernel) (by decide +kernel)), ⟨by decide +kernel, by decide +kernel⟩, by decide +kernel, by decide⟩
theorem zc_L_107 : ZCV "BesideAnotherLaw" 107 y_M_of 2 := ⟨(gw_m 1292 (by decide +kernel) (by decide +kernel)), (gw_m 1293 (by decide +kernel) (by decide +kernel)), (gw_m 1294 (by decide +kernel) (by decide +kernel)), (gw_m 100 (by decide +kernel) (by decide +kernel)), (gw_m 1295 (by decide +kernel) (by decide +kernel)), ⟨by decide +kernel, by decide +kernel⟩, by decide +kernel, by decide⟩
theorem zc_L_108 : ZCV "BesideAnotherLaw" 108 y_X_hours 1 := ⟨(gw_m 680 (by decide +kernel) (by decide +kernel)), (gw_m 681 (by decide +kernel) (by decide +kernel)), (gw_m 682 (by decide +kernel) (by decide +kernel)), (gw_m 91 (by decide +kernel) (by decide +kernel)), (gw_m 683 (by decide +kernel) (by decide +kernel)), ⟨by decide +kernel, by decide +kernel⟩, by decide +kernel, by decide⟩
theorem zc_L_111 : ZCV "BesideAnotherLaw" 111 y_M_hours 1 := ⟨(gw_m 1300 (by decide +kernel) (by decide +kernel)), (gw_m 1301 (by decide +kernel) (by decide +kernel)), (gw_m 1302 (by decide +kernel) (by decide +kernel)), (gw_m 100 (by decide +kernel) (by decide +kernel)), (gw_m 1303 (by decide +kernel) (by decide +kernel)), ⟨by decide +kernel, by decide +kernel⟩, by decide +kernel, by decide⟩
theorem zc_L_112 : ZCV "BesideAnotherLaw" 112 y_X_log 1 := ⟨(gw_m 713 (by decide +kernel) (by decide +kernel)), (gw_m 714 (by decide +kernel) (by decide +kernel)), (gw_m 715 (by decide +kernel) (by decide +kernel)), (gw_m 91 (by decide +kernel) (by decide +kernel)), (gw_m 716 (by decide +kernel) (by decide +kernel)), ⟨by decide +kernel, by decide +kernel⟩, by decide +kernel, by decide⟩
theorem zc_L_115 : ZCV "BesideAnotherLaw" 115 y_M_log 1 := ⟨(gw_m 1337 (by decide +kernel) (by decide +kernel)), (gw_m 1338 (by decide +kernel) (by decide +kernel)), (gw_m 1339 (by decide +kernel) (by decide +kernel)), (gw_m 100 (by decide +kernel) (by decide +kernel)), (gw_m 1340 (by decide +kernel) (by decide +kernel)), ⟨by decide +kernel, by decide +kernel⟩, by decide +kernel, by decide⟩
theorem zc_L_116 : ZCV "BesideAnotherLaw" 116 y_X_order 0 := ⟨(gw_m 721 (by decide +kernel) (by decide +kernel)), (gw_m 722 (by decide +kernel) (by decide +kernel)), (gw_m 723 (by decide +kernel) (by decide +kernel)), (gw_m 91 (by decide +kernel) (by decide +kernel)), (gw_m 724 (by decide +kernel) (by decide +kernel)), ⟨by decide +kernel, by decide +kernel⟩, by decide +kernel, by decide⟩
theorem zc_L_119 : ZCV "BesideAnotherLaw" 119 y_M_order 0 := ⟨(gw_m 1341 (by decide +kernel) (by decide +kernel)), (gw_m 1342 (by decide +kernel) (by decide +kernel)), (gw_m 1343 (by decide +kernel) (by decide +kernel)), (gw_m 100 (by decide +kernel) (by decide +kernel)), (gw_m 1344 (by decide +kernel) (by decide +kernel)), ⟨by decide +kernel, by decide +kernel⟩, by decide +kernel, by decide⟩
theorem zc_L_120 : ZCV "BesideAnotherLaw" 120 y_X_ring 0 := ⟨(gw_m 725 (by decide +kernel) (by decide +kernel)), (gw_m 726 (by decide +kernel) (by decide +kernel)), (gw_m 727 (by decide +kernel) (by decide +kernel)), (gw_m 91 (by decide +kernel) (by decide +kernel)), (gw_m 728 (by decide +kernel) (by decide +kernel)), ⟨by decide +kernel, by decide +kernel⟩, by decide +kernel, by decide⟩
theorem zc_L_123 : ZCV "BesideAnotherLaw" 123 y_M_ring 0 := ⟨(gw_m 1345 (by decide +kernel) (by decide +kernel)), (gw_m 1346 (by decide +kernel) (by decide +kernel)), (gw_m 1347 (by decide +kernel) (by decide +kernel)), (gw_m 100 (by decide +kernel) (by decide +kernel)), (gw_m 1348 (by decide +kernel) (by decide +kernel)), ⟨by decide +kernel, by decide +kernel⟩, by decide +kernel, by decide⟩
theorem zc_L_124 : ZCV "BesideAnotherLaw" 124 y_X_needs 2 := ⟨(gw_m 737 (by decide +kernel) (by decide +kernel)), (gw_m 738 (by decide +kernel) (by decide +kernel)), (gw_m 739 (by decide +kernel) (by decide +kernel)), (gw_m 91 (by decide +kernel) (by decide +kernel)), (gw_m 740 (by decide +kernel) (by decide +kernel)), ⟨by decide +kernel, by decide +kernel⟩, by decide +kernel, by decide⟩
theorem zc_L_127 : ZCV "BesideAnotherLaw" 127 y_M_needs 2 := ⟨(gw_m 1357 (by decide +kernel) (by decide +kernel)), (gw_m 1358 (by decide +kernel) (by decide +kernel)), (gw_m 1359 (by decide +kernel) (by decide +kernel)), (gw_m 100 (by decide +kernel) (by decide +kernel)), (gw_m 1360 (by decide +kernel) (by decide +kernel)), ⟨by decide +kernel, by decide +kernel⟩, by decide +kernel, by decide⟩
theorem zc_L_128 : ZCV "BesideAnotherLaw" 128 y_X_bars 2 := ⟨(gw_m 759 (by decide +kernel) (by decide +kernel)), (gw_m 760 (by decide +kernel) (by decide +kernel)), (gw_m 761 (by decide +kernel) (by decide +kernel)), (gw_m 91 (by decide +kernel) (by decide +kernel)), (gw_m 762 (by decide +kernel) (by decide +kernel)), ⟨by decide +kernel, by decide +kernel⟩, by decide +kernel, by decide⟩
theorem zc_L_131 : ZCV "BesideAnotherLaw" 131 y_M_bars 2 := ⟨(gw_m 1365 (by decide +kernel) (by decide +kernel)), (gw_m 1366 (by decide +kernel) (by decide +kernel)), (gw_m 1367 (by decide +kernel) (by decide +kernel)), (gw_m 100 (by decide +kernel) (by decide +kernel)), (gw_m 1368 (by decide +kernel) (by decide +kernel)), ⟨by decide +kernel, by decide +kernel⟩, by decide +kernel, by decide⟩
theorem zc_L_132 : ZCV "BesideAnotherLaw" 132 y_X_least 2 := ⟨(gw_m 763 (by decide +kernel) (by decide +kernel)), (gw_m 764 (by decide +kernel) (by decide +kernel)), (gw_m 765 (by decide +kernel) (by decide +kernel)), (gw_m 91 (by decide +kernel) (by decide +kernel)), (gw_m 766 (by decide +kernel) (by decide +kernel)), ⟨by decide +kernel, by decide +kernel⟩, by decide +kernel, by decide⟩
theorem zc_L_135 : ZCV "BesideAnotherLaw" 135 y_M_least 2 := ⟨(gw_m 1369 (by decide +kernel) (by decide +kernel)), (gw_m 1370 (by decide +kernel) (by decide +kernel)), (gw_m 1371 (by decide +kernel) (by decide +kernel)), (gw_m 100 (by decide +kernel) (by decide +kernel)), (gw_m 1372 (by decide +kernel) (by decide +kernel)), ⟨by decide +kernel, by decide +kernel⟩, by decide +kernel, by decide⟩
theorem zc_L_136 : ZCV "BesideAnotherLaw" 136 y_X_knot 1 := ⟨(gw_m 767 (by decide +kernel) (by decide +kernel)), (gw_m 768 (by decide +kernel) (by decide +kernel)), (gw_m 769 (by decide +kernel) (by decide +kernel)), (gw_m 91 (by decide +kernel) (by decide +kernel)), (gw_m 770 (by decide +kernel) (by decide +kernel)), ⟨by decide +kernel, by decide +kernel⟩, by decide +kernel, by decide⟩
theorem zc_L_139 : ZCV "BesideAnotherLaw" 139 y_M_knot 1 := ⟨(gw_m 1373 (by decide +kernel) (by decide +kernel)), (gw_m 1374 (by decide +kernel) (by decide +kernel)), (gw_m 1375 (by decide +kernel) (by decide +kernel)), (gw_m 100 (by decide +kernel) (by decide +kernel)), (gw_m 1376 (by decide +kernel) (by decide +kernel)), ⟨by decide +kernel, by decide +kernel⟩, by decide +kernel, by decide⟩
theorem zc_L_140 : ZCV "BesideAnotherLaw" 140 y_X_hold 1 := ⟨(gw_m 771 (by decide +kernel) (by decide +kernel)), (gw_m 772 (by decide +kernel) (by decide +kernel)), (gw_m 773 (by decide +kernel) (by decide +kernel)), (gw_m 91 (by decide +kernel) (by decide +kernel)), (gw_m 774 (by decide +kernel) (by decide +kernel)), ⟨by decide +kernel, by decide +kernel⟩, by decide +kernel, by decide⟩
theorem zc_L_143 : ZCV "BesideAnotherLaw" 143 y_M_hold 1 := ⟨(gw_m 1377 (by decide +kernel) (by decide +kernel)), (gw_m 1378 (by decide +kernel) (by decide +kernel)), (gw_m 1379 (by decide +kernel) (by decide +kernel)), (gw_m 100 (by decide +kernel) (by decide +kernel)), (gw_m 1380 (by decide +kernel) (by decide +kernel)), ⟨by decide +kernel, by decide +kernel⟩, by decide +kernel, by decide⟩
theorem zc_L_144 : ZCV "BesideAnotherLaw" 144 y_X_comes 1 := ⟨(gw_m 775 (by decide +kernel) (by decide +kernel)), (gw_m 776 (by decide +kernel) (by decide +kernel)), (gw_m 777 (by decide +kernel) (by decide +kernel)), (gw_m 91 (by decide +kernel) (by decide +kernel)), (gw_m 778 (by decide +kernel) (by decide +kernel)), ⟨by decide +kernel, by decide +kernel⟩, by decide +kernel, by decide⟩
theorem zc_L_147 : ZCV "BesideAnotherLaw" 147 y_M_comes 1 := ⟨(gw_m 1381 (by decide +kernel) (by decide +kernel)), (gw_m 1382 (by decide +kernel) (by decide +kernel)), (gw_m 1383 (by decide +kernel) (by decide +kernel)), (gw_m 100 (by decide +kernel) (by decide +kernel)), (gw_m 1384 (by decide +kernel) (by decide +kernel)), ⟨by decide +kernel, by decide +kernel⟩, by decide +kernel, by decide⟩
theorem zc_L_148 : ZCV "BesideAnotherLaw" 148 y_X_together 2 := ⟨(gw_m 820 (by decide +kernel) (by decide +kernel)), (gw_m 821 (by decide +kernel) (by decide +kernel)), (gw_m 822 (by decide +kernel) (by decide +kernel)), (gw_m 91 (by decide +kernel) (by decide +kernel)), (gw_m 823 (by decide +kernel) (by decide +kernel)), ⟨by decide +kernel, by decide +kernel⟩, by decide +kernel, by decide⟩
theorem zc_L_151 : ZCV "BesideAnotherLaw" 151 y_M_together 2 := ⟨(gw_m 1401 (by decide +kernel) (by decide +kernel)), (gw_m 1402 (by decide +kernel) (by decide +kernel)), (gw_m 1403 (by decide +kernel) (by decide +kernel)), (gw_m 100 (by decide +kernel) (by decide +kernel)), (gw_m 1404 (by decide +kernel) (by decide +kernel)), ⟨by decide +kernel, by decide +kernel⟩, by decide +kernel, by decide⟩
theorem zc_L_152 : ZCV "BesideAnotherLaw" 152 y_X_frees 1 := ⟨(gw_m 832 (by decide +kernel) (by decide +kernel)), (gw_m 833 (by decide +kernel) (by decide +kernel)), (gw_m 834 (by decide +kernel) (by decide +kernel)), (gw_m 91 (by decide +kernel) (by decide +kernel)), (gw_m 835 (by decide +kernel) (by decide +kernel)), ⟨by decide +kernel, by decide +kernel⟩, by decide +kernel, by decide⟩
theorem zc_L_155 : ZCV "BesideAnotherLaw" 155 y_M_frees 1 := ⟨(gw_m 1409 (by decide +kernel) (by decide +kernel)), (gw_m 1410 (by decide +kernel) (by decide +kernel)), (gw_m 1411 (by decide +kernel) (by decide +kernel)), (gw_m 100 (by decide +kernel) (by decide +kernel)), (gw_m 1412 (by decide +kernel) (by decide +kernel)), ⟨by decide +kernel, by decide +kernel⟩, by decide +kernel, by decide⟩
theorem zc_L_156 : ZCV "BesideAnotherLaw" 156 y_X_keeps 2 := ⟨(gw_m 836 (by decide +kernel) (by decide +kernel)), (gw_m 837 (by decide +kernel) (by decide +kernel)), (gw_m 838 (by decide +kernel) (by decide +kernel)), (gw_m 91 (by decide +kernel) (by decide +kernel)), (gw_m 839 (by decide +kernel) (by decide +kernel)), ⟨by decide +kernel, by decide +kernel⟩, by decide +kernel, by decide⟩
theorem zc_L_159 : ZCV "BesideAnotherLaw" 159 y_M_keeps 2 := ⟨(gw_m 1413 (by decide +kernel) (by decide +kernel)), (gw_m 1414 (by decide +kernel) (by decide +kernel)), (gw_m 1415 (by decide +kernel) (by decide +kernel)), (gw_m 100 (by decide +kernel) (by decide +kernel)), (gw_m 1416 (by decide +kernel) (by decide +kernel)), ⟨by decide +kernel, by decide +kernel⟩, by decide +kernel, by decide⟩
theorem zc_L_160 : ZCV "BesideAnotherLaw" 160 y_X_finish 2 := ⟨(gw_m 849 (by decide +kernel) (by decide +kernel)), (gw_m 850 (by decide +kernel) (by decide +kernel)), (gw_m 851 (by decide +kernel) (by decide +kernel)), (gw_m 91 (by decide +kernel) (by decide +kernel)), (gw_m 852 (by decide +kernel) (by decide +kernel)), ⟨by decide +kernel, by decide +kernel⟩, by decide +kernel, by decide⟩
theorem zc_L_163 : ZCV "BesideAnotherLaw" 163 y_M_finish 2 := ⟨(gw_m 1421 (by decide +kernel) (by decide +kernel)), (gw_m 1422 (by decide +kernel) (by decide +kernel)), (gw_m 1423 (by decide +kernel) (by decide +kernel)), (gw_m 100 (by decide +kernel) (by decide +kernel)), (gw_m 1424 (by decide +kernel) (by decide +kernel)), ⟨by decide +kernel, by decide +kernel⟩, by decide +kernel, by decide⟩
theorem zc_L_164 : ZCV "BesideAnotherLaw" 164 y_X_reach 0 := ⟨(gw_m 857 (by decide +kernel) (by decide +kernel)), (gw_m 858 (by decide +kernel) (by decide +kernel)), (gw_m 859 (by decide +kernel) (by decide +kernel)), (gw_m 91 (by decide +kernel) (by decide +kernel)), (gw_m 860 (by decide +kernel) (by decide +kernel)), ⟨by decide +kernel, by decide +kernel⟩, by decide +kernel, by decide⟩
theorem zc_L_167 : ZCV "BesideAnotherLaw" 167 y_M_reach 0 := ⟨(gw_m 1425 (by decide +kernel) (by decide +kernel)), (gw_m 1426 (by decide +kernel) (by decide +kernel)), (gw_m 1427 (by decide +kernel) (by decide +kernel)), (gw_m 100 (by decide +kernel) (by decide +kernel)), (gw_m 1428 (by decide +kernel) (by decide +kernel)), ⟨by decide +kernel, by decide +kernel⟩, by decide +kernel, by decide⟩
theorem zc_L_168 : ZCV "BesideAnotherLaw" 168 y_X_soonest 1 := ⟨(gw_m 865 (by decide +kernel) (by decide +kernel)), (gw_m 866 (by decide +kernel) (by decide +kernel)), (gw_m 867 (by decide +kernel) (by decide +kernel)), (gw_m 91 (by decide +kernel) (by decide +kernel)), (gw_m 868 (by decide +kernel) (by decide +kernel)), ⟨by decide +kernel, by decide +kernel⟩, by decide +kernel, by decide⟩
theorem zc_L_171 : ZCV "BesideAnotherLaw" 171 y_M_soonest 1 := ⟨(gw_m 1461 (by decide +kernel) (by decide +kernel)), (gw_m 1462 (by decide +kernel) (by decide +kernel)), (gw_m 1463 (by decide +kernel) (by decide +kernel)), (gw_m 100 (by decide +kernel) (by decide +kernel)), (gw_m 1464 (by decide +kernel) (by decide +kernel)), ⟨by decide +kernel, by decide +kernel⟩, by decide +kernel, by decide⟩
theorem zc_L_172 : ZCV "BesideAnotherLaw" 172 y_X_till 3 := ⟨(gw_m 869 (by decide +kernel) (by decide +kernel)), (gw_m 870 (by decide +kernel) (by decide +kernel)), (gw_m 871 (by decide +kernel) (by decide +kernel)), (gw_m 91 (by decide +kernel) (by decide +kernel)), (gw_m 872 (by decide +kernel) (by decide +kernel)), ⟨by decide +kernel, by decide +kernel⟩, by decide +kernel, by decide⟩
theorem zc_L_175 : ZCV "BesideAnotherLaw" 175 y_M_till 3 := ⟨(gw_m 1469 (by decide +kernel) (by decide +kernel)), (gw_m 1470 (by decide +kernel) (by decide +kernel)), (gw_m 1471 (by decide +kernel) (by decide +kernel)), (gw_m 100 (by decide +kernel) (by decide +kernel)), (gw_m 1472 (by decide +kernel) (by decide +kernel)), ⟨by decide +kernel, by decide +kernel⟩, by decide +kernel, by decide⟩
theorem zc_L_176 : ZCV "BesideAnotherLaw" 176 y_X_lost 0 := ⟨(gw_m 873 (by decide +kernel) (by decide +kernel)), (gw_m 874 (by decide +kernel) (by decide +kernel)), (gw_m 875 (by decide +kernel) (by decide +kernel)), (gw_m 91 (by decide +kernel) (by decide +kernel)), (gw_m 876 (by decide +kernel) (by decide +kernel)), ⟨by decide +kernel, by decide +kernel⟩, by decide +kernel, by decide⟩
theorem zc_L_179 : ZCV "BesideAnotherLaw" 179 y_M_lost 0 := ⟨(gw_m 1473 (by decide +kernel) (by decide +kernel)), (gw_m 1474 (by decide +kernel) (by decide +kernel)), (gw_m 1475 (by decide +kernel) (by decide +kernel)), (gw_m 100 (by decide +kernel) (by decide +kernel)), (gw_m 1476 (by decide +kernel) (by decide +kernel)), ⟨by decide +kernel, by decide +kernel⟩, by decide +kernel, by decide⟩
theorem zc_L_180 : ZCV "BesideAnotherLaw" 180 y_X_free 0 := ⟨(gw_m 877 (by decide +kernel) (by decide +kernel)), (gw_m 878 (by decide +kernel) (by decide +kernel)), (gw_m 879 (by decide +kernel) (by decide +kernel)), (gw_m 91 (by decide +kernel) (by decide +kernel)), (gw_m 880 (by decide +kernel) (by decide +kernel)), ⟨by decide +kernel, by decide +kernel⟩, by decide +kernel, by decide⟩
theorem zc_L_183 : ZCV "BesideAnotherLaw" 183 y_M_free 0 := ⟨(gw_m 1477 (by decide +kernel) (by decide +kernel)), (gw_m 1478 (by decide +kernel) (by decide +kernel)), (gw_m 1479 (by decide +kernel) (by decide +kernel)), (gw_m 100 (by decide +kernel) (by decide +kernel)), (gw_m 1480 (by decide +kernel) (by decide +kernel)), ⟨by decide +kernel, by decide +kernel⟩, by decide +kernel, by decide⟩
theorem zc_L_184 : ZCV "BesideAnotherLaw" 184 y_X_keep 1 := ⟨(gw_m 881 (by decide +kernel) (by decide +kernel)), (gw_m 882 (by decide +kernel) (by decide +kernel)), (gw_m 883 (by decide +kernel) (by decide +kernel)), (gw_m 91 (by decide +kernel) (by decide +kernel)), (gw_m 884 (by decide +kernel) (by decide +kernel)), ⟨by decide +kernel, by decide +kernel⟩, by decide +kernel, by decide⟩
theorem zc_L_187 : ZCV "BesideAnotherLaw" 187 y_M_keep 1 := ⟨(gw_m 1481 (by decide +kernel) (by decide +kernel)), (gw_m 1482 (by decide +kernel) (by decide +kernel)), (gw_m 1483 (by decide +kernel) (by decide +kernel)), (gw_m 100 (by decide +kernel) (by decide +kernel)), (gw_m 1484 (by decide +kernel) (by decide +kernel)), ⟨by decide +kernel, by decide +kernel⟩, by decide +kernel, by decide⟩
theorem zc_L_188 : ZCV "BesideAnotherLaw" 188 y_X_again 1 := ⟨(gw_m 886 (by decide +kernel) (by decide +kernel)), (gw_m 887 (by decide +kernel) (by decide +kernel)), (gw_m 888 (by decide +kernel) (by decide +kernel)), (gw_m 91 (by decide +kernel) (by decide +kernel)), (gw_m 889 (by decide +kernel) (by decide +kernel)), ⟨by decide +kernel, by decide +kernel⟩, by decide +kernel, by decide⟩
theorem zc_L_191 : ZCV "BesideAnotherLaw" 191 y_M_again 1 := ⟨(gw_m 1485 (by decide +kernel) (by decide +kernel)), (gw_m 1486 (by decide +kernel) (by decide +kernel)), (gw_m 1487 (by decide +kernel) (by decide +kernel)), (gw_m 100 (by decide +kernel) (by decide +kernel)), (gw_m 1488 (by decide +kernel) (by decide +kernel)), ⟨by decide +kernel, by decide +kernel⟩, by decide +kernel, by decide⟩
theorem zc_L_192 : ZCV "BesideAnotherLaw" 192 y_X_count 1 := ⟨(gw_m 894 (by decide +kernel) (by decide +kernel)), (gw_m 895 (by decide +kernel) (by decide +kernel)), (gw_m 896 (by decide +kernel) (by decide +kernel)), (gw_m 91 (by decide +kernel) (by decide +kernel)), (gw_m 897 (by decide +kernel) (by decide +kernel)), ⟨by decide +kernel, by decide +kernel⟩, by decide +kernel, by decide⟩
theorem zc_L_195 : ZCV "BesideAnotherLaw" 195 y_M_count 1 := ⟨(gw_m 1489 (by decide +kernel) (by decide +kernel)), (gw_m 1490 (by decide +kernel) (by decide +kernel)), (gw_m 1491 (by decide +kernel) (by decide +kernel)), (gw_m 100 (by decide +kernel) (by decide +kernel)), (gw_m 1492 (by decide +kernel) (by decide +kernel)), ⟨by decide +kernel, by decide +kernel⟩, by decide +kernel, by decide⟩
theorem zc_L_199 : ZCV "BesideAnotherLaw" 199 y_M_row 1 := ⟨(gw_m 1661 (by decide +kernel) (by decide +kernel)), (gw_m 1662 (by decide +kernel) (by decide +kernel)), (gw_m 1663 (by decide +kernel) (by decide +kernel)), (gw_m 100 (by decide +kernel) (by decide +kernel)), (gw_m 1664 (by decide +kernel) (by decide +kernel)), ⟨by decide +kernel, by decide +kernel⟩, by decide +kernel, by decide⟩
theorem zc_M_17 : ZCS "BesideAnotherModel" 17 y_M_in 3 := ⟨(gw_m 1012 (by decide +kernel) (by decide +kernel)), (gw_m 1013 (by decide +kernel) (by decide +kernel)), (gw_m 100 (by decide +kernel) (by decide +kernel)), (gw_m 1014 (by decide +kernel) (by decide +kernel)), ⟨by decide +kernel, by decide +kernel⟩, by decide +kernel, by decide⟩
theorem zc_M_29 : ZCS "BesideAnotherModel" 29 y_M_has 2 := ⟨(gw_m 1131 (by decide +kernel) (by decide +kernel)), (gw_m 1132 (by decide +kernel) (by decide +kernel)), (gw_m 100 (by decide +kernel) (by decide +kernel)), (gw_m 1133 (by decide +kernel) (by decide +kernel)), ⟨by decide +kernel, by decide +kernel⟩, by decide +kernel, by decide⟩
theorem zc_M_33 : ZCS "BesideAnotherModel" 33 y_M_flag 1 := ⟨(gw_m 1042 (by decide +kernel) (by decide +kernel)), (gw_m 1043 (by decide +kernel) (by decide +kernel)), (gw_m 100 (by decide +kernel) (by decide +kernel)), (gw_m 1044 (by decide +kernel) (by decide +kernel)), ⟨by decide +kernel, by decide +kernel⟩, by decide +kernel, by decide⟩
theorem zc_M_72 : ZCV "BesideAnotherModel" 72 y_M_isDigit 0 := ⟨(gw_m 1049 (by decide +kernel) (by decide +kernel)), (gw_m 1051 (by decide +kernel) (by decide +kernel)), (gw_m 38 (by decide +kernel) (by decide +kernel)), (gw_m 100 (by decide +kernel) (by decide +kernel)), (gw_m 1052 (by decide +kernel) (by decide +kernel)), ⟨by decide +kernel, by decide +kernel⟩, by decide +kernel, by decide⟩
theorem zc_M_76 : ZCV "BesideAnotherModel" 76 y_M_marks 1 := ⟨(gw_m 1055 (by decide +kernel) (by decide +kernel)), (gw_m 1057 (by decide +kernel) (by decide +kernel)), (gw_m 39 (by decide +kernel) (by decide +kernel)), (gw_m 100 (by decide +kernel) (by decide +kernel)), (gw_m 1058 (by decide +kernel) (by decide +kernel)), ⟨by decide +kernel, by decide +kernel⟩, by decide +kernel, by decide⟩
theorem zc_M_82 : ZCV "BesideAnotherModel" 82 y_M_among 1 := ⟨(gw_m 1060 (by decide +kernel) (by decide +kernel)), (gw_m 1062 (by decide +kernel) (by decide +kernel)), (gw_m 40 (by decide +kernel) (by decide +kernel)), (gw_m 100 (by decide +kernel) (by decide +kernel)), (gw_m 1063 (by decide +kernel) (by decide +kernel)), ⟨by decide +kernel, by decide +kernel⟩, by decide +kernel, by decide⟩
theorem zc_M_91 : ZCV "BesideAnotherModel" 91 y_M_ranked 1 := ⟨(gw_m 1030 (by decide +kernel) (by decide +kernel)), (gw_m 1032 (by decide +kernel) (by decide +kernel)), (gw_m 34 (by decide +kernel) (by decide +kernel)), (gw_m 100 (by decide +kernel) (by decide +kernel)), (gw_m 1033 (by decide +kernel) (by decide +kernel)), ⟨by decide +kernel, by decide +kernel⟩, by decide +kernel, by decide⟩
theorem zc_M_95 : ZCV "BesideAnotherModel" 95 y_M_takes 1 := ⟨(gw_m 1038 (by decide +kernel) (by decide +kernel)), (gw_m 1040 (by decide +kernel) (by decide +kernel)), (gw_m 36 (by decide +kernel) (by decide +kernel)), (gw_m 100 (by decide +kernel) (by decide +kernel)), (gw_m 1041 (by decide +kernel) (by decide +kernel)), ⟨by decide +kernel, by decide +kernel⟩, by decide +kernel, by decide⟩
theorem zc_M_98 : ZCV "BesideAnotherModel" 98 y_M_thing 0 := ⟨(gw_m 1045 (by decide +kernel) (by decide +kernel)), (gw_m 1047 (by decide +kernel) (by decide +kernel)), (gw_m 37 (by decide +kernel) (by decide +kernel)), (gw_m 100 (by decide +kernel) (by decide +kernel)), (gw_m 1048 (by decide +kernel) (by decide +kernel)), ⟨by decide +kernel, by decide +kernel⟩, by decide +kernel, by decide⟩
theorem zc_M_101 : ZCV "BesideAnotherModel" 101 y_M_ahead 0 := ⟨(gw_m 1034 (by decide +kernel) (by decide +kernel)), (gw_m 1036 (by decide +kernel) (by decide +kernel)), (gw_m 35 (by decide +kernel) (by decide +kernel)), (gw_m 100 (by decide +kernel) (by decide +kernel)), (gw_m 1037 (by decide +kernel) (by decide +kernel)), ⟨by decide +kernel, by decide +kernel⟩, by decide +kernel, by decide⟩
theorem zc_M_118 : ZCS "BesideAnotherModel" 118 y_J_bitCount 1 := ⟨(gw_m 1162 (by decide +kernel) (by decide +kernel)), (gw_m 554 (by decide +kernel) (by decide +kernel)), (gw_m 103 (by decide +kernel) (by decide +kernel)), (gw_m 555 (by decide +kernel) (by decide +kernel)), ⟨by decide +kernel, by decide +kernel⟩, by decide +kernel, by decide⟩
theorem zc_M_127 : ZCV "BesideAnotherModel" 127 y_M_signOf 4 := ⟨(gw_m 1158 (by decide +kernel) (by decide +kernel)), (gw_m 1160 (by decide +kernel) (by decide +kernel)), (gw_m 50 (by decide +kernel) (by decide +kernel)), (gw_m 100 (by decide +kernel) (by decide +kernel)), (gw_m 1161 (by decide +kernel) (by decide +kernel)), ⟨by decide +kernel, by decide +kernel⟩, by decide +kernel, by decide⟩
theorem zc_M_131 : ZCV "BesideAnotherModel" 131 y_M_acted 3 := ⟨(gw_m 1163 (by decide +kernel) (by decide +kernel)), (gw_m 1165 (by decide +kernel) (by decide +kernel)), (gw_m 51 (by decide +kernel) (by decide +kernel)), (gw_m 100 (by decide +kernel) (by decide +kernel)), (gw_m 1166 (by decide +kernel) (by decide +kernel)), ⟨by decide +kernel, by decide +kernel⟩, by decide +kernel, by decide⟩
theorem zc_M_138 : ZCV "BesideAnotherModel" 138 y_M_readBy 1 := ⟨(gw_m 1150 (by decide +kernel) (by decide +kernel)), (gw_m 1152 (by decide +kernel) (by decide +kernel)), (gw_m 48 (by decide +kernel) (by decide +kernel)), (gw_m 100 (by decide +kernel) (by decide +kernel)), (gw_m 1153 (by decide +kernel) (by decide +kernel)), ⟨by decide +kernel, by decide +kernel⟩, by decide +kernel, by decide⟩
theorem zc_M_141 : ZCV "BesideAnotherModel" 141 y_M_isSecond 1 := ⟨(gw_m 1146 (by decide +kernel) (by decide +kernel)), (gw_m 1148 (by decide +kernel) (by decide +kernel)), (gw_m 47 (by decide +kernel) (by decide +kernel)), (gw_m 100 (by decide +kernel) (by decide +kernel)), (gw_m 1149 (by decide +kernel) (by decide +kernel)), ⟨by decide +kernel, by decide +kernel⟩, by decide +kernel, by decide⟩
theorem zc_M_144 : ZCV "BesideAnotherModel" 144 y_M_works 4 := ⟨(gw_m 1154 (by decide +kernel) (by decide +kernel)), (gw_m 1156 (by decide +kernel) (by decide +kernel)), (gw_m 49 (by decide +kernel) (by decide +kernel)), (gw_m 100 (by decide +kernel) (by decide +kernel)), (gw_m 1157 (by decide +kernel) (by decide +kernel)), ⟨by decide +kernel, by decide +kernel⟩, by decide +kernel, by decide⟩
theorem zc_M_147 : ZCV "BesideAnotherModel" 147 y_M_conditionOf 3 := ⟨(gw_m 1142 (by decide +kernel) (by decide +kernel)), (gw_m 1144 (by decide +kernel) (by decide +kernel)), (gw_m 46 (by decide +kernel) (by decide +kernel)), (gw_m 100 (by decide +kernel) (by decide +kernel)), (gw_m 1145 (by decide +kernel) (by decide +kernel)), ⟨by decide +kernel, by decide +kernel⟩, by decide +kernel, by decide⟩
theorem zc_M_150 : ZCV "BesideAnotherModel" 150 y_M_may 3 := ⟨(gw_m 1138 (by decide +kernel) (by decide +kernel)), (gw_m 1140 (by decide +kernel) (by decide +kernel)), (gw_m 45 (by decide +kernel) (by decide +kernel)), (gw_m 100 (by decide +kernel) (by decide +kernel)), (gw_m 1141 (by decide +kernel) (by decide +kernel)), ⟨by decide +kernel, by decide +kernel⟩, by decide +kernel, by decide⟩
theorem zc_M_157 : ZCV "BesideAnotherModel" 157 y_M_begins 1 := ⟨(gw_m 1019 (by decide +kernel) (by decide +kernel)), (gw_m 1021 (by decide +kernel) (by decide +kernel)), (gw_m 32 (by decide +kernel) (by decide +kernel)), (gw_m 100 (by decide +kernel) (by decide +kernel)), (gw_m 1023 (by decide +kernel) (by decide +kernel)), ⟨by decide +kernel, by decide +kernel⟩, by decide +kernel, by decide⟩
theorem zc_M_162 : ZCV "BesideAnotherModel" 162 y_M_reads 1 := ⟨(gw_m 1026 (by decide +kernel) (by decide +kernel)), (gw_m 1028 (by decide +kernel) (by decide +kernel)), (gw_m 33 (by decide +kernel) (by decide +kernel)), (gw_m 100 (by decide +kernel) (by decide +kernel)), (gw_m 1029 (by decide +kernel) (by decide +kernel)), ⟨by decide +kernel, by decide +kernel⟩, by decide +kernel, by decide⟩
theorem zc_M_169 : ZCV "BesideAnotherModel" 169 y_M_faultOf 3 := ⟨(gw_m 1119 (by decide +kernel) (by decide +kernel)), (gw_m 1121 (by decide +kernel) (by decide +kernel)), (gw_m 41 (by decide +kernel) (by decide +kernel)), (gw_m 100 (by decide +kernel) (by decide +kernel)), (gw_m 1122 (by decide +kernel) (by decide +kernel)), ⟨by decide +kernel, by decide +kernel⟩, by decide +kernel, by decide⟩
theorem zc_M_179 : ZCV "BesideAnotherModel" 179 y_M_lays 2 := ⟨(gw_m 1123 (by decide +kernel) (by decide +kernel)), (gw_m 1125 (by decide +kernel) (by decide +kernel)), (gw_m 42 (by decide +kernel) (by decide +kernel)), (gw_m 100 (by decide +kernel) (by decide +kernel)), (gw_m 1126 (by decide +kernel) (by decide +kernel)), ⟨by decide +kernel, by decide +kernel⟩, by decide +kernel, by decide⟩
theorem zc_M_183 : ZCV "BesideAnotherModel" 183 y_M_tableOf 1 := ⟨(gw_m 1127 (by decide +kernel) (by decide +kernel)), (gw_m 1129 (by decide +kernel) (by decide +kernel)), (gw_m 43 (by decide +kernel) (by decide +kernel)), (gw_m 100 (by decide +kernel) (by decide +kernel)), (gw_m 1130 (by decide +kernel) (by decide +kernel)), ⟨by decide +kernel, by decide +kernel⟩, by decide +kernel, by decide⟩
theorem zc_M_186 : ZCV "BesideAnotherModel" 186 y_M_settled 2 := ⟨(gw_m 1134 (by decide +kernel) (by decide +kernel)), (gw_m 1136 (by decide +kernel) (by decide +kernel)), (gw_m 44 (by decide +kernel) (by decide +kernel)), (gw_m 100 (by decide +kernel) (by decide +kernel)), (gw_m 1137 (by decide +kernel) (by decide +kernel)), ⟨by decide +kernel, by decide +kernel⟩, by decide +kernel, by decide⟩
theorem zc_M_189 : ZCV "BesideAnotherModel" 189 y_M_isBook 1 := ⟨(gw_m 1175 (by decide +kernel) (by decide +kernel)), (gw_m 1177 (by decide +kernel) (by decide +kernel)), (gw_m 52 (by decide +kernel) (by decide +kernel)), (gw_m 100 (by decide +kernel) (by decide +kernel)), (gw_m 1178 (by decide +kernel) (by decide +kernel)), ⟨by decide +kernel, by decide +kernel⟩, by decide +kernel, by decide⟩
theorem zc_M_194 : ZCS "BesideAnotherModel" 194 y_M_isTable 1 := ⟨(gw_m 1180 (by decide +kernel) (by decide +kernel)), (gw_m 1181 (by decide +kernel) (by decide +kernel)), (gw_m 100 (by decide +kernel) (by decide +kernel)), (gw_m 1182 (by decide +kernel) (by decide +kernel)), ⟨by decide +kernel, by decide +kernel⟩, by decide +kernel, by decide⟩
theorem zc_M_209 : ZCV "BesideAnotherModel" 209 y_M_refuse 0 := ⟨(gw_m 1196 (by decide +kernel) (by decide +kernel)), (gw_m 1198 (by decide +kernel) (by decide +kernel)), (gw_m 53 (by decide +kernel) (by decide +kernel)), (gw_m 100 (by decide +kernel) (by decide +kernel)), (gw_m 1199 (by decide +kernel) (by decide +kernel)), ⟨by decide +kernel, by decide +kernel⟩, by decide +kernel, by decide⟩
theorem zc_M_214 : ZCV "BesideAnotherModel" 214 y_M_noPlace 2 := ⟨(gw_m 1221 (by decide +kernel) (by decide +kernel)), (gw_m 1223 (by decide +kernel) (by decide +kernel)), (gw_m 56 (by decide +kernel) (by decide +kernel)), (gw_m 100 (by decide +kernel) (by decide +kernel)), (gw_m 1224 (by decide +kernel) (by decide +kernel)), ⟨by decide +kernel, by decide +kernel⟩, by decide +kernel, by decide⟩
theorem zc_M_217 : ZCV "BesideAnotherModel" 217 y_M_opens 2 := ⟨(gw_m 1229 (by decide +kernel) (by decide +kernel)), (gw_m 1231 (by decide +kernel) (by decide +kernel)), (gw_m 58 (by decide +kernel) (by decide +kernel)), (gw_m 100 (by decide +kernel) (by decide +kernel)), (gw_m 1232 (by decide +kernel) (by decide +kernel)), ⟨by decide +kernel, by decide +kernel⟩, by decide +kernel, by decide⟩
theorem zc_M_220 : ZCV "BesideAnotherModel" 220 y_M_shut 1 := ⟨(gw_m 1233 (by decide +kernel) (by decide +kernel)), (gw_m 1235 (by decide +kernel) (by decide +kernel)), (gw_m 59 (by decide +kernel) (by decide +kernel)), (gw_m 100 (by decide +kernel) (by decide +kernel)), (gw_m 1236 (by decide +kernel) (by decide +kernel)), ⟨by decide +kernel, by decide +kernel⟩, by decide +kernel, by decide⟩
theorem zc_M_223 : ZCV "BesideAnotherModel" 223 y_M_isAct 1 := ⟨(gw_m 1212 (by decide +kernel) (by decide +kernel)), (gw_m 1214 (by decide +kernel) (by decide +kernel)), (gw_m 54 (by decide +kernel) (by decide +kernel)), (gw_m 100 (by decide +kernel) (by decide +kernel)), (gw_m 1215 (by decide +kernel) (by decide +kernel)), ⟨by decide +kernel, by decide +kernel⟩, by decide +kernel, by decide⟩
theorem zc_M_226 : ZCV "BesideAnotherModel" 226 y_M_whyNot 1 := ⟨(gw_m 1217 (by decide +kernel) (by decide +kernel)), (gw_m 1219 (by decide +kernel) (by decide +kernel)), (gw_m 55 (by decide +kernel) (by decide +kernel)), (gw_m 100 (by decide +kernel) (by decide +kernel)), (gw_m 1220 (by decide +kernel) (by decide +kernel)), ⟨by decide +kernel, by decide +kernel⟩, by decide +kernel, by decide⟩
theorem zc_M_229 : ZCV "BesideAnotherModel" 229 y_M_makes 1 := ⟨(gw_m 1225 (by decide +kernel) (by decide +kernel)), (gw_m 1227 (by decide +kernel) (by decide +kernel)), (gw_m 57 (by decide +kernel) (by decide +kernel)), (gw_m 100 (by decide +kernel) (by decide +kernel)), (gw_m 1228 (by decide +kernel) (by decide +kernel)), ⟨by decide +kernel, by decide +kernel⟩, by decide +kernel, by decide⟩
theorem zc_M_236 : ZCV "BesideAnotherModel" 236 y_M_enters 1 := ⟨(gw_m 1247 (by decide +kernel) (by decide +kernel)), (gw_m 1249 (by decide +kernel) (by decide +kernel)), (gw_m 60 (by decide +kernel) (by decide +kernel)), (gw_m 100 (by decide +kernel) (by decide +kernel)), (gw_m 1250 (by decide +kernel) (by decide +kernel)), ⟨by decide +kernel, by decide +kernel⟩, by decide +kernel, by decide⟩
theorem zc_M_239 : ZCV "BesideAnotherModel" 239 y_M_areBooks 1 := ⟨(gw_m 1255 (by decide +kernel) (by decide +kernel)), (gw_m 1257 (by decide +kernel) (by decide +kernel)), (gw_m 61 (by decide +kernel) (by decide +kernel)), (gw_m 100 (by decide +kernel) (by decide +kernel)), (gw_m 1258 (by decide +kernel) (by decide +kernel)), ⟨by decide +kernel, by decide +kernel⟩, by decide +kernel, by decide⟩
theorem zc_M_250 : ZCV "BesideAnotherModel" 250 y_M_putsBy 0 := ⟨(gw_m 1264 (by decide +kernel) (by decide +kernel)), (gw_m 1266 (by decide +kernel) (by decide +kernel)), (gw_m 62 (by decide +kernel) (by decide +kernel)), (gw_m 100 (by decide +kernel) (by decide +kernel)), (gw_m 1267 (by decide +kernel) (by decide +kernel)), ⟨by decide +kernel, by decide +kernel⟩, by decide +kernel, by decide⟩
theorem zc_M_254 : ZCV "BesideAnotherModel" 254 y_M_putsBack 0 := ⟨(gw_m 1268 (by decide +kernel) (by decide +kernel)), (gw_m 1270 (by decide +kernel) (by decide +kernel)), (gw_m 63 (by decide +kernel) (by decide +kernel)), (gw_m 100 (by decide +kernel) (by decide +kernel)), (gw_m 1271 (by decide +kernel) (by decide +kernel)), ⟨by decide +kernel, by decide +kernel⟩, by decide +kernel, by decide⟩
theorem zc_M_266 : ZCV "BesideAnotherModel" 266 y_M_isReader 1 := ⟨(gw_m 1280 (by decide +kernel) (by decide +kernel)), (gw_m 1282 (by decide +kernel) (by decide +kernel)), (gw_m 64 (by decide +kernel) (by decide +kernel)), (gw_m 100 (by decide +kernel) (by decide +kernel)), (gw_m 1283 (by decide +kernel) (by decide +kernel)), ⟨by decide +kernel, by decide +kernel⟩, by decide +kernel, by decide⟩
theorem zc_M_269 : ZCV "BesideAnotherModel" 269 y_M_hasRead 2 := ⟨(gw_m 1288 (by decide +kernel) (by decide +kernel)), (gw_m 1290 (by decide +kernel) (by decide +kernel)), (gw_m 65 (by decide +kernel) (by decide +kernel)), (gw_m 100 (by decide +kernel) (by decide +kernel)), (gw_m 1291 (by decide +kernel) (by decide +kernel)), ⟨by decide +kernel, by decide +kernel⟩, by decide +kernel, by decide⟩
theorem zc_M_272 : ZCV "BesideAnotherModel" 272 y_M_leftOf 1 := ⟨(gw_m 1296 (by decide +kernel) (by decide +kernel)), (gw_m 1298 (by decide +kernel) (by decide +kernel)), (gw_m 66 (by decide +kernel) (by decide +kernel)), (gw_m 100 (by decide +kernel) (by decide +kernel)), (gw_m 1299 (by decide +kernel) (by decide +kernel)), ⟨by decide +kernel, by decide +kernel⟩, by decide +kernel, by decide⟩
theorem zc_M_278 : ZCV "BesideAnotherModel" 278 y_M_ruleOf 1 := ⟨(gw_m 1313 (by decide +kernel) (by decide +kernel)), (gw_m 1315 (by decide +kernel) (by decide +kernel)), (gw_m 69 (by decide +kernel) (by decide +kernel)), (gw_m 100 (by decide +kernel) (by decide +kernel)), (gw_m 1316 (by decide +kernel) (by decide +kernel)), ⟨by decide +kernel, by decide +kernel⟩, by decide +kernel, by decide⟩
theorem zc_M_290 : ZCV "BesideAnotherModel" 290 y_M_firstOpen 2 := ⟨(gw_m 1325 (by decide +kernel) (by decide +kernel)), (gw_m 1327 (by decide +kernel) (by decide +kernel)), (gw_m 71 (by decide +kernel) (by decide +kernel)), (gw_m 100 (by decide +kernel) (by decide +kernel)), (gw_m 1328 (by decide +kernel) (by decide +kernel)), ⟨by decide +kernel, by decide +kernel⟩, by decide +kernel, by decide⟩
theorem zc_M_293 : ZCS "BesideAnotherModel" 293 y_J_numberOfTrailingZeros 1 := ⟨(gw_m 1321 (by decide +kernel) (by decide +kernel)), (gw_m 1322 (by decide +kernel) (by decide +kernel)), (gw_m 103 (by decide +kernel) (by decide +kernel)), (gw_m 1323 (by decide +kernel) (by decide +kernel)), ⟨by decide +kernel, by decide +kernel⟩, by decide +kernel, by decide⟩
theorem zc_M_296 : ZCV "BesideAnotherModel" 296 y_M_helps 3 := ⟨(gw_m 1329 (by decide +kernel) (by decide +kernel)), (gw_m 1331 (by decide +kernel) (by decide +kernel)), (gw_m 72 (by decide +kernel) (by decide +kernel)), (gw_m 100 (by decide +kernel) (by decide +kernel)), (gw_m 1332 (by decide +kernel) (by decide +kernel)), ⟨by decide +kernel, by decide +kernel⟩, by decide +kernel, by decide⟩
theorem zc_M_299 : ZCV "BesideAnotherModel" 299 y_M_ranks 0 := ⟨(gw_m 1309 (by decide +kernel) (by decide +kernel)), (gw_m 1311 (by decide +kernel) (by decide +kernel)), (gw_m 68 (by decide +kernel) (by decide +kernel)), (gw_m 100 (by decide +kernel) (by decide +kernel)), (gw_m 1312 (by decide +kernel) (by decide +kernel)), ⟨by decide +kernel, by decide +kernel⟩, by decide +kernel, by decide⟩
theorem zc_M_302 : ZCV "BesideAnotherModel" 302 y_M_does 1 := ⟨(gw_m 1317 (by decide +kernel) (by decide +kernel)), (gw_m 1319 (by decide +kernel) (by decide +kernel)), (gw_m 70 (by decide +kernel) (by decide +kernel)), (gw_m 100 (by decide +kernel) (by decide +kernel)), (gw_m 1320 (by decide +kernel) (by decide +kernel)), ⟨by decide +kernel, by decide +kernel⟩, by decide +kernel, by decide⟩
theorem zc_M_305 : ZCV "BesideAnotherModel" 305 y_M_notes 1 := ⟨(gw_m 1333 (by decide +kernel) (by decide +kernel)), (gw_m 1335 (by decide +kernel) (by decide +kernel)), (gw_m 73 (by decide +kernel) (by decide +kernel)), (gw_m 100 (by decide +kernel) (by decide +kernel)), (gw_m 1336 (by decide +kernel) (by decide +kernel)), ⟨by decide +kernel, by decide +kernel⟩, by decide +kernel, by decide⟩
theorem zc_M_313 : ZCV "BesideAnotherModel" 313 y_M_goesHour 0 := ⟨(gw_m 1305 (by decide +kernel) (by decide +kernel)), (gw_m 1307 (by decide +kernel) (by decide +kernel)), (gw_m 67 (by decide +kernel) (by decide +kernel)), (gw_m 100 (by decide +kernel) (by decide +kernel)), (gw_m 1308 (by decide +kernel) (by decide +kernel)), ⟨by decide +kernel, by decide +kernel⟩, by decide +kernel, by decide⟩
theorem zc_M_322 : ZCV "BesideAnotherModel" 322 y_M_rings 3 := ⟨(gw_m 1353 (by decide +kernel) (by decide +kernel)), (gw_m 1355 (by decide +kernel) (by decide +kernel)), (gw_m 75 (by decide +kernel) (by decide +kernel)), (gw_m 100 (by decide +kernel) (by decide +kernel)), (gw_m 1356 (by decide +kernel) (by decide +kernel)), ⟨by decide +kernel, by decide +kernel⟩, by decide +kernel, by decide⟩
theorem zc_M_325 : ZCV "BesideAnotherModel" 325 y_M_tellsRing 2 := ⟨(gw_m 1349 (by decide +kernel) (by decide +kernel)), (gw_m 1351 (by decide +kernel) (by decide +kernel)), (gw_m 74 (by decide +kernel) (by decide +kernel)), (gw_m 100 (by decide +kernel) (by decide +kernel)), (gw_m 1352 (by decide +kernel) (by decide +kernel)), ⟨by decide +kernel, by decide +kernel⟩, by decide +kernel, by decide⟩
theorem zc_M_340 : ZCV "BesideAnotherModel" 340 y_M_looks 2 := ⟨(gw_m 1361 (by decide +kernel) (by decide +kernel)), (gw_m 1363 (by decide +kernel) (by decide +kernel)), (gw_m 76 (by decide +kernel) (by decide +kernel)), (gw_m 100 (by decide +kernel) (by decide +kernel)), (gw_m 1364 (by decide +kernel) (by decide +kernel)), ⟨by decide +kernel, by decide +kernel⟩, by decide +kernel, by decide⟩
theorem zc_M_358 : ZCV "BesideAnotherModel" 358 y_M_nextOf 2 := ⟨(gw_m 1393 (by decide +kernel) (by decide +kernel)), (gw_m 1395 (by decide +kernel) (by decide +kernel)), (gw_m 79 (by decide +kernel) (by decide +kernel)), (gw_m 100 (by decide +kernel) (by decide +kernel)), (gw_m 1396 (by decide +kernel) (by decide +kernel)), ⟨by decide +kernel, by decide +kernel⟩, by decide +kernel, by decide⟩
theorem zc_M_361 : ZCV "BesideAnotherModel" 361 y_M_laysOut 1 := ⟨(gw_m 1385 (by decide +kernel) (by decide +kernel)), (gw_m 1387 (by decide +kernel) (by decide +kernel)), (gw_m 77 (by decide +kernel) (by decide +kernel)), (gw_m 100 (by decide +kernel) (by decide +kernel)), (gw_m 1388 (by decide +kernel) (by decide +kernel)), ⟨by decide +kernel, by decide +kernel⟩, by decide +kernel, by decide⟩
theorem zc_M_364 : ZCV "BesideAnotherModel" 364 y_M_spreads 1 := ⟨(gw_m 1389 (by decide +kernel) (by decide +kernel)), (gw_m 1391 (by decide +kernel) (by decide +kernel)), (gw_m 78 (by decide +kernel) (by decide +kernel)), (gw_m 100 (by decide +kernel) (by decide +kernel)), (gw_m 1392 (by decide +kernel) (by decide +kernel)), ⟨by decide +kernel, by decide +kernel⟩, by decide +kernel, by decide⟩
theorem zc_M_367 : ZCV "BesideAnotherModel" 367 y_M_everOpen 0 := ⟨(gw_m 1397 (by decide +kernel) (by decide +kernel)), (gw_m 1399 (by decide +kernel) (by decide +kernel)), (gw_m 80 (by decide +kernel) (by decide +kernel)), (gw_m 100 (by decide +kernel) (by decide +kernel)), (gw_m 1400 (by decide +kernel) (by decide +kernel)), ⟨by decide +kernel, by decide +kernel⟩, by decide +kernel, by decide⟩
theorem zc_M_373 : ZCV "BesideAnotherModel" 373 y_M_tellsWay 2 := ⟨(gw_m 1405 (by decide +kernel) (by decide +kernel)), (gw_m 1407 (by decide +kernel) (by decide +kernel)), (gw_m 81 (by decide +kernel) (by decide +kernel)), (gw_m 100 (by decide +kernel) (by decide +kernel)), (gw_m 1408 (by decide +kernel) (by decide +kernel)), ⟨by decide +kernel, by decide +kernel⟩, by decide +kernel, by decide⟩
theorem zc_M_379 : ZCV "BesideAnotherModel" 379 y_M_everAll 0 := ⟨(gw_m 1417 (by decide +kernel) (by decide +kernel)), (gw_m 1419 (by decide +kernel) (by decide +kernel)), (gw_m 82 (by decide +kernel) (by decide +kernel)), (gw_m 100 (by decide +kernel) (by decide +kernel)), (gw_m 1420 (by decide +kernel) (by decide +kernel)), ⟨by decide +kernel, by decide +kernel⟩, by decide +kernel, by decide⟩
theorem zc_M_382 : ZCS "BesideAnotherModel" 382 y_M_setOf 2 := ⟨(gw_m 1451 (by decide +kernel) (by decide +kernel)), (gw_m 1452 (by decide +kernel) (by decide +kernel)), (gw_m 100 (by decide +kernel) (by decide +kernel)), (gw_m 1453 (by decide +kernel) (by decide +kernel)), ⟨by decide +kernel, by decide +kernel⟩, by decide +kernel, by decide⟩
theorem zc_M_397 : ZCV "BesideAnotherModel" 397 y_M_slotOf 1 := ⟨(gw_m 1441 (by decide +kernel) (by decide +kernel)), (gw_m 1443 (by decide +kernel) (by decide +kernel)), (gw_m 86 (by decide +kernel) (by decide +kernel)), (gw_m 100 (by decide +kernel) (by decide +kernel)), (gw_m 1444 (by decide +kernel) (by decide +kernel)), ⟨by decide +kernel, by decide +kernel⟩, by decide +kernel, by decide⟩
theorem zc_M_413 : ZCV "BesideAnotherModel" 413 y_M_numberOf 3 := ⟨(gw_m 1437 (by decide +kernel) (by decide +kernel)), (gw_m 1439 (by decide +kernel) (by decide +kernel)), (gw_m 85 (by decide +kernel) (by decide +kernel)), (gw_m 100 (by decide +kernel) (by decide +kernel)), (gw_m 1440 (by decide +kernel) (by decide +kernel)), ⟨by decide +kernel, by decide +kernel⟩, by decide +kernel, by decide⟩
theorem zc_M_417 : ZCV "BesideAnotherModel" 417 y_M_stands 1 := ⟨(gw_m 1447 (by decide +kernel) (by decide +kernel)), (gw_m 1449 (by decide +kernel) (by decide +kernel)), (gw_m 87 (by decide +kernel) (by decide +kernel)), (gw_m 100 (by decide +kernel) (by decide +kernel)), (gw_m 1450 (by decide +kernel) (by decide +kernel)), ⟨by decide +kernel, by decide +kernel⟩, by decide +kernel, by decide⟩
theorem zc_M_421 : ZCV "BesideAnotherModel" 421 y_M_stateNow 0 := ⟨(gw_m 1429 (by decide +kernel) (by decide +kernel)), (gw_m 1431 (by decide +kernel) (by decide +kernel)), (gw_m 83 (by decide +kernel) (by decide +kernel)), (gw_m 100 (by decide +kernel) (by decide +kernel)), (gw_m 1432 (by decide +kernel) (by decide +kernel)), ⟨by decide +kernel, by decide +kernel⟩, by decide +kernel, by decide⟩
theorem zc_M_428 : ZCS "BesideAnotherModel" 428 y_M_everyOf 1 := ⟨(gw_m 1458 (by decide +kernel) (by decide +kernel)), (gw_m 1459 (by decide +kernel) (by decide +kernel)), (gw_m 100 (by decide +kernel) (by decide +kernel)), (gw_m 1460 (by decide +kernel) (by decide +kernel)), ⟨by decide +kernel, by decide +kernel⟩, by decide +kernel, by decide⟩
theorem zc_M_431 : ZCV "BesideAnotherModel" 431 y_M_explores 1 := ⟨(gw_m 1433 (by decide +kernel) (by decide +kernel)), (gw_m 1435 (by decide +kernel) (by decide +kernel)), (gw_m 84 (by decide +kernel) (by decide +kernel)), (gw_m 100 (by decide +kernel) (by decide +kernel)), (gw_m 1436 (by decide +kernel) (by decide +kernel)), ⟨by decide +kernel, by decide +kernel⟩, by decide +kernel, by decide⟩
theorem zc_M_435 : ZCV "BesideAnotherModel" 435 y_M_everFound 0 := ⟨(gw_m 1454 (by decide +kernel) (by decide +kernel)), (gw_m 1456 (by decide +kernel) (by decide +kernel)), (gw_m 88 (by decide +kernel) (by decide +kernel)), (gw_m 100 (by decide +kernel) (by decide +kernel)), (gw_m 1457 (by decide +kernel) (by decide +kernel)), ⟨by decide +kernel, by decide +kernel⟩, by decide +kernel, by decide⟩
theorem zc_M_438 : ZCV "BesideAnotherModel" 438 y_M_tellsTo 1 := ⟨(gw_m 1465 (by decide +kernel) (by decide +kernel)), (gw_m 1467 (by decide +kernel) (by decide +kernel)), (gw_m 89 (by decide +kernel) (by decide +kernel)), (gw_m 100 (by decide +kernel) (by decide +kernel)), (gw_m 1468 (by decide +kernel) (by decide +kernel)), ⟨by decide +kernel, by decide +kernel⟩, by decide +kernel, by decide⟩
theorem zk_S_37 : Cond.constant "BesideAnother$Search" 37 (180000 : Int32) ∈ GW := (gw_m 240 (by decide +kernel) (by decide +kernel))
theorem zk_S_66 : Cond.constant "BesideAnother$Search" 66 (-1640531535 : Int32) ∈ GW := (gw_m 799 (by decide +kernel) (by decide +kernel))
theorem zk_S_70 : Cond.constant "BesideAnother$Search" 70 (60000 : Int32) ∈ GW := (gw_m 844 (by decide +kernel) (by decide +kernel))
theorem zk_X_415 : Cond.constantLong "BesideAnother" 415 (4095 : Int64) ∈ GW := (gw_m 565 (by decide +kernel) (by decide +kernel))
theorem zk_X_417 : Cond.constantLong "BesideAnother" 417 (-1 : Int64) ∈ GW := (gw_m 566 (by decide +kernel) (by decide +kernel))
theorem zk_M_21 : Cond.constantLong "BesideAnotherModel" 21 (2 : Int64) ∈ GW := (gw_m 1183 (by decide +kernel) (by decide +kernel))
theorem zk_M_49 : Cond.constantLong "BesideAnotherModel" 49 (48 : Int64) ∈ GW := (gw_m 1053 (by decide +kernel) (by decide +kernel))
theorem zk_M_51 : Cond.constantLong "BesideAnotherModel" 51 (57 : Int64) ∈ GW := (gw_m 1054 (by decide +kernel) (by decide +kernel))
theorem zk_M_160 : Cond.constantLong "BesideAnotherModel" 160 (12 : Int64) ∈ GW := (gw_m 1025 (by decide +kernel) (by decide +kernel))
theorem zk_M_165 : Cond.constantLong "BesideAnotherModel" 165 (49 : Int64) ∈ GW := (gw_m 1117 (by decide +kernel) (by decide +kernel))
theorem zk_M_167 : Cond.constantLong "BesideAnotherModel" 167 (54 : Int64) ∈ GW := (gw_m 1118 (by decide +kernel) (by decide +kernel))
theorem zk_M_192 : Cond.constantLong "BesideAnotherModel" 192 (99 : Int64) ∈ GW := (gw_m 1179 (by decide +kernel) (by decide +kernel))
theorem zk_M_197 : Cond.constantLong "BesideAnotherModel" 197 (6 : Int64) ∈ GW := (gw_m 1184 (by decide +kernel) (by decide +kernel))
theorem zk_M_202 : Cond.constantLong "BesideAnotherModel" 202 (3 : Int64) ∈ GW := (gw_m 1189 (by decide +kernel) (by decide +kernel))
theorem zk_M_207 : Cond.constantLong "BesideAnotherModel" 207 (4 : Int64) ∈ GW := (gw_m 1195 (by decide +kernel) (by decide +kernel))
theorem zk_M_212 : Cond.constantLong "BesideAnotherModel" 212 (139 : Int64) ∈ GW := (gw_m 1216 (by decide +kernel) (by decide +kernel))
theorem zk_M_232 : Cond.constantLong "BesideAnotherModel" 232 (60 : Int64) ∈ GW := (gw_m 1245 (by decide +kernel) (by decide +kernel))
theorem zk_M_234 : Cond.constantLong "BesideAnotherModel" 234 (79 : Int64) ∈ GW := (gw_m 1246 (by decide +kernel) (by decide +kernel))
theorem zk_M_248 : Cond.constantLong "BesideAnotherModel" 248 (8 : Int64) ∈ GW := (gw_m 1263 (by decide +kernel) (by decide +kernel))
theorem zk_M_311 : Cond.constantLong "BesideAnotherModel" 311 (50 : Int64) ∈ GW := (gw_m 1304 (by decide +kernel) (by decide +kernel))
theorem zk_M_386 : Cond.constantLong "BesideAnotherModel" 386 (31 : Int64) ∈ GW := (gw_m 1445 (by decide +kernel) (by decide +kernel))
theorem zk_M_388 : Cond.constantLong "BesideAnotherModel" 388 (16384 : Int64) ∈ GW := (gw_m 1446 (by decide +kernel) (by decide +kernel))
theorem zk_M_456 : Cond.constant "BesideAnotherModel" 456 (98304 : Int32) ∈ GW := (gw_m 1498 (by decide +kernel) (by decide +kernel))
theorem zk_M_457 : Cond.constant "BesideAnotherModel" 457 (180000 : Int32) ∈ GW := (gw_m 1499 (by decide +kernel) (by decide +kernel))
theorem zk_J_264 : Cond.constant "java/lang/Integer" 264 (65536 : Int32) ∈ GW := (gw_m 1324 (by decide +kernel) (by decide +kernel))
theorem zk_J_265 : Cond.constant "java/lang/Integer" 265 (1431655765 : Int32) ∈ GW := (gw_m 556 (by decide +kernel) (by decide +kernel))
theorem zk_J_266 : Cond.constant "java/lang/Integer" 266 (858993459 : Int32) ∈ GW := (gw_m 557 (by decide +kernel) (by decide +kernel))
theorem zk_J_267 : Cond.constant "java/lang/Integer" 267 (252645135 : Int32) ∈ GW := (gw_m 558 (by decide +kernel) (by decide +kernel))
