-- FACTS OF THE TABLES: classes, fields, calls, by their places
theorem gw_1 {w : Cond} (h : w ∈ tables_1) (hg : goodWord w = true) : w ∈ GW := List.mem_filter.mpr ⟨List.mem_append_right _ h, hg⟩
theorem gwc1 (i : Nat) {w : Cond} (h : tables_1_1[i]? = some w) (hg : goodWord w = true) : w ∈ GW := gw_1 (List.mem_append_left _ (List.mem_of_getElem? h)) hg
theorem gwc2 (i : Nat) {w : Cond} (h : tables_1_2[i]? = some w) (hg : goodWord w = true) : w ∈ GW := gw_1 (List.mem_append_right _ (List.mem_append_left _ (List.mem_of_getElem? h))) hg
theorem gwc3 (i : Nat) {w : Cond} (h : tables_1_3[i]? = some w) (hg : goodWord w = true) : w ∈ GW := gw_1 (List.mem_append_right _ (List.mem_append_right _ (List.mem_append_left _ (List.mem_of_getElem? h)))) hg
theorem gwc4 (i : Nat) {w : Cond} (h : tables_1_4[i]? = some w) (hg : goodWord w = true) : w ∈ GW := gw_1 (List.mem_append_right _ (List.mem_append_right _ (List.mem_append_right _ (List.mem_append_left _ (List.mem_of_getElem? h))))) hg
theorem gwc5 (i : Nat) {w : Cond} (h : tables_1_5[i]? = some w) (hg : goodWord w = true) : w ∈ GW := gw_1 (List.mem_append_right _ (List.mem_append_right _ (List.mem_append_right _ (List.mem_append_right _ (List.mem_append_left _ (List.mem_of_getElem? h)))))) hg
theorem gwc6 (i : Nat) {w : Cond} (h : tables_1_6[i]? = some w) (hg : goodWord w = true) : w ∈ GW := gw_1 (List.mem_append_right _ (List.mem_append_right _ (List.mem_append_right _ (List.mem_append_right _ (List.mem_append_right _ (List.mem_append_left _ (List.mem_of_getElem? h))))))) hg
theorem gwc7 (i : Nat) {w : Cond} (h : tables_1_7[i]? = some w) (hg : goodWord w = true) : w ∈ GW := gw_1 (List.mem_append_right _ (List.mem_append_right _ (List.mem_append_right _ (List.mem_append_right _ (List.mem_append_right _ (List.mem_append_right _ (List.mem_of_getElem? h))))))) hg
theorem gwp (i : Nat) {w : Cond} (h : (k2_sels lw_privs)[i]? = some w) (hg : goodWord w = true) : w ∈ GW := List.mem_filter.mpr ⟨List.mem_append_left _ (List.mem_of_getElem? h), hg⟩
def y_B_init : ZMI := (⟨"BesideAnother$Book", "<init>", "()V"⟩, prog_2_method_1_code, 1, none)
def y_B_tell : ZMI := (⟨"BesideAnother$Book", "tell", "(LBesideAnother$Text;)V"⟩, prog_2_method_2_code, 2, none)
def y_B_isLater : ZMI := (⟨"BesideAnother$Book", "isLater", "()Z"⟩, prog_2_method_3_code, 1, (some .boolean))
def y_B_condition : ZMI := (⟨"BesideAnother$Book", "condition", "()LBesideAnother$Expression;"⟩, prog_2_method_4_code, 1, (some (.object "BesideAnother$Expression")))
def y_E_init : ZMI := (⟨"BesideAnother$Expression", "<init>", "()V"⟩, prog_3_method_1_code, 1, none)
def y_E_clear : ZMI := (⟨"BesideAnother$Expression", "clear", "()V"⟩, prog_3_method_2_code, 1, none)
def y_E_append : ZMI := (⟨"BesideAnother$Expression", "append", "(I)V"⟩, prog_3_method_3_code, 2, none)
def y_E_copy : ZMI := (⟨"BesideAnother$Expression", "copy", "(LBesideAnother$Expression;)V"⟩, prog_3_method_4_code, 2, none)
def y_E_worth : ZMI := (⟨"BesideAnother$Expression", "worth", "(III)I"⟩, prog_3_method_5_code, 7, (some .int))
def y_E_joined : ZMI := (⟨"BesideAnother$Expression", "joined", "(III)I"⟩, prog_3_method_6_code, 3, (some .int))
def y_K_init : ZMI := (⟨"BesideAnother$Kept", "<init>", "()V"⟩, prog_4_method_1_code, 1, none)
def y_R_init : ZMI := (⟨"BesideAnother$Reader", "<init>", "()V"⟩, prog_5_method_1_code, 1, none)
def y_R_begin : ZMI := (⟨"BesideAnother$Reader", "begin", "(II)V"⟩, prog_5_method_2_code, 3, none)
def y_R_left : ZMI := (⟨"BesideAnother$Reader", "left", "()I"⟩, prog_5_method_3_code, 1, (some .int))
def y_S_init : ZMI := (⟨"BesideAnother$Search", "<init>", "()V"⟩, prog_6_method_1_code, 1, none)
def y_S_clear : ZMI := (⟨"BesideAnother$Search", "clear", "()V"⟩, prog_6_method_2_code, 2, none)
def y_S_seed : ZMI := (⟨"BesideAnother$Search", "seed", "(J)V"⟩, prog_6_method_3_code, 3, none)
def y_S_spread : ZMI := (⟨"BesideAnother$Search", "spread", "(LBesideAnother$Tables;I)Z"⟩, prog_6_method_4_code, 12, (some .boolean))
def y_S_place : ZMI := (⟨"BesideAnother$Search", "place", "(JII)I"⟩, prog_6_method_5_code, 6, (some .int))
def y_S_slotOf : ZMI := (⟨"BesideAnother$Search", "slotOf", "(J)I"⟩, prog_6_method_6_code, 6, (some .int))
def y_S_indexOf : ZMI := (⟨"BesideAnother$Search", "indexOf", "(J)I"⟩, prog_6_method_7_code, 3, (some .int))
def y_S_firstWith : ZMI := (⟨"BesideAnother$Search", "firstWith", "(I)I"⟩, prog_6_method_8_code, 3, (some .int))
def y_S_union : ZMI := (⟨"BesideAnother$Search", "union", "()I"⟩, prog_6_method_9_code, 3, (some .int))
def y_S_farthest : ZMI := (⟨"BesideAnother$Search", "farthest", "()I"⟩, prog_6_method_10_code, 1, (some .int))
def y_S_gather : ZMI := (⟨"BesideAnother$Search", "gather", "()V"⟩, prog_6_method_11_code, 6, none)
def y_V_init : ZMI := (⟨"BesideAnother$Survey", "<init>", "()V"⟩, prog_7_method_1_code, 1, none)
def y_V_begin : ZMI := (⟨"BesideAnother$Survey", "begin", "(I)V"⟩, prog_7_method_2_code, 2, none)
def y_V_take : ZMI := (⟨"BesideAnother$Survey", "take", "(I)V"⟩, prog_7_method_3_code, 3, none)
def y_T_init : ZMI := (⟨"BesideAnother$Tables", "<init>", "()V"⟩, prog_8_method_1_code, 2, none)
def y_T_has : ZMI := (⟨"BesideAnother$Tables", "has", "(I)Z"⟩, prog_8_method_2_code, 2, (some .boolean))
def y_T_all : ZMI := (⟨"BesideAnother$Tables", "all", "()I"⟩, prog_8_method_3_code, 1, (some .int))
def y_T_beyond : ZMI := (⟨"BesideAnother$Tables", "beyond", "(I)Z"⟩, prog_8_method_4_code, 2, (some .boolean))
def y_T_forget : ZMI := (⟨"BesideAnother$Tables", "forget", "()V"⟩, prog_8_method_5_code, 1, none)
def y_T_countIn : ZMI := (⟨"BesideAnother$Tables", "countIn", "(I)V"⟩, prog_8_method_6_code, 3, none)
def y_T_spent : ZMI := (⟨"BesideAnother$Tables", "spent", "()I"⟩, prog_8_method_7_code, 3, (some .int))
def y_T_mayBy : ZMI := (⟨"BesideAnother$Tables", "mayBy", "(II)I"⟩, prog_8_method_8_code, 6, (some .int))
def y_T_settled : ZMI := (⟨"BesideAnother$Tables", "settled", "(JI)J"⟩, prog_8_method_9_code, 7, (some .long))
def y_T_possible : ZMI := (⟨"BesideAnother$Tables", "possible", "(JII)I"⟩, prog_8_method_10_code, 9, (some .int))
def y_T_refusal : ZMI := (⟨"BesideAnother$Tables", "refusal", "(JII)I"⟩, prog_8_method_11_code, 9, (some .int))
def y_T_after : ZMI := (⟨"BesideAnother$Tables", "after", "(JI)J"⟩, prog_8_method_12_code, 10, (some .long))
def y_P_init : ZMI := (⟨"BesideAnother$Text", "<init>", "()V"⟩, prog_9_method_1_code, 1, none)
def y_P_append : ZMI := (⟨"BesideAnother$Text", "append", "(I)I"⟩, prog_9_method_2_code, 3, (some .int))
def y_P_cut : ZMI := (⟨"BesideAnother$Text", "cut", "(I)Z"⟩, prog_9_method_3_code, 2, (some .boolean))
def y_P_clear : ZMI := (⟨"BesideAnother$Text", "clear", "()V"⟩, prog_9_method_4_code, 1, none)
def y_P_parse : ZMI := (⟨"BesideAnother$Text", "parse", "(IZ)I"⟩, prog_9_method_5_code, 4, (some .int))
def y_P_later : ZMI := (⟨"BesideAnother$Text", "later", "()Z"⟩, prog_9_method_6_code, 1, (some .boolean))
def y_P_whole : ZMI := (⟨"BesideAnother$Text", "whole", "(LBesideAnother$Expression;)Z"⟩, prog_9_method_7_code, 2, (some .boolean))
def y_P_takes : ZMI := (⟨"BesideAnother$Text", "takes", "(I)Z"⟩, prog_9_method_8_code, 2, (some .boolean))
def y_P_anyOf : ZMI := (⟨"BesideAnother$Text", "anyOf", "(I)Z"⟩, prog_9_method_9_code, 2, (some .boolean))
def y_P_allOf : ZMI := (⟨"BesideAnother$Text", "allOf", "(I)Z"⟩, prog_9_method_10_code, 2, (some .boolean))
def y_P_compared : ZMI := (⟨"BesideAnother$Text", "compared", "(I)Z"⟩, prog_9_method_11_code, 3, (some .boolean))
def y_P_sum : ZMI := (⟨"BesideAnother$Text", "sum", "(I)Z"⟩, prog_9_method_12_code, 3, (some .boolean))
def y_P_denied : ZMI := (⟨"BesideAnother$Text", "denied", "(I)Z"⟩, prog_9_method_13_code, 4, (some .boolean))
def y_P_thing : ZMI := (⟨"BesideAnother$Text", "thing", "(I)Z"⟩, prog_9_method_14_code, 3, (some .boolean))
def y_P_isDigit : ZMI := (⟨"BesideAnother$Text", "isDigit", "()Z"⟩, prog_9_method_15_code, 1, (some .boolean))
def y_X_init : ZMI := (⟨"BesideAnother", "<init>", "()V"⟩, prog_1_method_1_code, 2, none)
def y_X_sign : ZMI := (⟨"BesideAnother", "sign", "(I)I"⟩, prog_1_method_2_code, 2, (some .int))
def y_X_end : ZMI := (⟨"BesideAnother", "end", "(I)Z"⟩, prog_1_method_3_code, 2, (some .boolean))
def y_X_book : ZMI := (⟨"BesideAnother", "book", "(I)I"⟩, prog_1_method_4_code, 6, (some .int))
def y_X_rule : ZMI := (⟨"BesideAnother", "rule", "()I"⟩, prog_1_method_5_code, 2, (some .int))
def y_X_set : ZMI := (⟨"BesideAnother", "set", "(III)I"⟩, prog_1_method_6_code, 5, (some .int))
def y_X_sheet : ZMI := (⟨"BesideAnother", "sheet", "(IIII)I"⟩, prog_1_method_7_code, 9, (some .int))
def y_X_entry : ZMI := (⟨"BesideAnother", "entry", "(II)I"⟩, prog_1_method_8_code, 3, (some .int))
def y_X_about : ZMI := (⟨"BesideAnother", "about", "(II)I"⟩, prog_1_method_9_code, 4, (some .int))
def y_X_open : ZMI := (⟨"BesideAnother", "open", "(I)I"⟩, prog_1_method_10_code, 2, (some .int))
def y_X_value : ZMI := (⟨"BesideAnother", "value", "(II)I"⟩, prog_1_method_11_code, 4, (some .int))
def y_X_act : ZMI := (⟨"BesideAnother", "act", "(I)I"⟩, prog_1_method_12_code, 3, (some .int))
def y_X_make : ZMI := (⟨"BesideAnother", "make", "(I)I"⟩, prog_1_method_13_code, 5, (some .int))
def y_X_why : ZMI := (⟨"BesideAnother", "why", "(I)I"⟩, prog_1_method_14_code, 2, (some .int))
def y_X_can : ZMI := (⟨"BesideAnother", "can", "()I"⟩, prog_1_method_15_code, 6, (some .int))
def y_X_night : ZMI := (⟨"BesideAnother", "night", "(I)I"⟩, prog_1_method_16_code, 3, (some .int))
def y_X_judge : ZMI := (⟨"BesideAnother", "judge", "(III)I"⟩, prog_1_method_17_code, 9, (some .int))
def y_X_spentBy : ZMI := (⟨"BesideAnother", "spentBy", "([I)I"⟩, prog_1_method_18_code, 4, (some .int))
def y_X_reader : ZMI := (⟨"BesideAnother", "reader", "(II)I"⟩, prog_1_method_19_code, 3, (some .int))
def y_X_sit : ZMI := (⟨"BesideAnother", "sit", "(II)I"⟩, prog_1_method_20_code, 4, (some .int))
def y_X_read : ZMI := (⟨"BesideAnother", "read", "(II)I"⟩, prog_1_method_21_code, 3, (some .int))
def y_X_finishBook : ZMI := (⟨"BesideAnother", "finishBook", "(LBesideAnother$Reader;I)V"⟩, prog_1_method_22_code, 3, none)
def y_X_of : ZMI := (⟨"BesideAnother", "of", "(II)I"⟩, prog_1_method_23_code, 4, (some .int))
def y_X_hours : ZMI := (⟨"BesideAnother", "hours", "(I)I"⟩, prog_1_method_24_code, 5, (some .int))
def y_X_satisfied : ZMI := (⟨"BesideAnother", "satisfied", "()I"⟩, prog_1_method_25_code, 3, (some .int))
def y_X_lineUp : ZMI := (⟨"BesideAnother", "lineUp", "()V"⟩, prog_1_method_26_code, 4, none)
def y_X_turn : ZMI := (⟨"BesideAnother", "turn", "(I)Z"⟩, prog_1_method_27_code, 7, (some .boolean))
def y_X_leading : ZMI := (⟨"BesideAnother", "leading", "(IILBesideAnother$Reader;)I"⟩, prog_1_method_28_code, 9, (some .int))
def y_X_note : ZMI := (⟨"BesideAnother", "note", "(III)V"⟩, prog_1_method_29_code, 4, none)
def y_X_log : ZMI := (⟨"BesideAnother", "log", "(I)I"⟩, prog_1_method_30_code, 2, (some .int))
def y_X_logKept : ZMI := (⟨"BesideAnother", "logKept", "()I"⟩, prog_1_method_31_code, 1, (some .int))
def y_X_order : ZMI := (⟨"BesideAnother", "order", "()I"⟩, prog_1_method_32_code, 2, (some .int))
def y_X_ring : ZMI := (⟨"BesideAnother", "ring", "()I"⟩, prog_1_method_33_code, 4, (some .int))
def y_X_tellRing : ZMI := (⟨"BesideAnother", "tellRing", "(I)I"⟩, prog_1_method_34_code, 6, (some .int))
def y_X_ringFrom : ZMI := (⟨"BesideAnother", "ringFrom", "(II)I"⟩, prog_1_method_35_code, 6, (some .int))
def y_X_needs : ZMI := (⟨"BesideAnother", "needs", "(II)I"⟩, prog_1_method_36_code, 3, (some .int))
def y_X_bars : ZMI := (⟨"BesideAnother", "bars", "(II)I"⟩, prog_1_method_37_code, 3, (some .int))
def y_X_least : ZMI := (⟨"BesideAnother", "least", "(II)I"⟩, prog_1_method_38_code, 3, (some .int))
def y_X_look : ZMI := (⟨"BesideAnother", "look", "(II)V"⟩, prog_1_method_39_code, 5, none)
def y_X_knot : ZMI := (⟨"BesideAnother", "knot", "(I)I"⟩, prog_1_method_40_code, 3, (some .int))
def y_X_hold : ZMI := (⟨"BesideAnother", "hold", "(I)I"⟩, prog_1_method_41_code, 5, (some .int))
def y_X_comes : ZMI := (⟨"BesideAnother", "comes", "(I)I"⟩, prog_1_method_42_code, 2, (some .int))
def y_X_searchTable : ZMI := (⟨"BesideAnother", "searchTable", "(I)V"⟩, prog_1_method_43_code, 2, none)
def y_X_tellReach : ZMI := (⟨"BesideAnother", "tellReach", "()I"⟩, prog_1_method_44_code, 1, (some .int))
def y_X_together : ZMI := (⟨"BesideAnother", "together", "(II)I"⟩, prog_1_method_45_code, 3, (some .int))
def y_X_tellWay : ZMI := (⟨"BesideAnother", "tellWay", "(I)I"⟩, prog_1_method_46_code, 5, (some .int))
def y_X_frees : ZMI := (⟨"BesideAnother", "frees", "(I)I"⟩, prog_1_method_47_code, 7, (some .int))
def y_X_keeps : ZMI := (⟨"BesideAnother", "keeps", "(II)I"⟩, prog_1_method_48_code, 8, (some .int))
def y_X_finish : ZMI := (⟨"BesideAnother", "finish", "(II)I"⟩, prog_1_method_49_code, 5, (some .int))
def y_X_tellMissing : ZMI := (⟨"BesideAnother", "tellMissing", "(I)I"⟩, prog_1_method_50_code, 2, (some .int))
def y_X_reach : ZMI := (⟨"BesideAnother", "reach", "()I"⟩, prog_1_method_51_code, 1, (some .int))
def y_X_searchFrom : ZMI := (⟨"BesideAnother", "searchFrom", "(J)Z"⟩, prog_1_method_52_code, 3, (some .boolean))
def y_X_soonest : ZMI := (⟨"BesideAnother", "soonest", "(I)I"⟩, prog_1_method_53_code, 2, (some .int))
def y_X_till : ZMI := (⟨"BesideAnother", "till", "(III)I"⟩, prog_1_method_54_code, 4, (some .int))
def y_X_lost : ZMI := (⟨"BesideAnother", "lost", "()I"⟩, prog_1_method_55_code, 5, (some .int))
def y_X_free : ZMI := (⟨"BesideAnother", "free", "()I"⟩, prog_1_method_56_code, 3, (some .int))
def y_X_keep : ZMI := (⟨"BesideAnother", "keep", "(I)Z"⟩, prog_1_method_57_code, 4, (some .boolean))
def y_X_again : ZMI := (⟨"BesideAnother", "again", "(I)Z"⟩, prog_1_method_58_code, 5, (some .boolean))
def y_X_count : ZMI := (⟨"BesideAnother", "count", "(I)I"⟩, prog_1_method_59_code, 2, (some .int))
def y_X_row : ZMI := (⟨"BesideAnother", "row", "(I)I"⟩, prog_1_method_60_code, 2, (some .int))
def y_X_tell : ZMI := (⟨"BesideAnother", "tell", "(I)V"⟩, prog_1_method_61_code, 2, none)
def y_X_isTable : ZMI := (⟨"BesideAnother", "isTable", "(I)Z"⟩, prog_1_method_62_code, 1, (some .boolean))
def y_X_isReader : ZMI := (⟨"BesideAnother", "isReader", "(I)Z"⟩, prog_1_method_63_code, 2, (some .boolean))
def y_X_lowest : ZMI := (⟨"BesideAnother", "lowest", "(I)I"⟩, prog_1_method_64_code, 2, (some .int))
def y_X_on : ZMI := (⟨"BesideAnother", "on", "(JI)I"⟩, prog_1_method_65_code, 3, (some .int))
def y_X_with : ZMI := (⟨"BesideAnother", "with", "(JII)J"⟩, prog_1_method_66_code, 5, (some .long))
def y_X_anywhere : ZMI := (⟨"BesideAnother", "anywhere", "(J)I"⟩, prog_1_method_67_code, 2, (some .int))
def y_X_tableOf : ZMI := (⟨"BesideAnother", "tableOf", "(JI)I"⟩, prog_1_method_68_code, 4, (some .int))
def y_M_thrown : ZMI := (⟨"BesideAnotherModel", "thrown", "()I"⟩, prog_11_method_1_code, 1, (some .int))
def y_M_refuse : ZMI := (⟨"BesideAnotherModel", "refuse", "()I"⟩, prog_11_method_2_code, 1, (some .int))
def y_M_in : ZMI := (⟨"BesideAnotherModel", "in", "(JJJ)Z"⟩, prog_11_method_3_code, 6, (some .boolean))
def y_M_has : ZMI := (⟨"BesideAnotherModel", "has", "(II)Z"⟩, prog_11_method_4_code, 2, (some .boolean))
def y_M_flag : ZMI := (⟨"BesideAnotherModel", "flag", "(Z)I"⟩, prog_11_method_5_code, 1, (some .int))
def y_M_enters : ZMI := (⟨"BesideAnotherModel", "enters", "(I)V"⟩, prog_11_method_6_code, 2, none)
def y_M_isBook : ZMI := (⟨"BesideAnotherModel", "isBook", "(I)Z"⟩, prog_11_method_7_code, 2, (some .boolean))
def y_M_isTable : ZMI := (⟨"BesideAnotherModel", "isTable", "(I)Z"⟩, prog_11_method_8_code, 1, (some .boolean))
def y_M_isReader : ZMI := (⟨"BesideAnotherModel", "isReader", "(I)Z"⟩, prog_11_method_9_code, 2, (some .boolean))
def y_M_areBooks : ZMI := (⟨"BesideAnotherModel", "areBooks", "(I)Z"⟩, prog_11_method_10_code, 2, (some .boolean))
def y_M_readBy : ZMI := (⟨"BesideAnotherModel", "readBy", "(I)I"⟩, prog_11_method_11_code, 4, (some .int))
def y_M_sign : ZMI := (⟨"BesideAnotherModel", "sign", "(I)I"⟩, prog_11_method_12_code, 3, (some .int))
def y_M_end : ZMI := (⟨"BesideAnotherModel", "end", "(I)Z"⟩, prog_11_method_13_code, 2, (some .boolean))
def y_M_isDigit : ZMI := (⟨"BesideAnotherModel", "isDigit", "()Z"⟩, prog_11_method_14_code, 1, (some .boolean))
def y_M_takes : ZMI := (⟨"BesideAnotherModel", "takes", "(I)Z"⟩, prog_11_method_15_code, 3, (some .boolean))
def y_M_among : ZMI := (⟨"BesideAnotherModel", "among", "(Ljava/lang/String;)I"⟩, prog_11_method_16_code, 3, (some .int))
def y_M_marks : ZMI := (⟨"BesideAnotherModel", "marks", "(I)V"⟩, prog_11_method_17_code, 2, none)
def y_M_thing : ZMI := (⟨"BesideAnotherModel", "thing", "()Z"⟩, prog_11_method_18_code, 2, (some .boolean))
def y_M_ahead : ZMI := (⟨"BesideAnotherModel", "ahead", "()Z"⟩, prog_11_method_19_code, 2, (some .boolean))
def y_M_ranked : ZMI := (⟨"BesideAnotherModel", "ranked", "(I)Z"⟩, prog_11_method_20_code, 6, (some .boolean))
def y_M_begins : ZMI := (⟨"BesideAnotherModel", "begins", "(I)I"⟩, prog_11_method_21_code, 3, (some .int))
def y_M_reads : ZMI := (⟨"BesideAnotherModel", "reads", "(I)Z"⟩, prog_11_method_22_code, 2, (some .boolean))
def y_M_faultOf : ZMI := (⟨"BesideAnotherModel", "faultOf", "(IIZ)I"⟩, prog_11_method_23_code, 5, (some .int))
def y_M_lays : ZMI := (⟨"BesideAnotherModel", "lays", "(II)V"⟩, prog_11_method_24_code, 4, none)
def y_M_acted : ZMI := (⟨"BesideAnotherModel", "acted", "(III)I"⟩, prog_11_method_25_code, 4, (some .int))
def y_M_signOf : ZMI := (⟨"BesideAnotherModel", "signOf", "(IIII)I"⟩, prog_11_method_26_code, 5, (some .int))
def y_M_works : ZMI := (⟨"BesideAnotherModel", "works", "(IIII)I"⟩, prog_11_method_27_code, 8, (some .int))
def y_M_isSecond : ZMI := (⟨"BesideAnotherModel", "isSecond", "(I)Z"⟩, prog_11_method_28_code, 2, (some .boolean))
def y_M_conditionOf : ZMI := (⟨"BesideAnotherModel", "conditionOf", "(III)I"⟩, prog_11_method_29_code, 4, (some .int))
def y_M_may : ZMI := (⟨"BesideAnotherModel", "may", "(III)Z"⟩, prog_11_method_30_code, 4, (some .boolean))
def y_M_settled : ZMI := (⟨"BesideAnotherModel", "settled", "(II)I"⟩, prog_11_method_31_code, 6, (some .int))
def y_M_tableOf : ZMI := (⟨"BesideAnotherModel", "tableOf", "(I)I"⟩, prog_11_method_32_code, 3, (some .int))
def y_M_book : ZMI := (⟨"BesideAnotherModel", "book", "(I)I"⟩, prog_11_method_33_code, 8, (some .int))
def y_M_rule : ZMI := (⟨"BesideAnotherModel", "rule", "()I"⟩, prog_11_method_34_code, 4, (some .int))
def y_M_set : ZMI := (⟨"BesideAnotherModel", "set", "(III)I"⟩, prog_11_method_35_code, 7, (some .int))
def y_M_sheet : ZMI := (⟨"BesideAnotherModel", "sheet", "(IIII)I"⟩, prog_11_method_36_code, 9, (some .int))
def y_M_about : ZMI := (⟨"BesideAnotherModel", "about", "(II)I"⟩, prog_11_method_37_code, 3, (some .int))
def y_M_open : ZMI := (⟨"BesideAnotherModel", "open", "(I)I"⟩, prog_11_method_38_code, 2, (some .int))
def y_M_value : ZMI := (⟨"BesideAnotherModel", "value", "(II)I"⟩, prog_11_method_39_code, 3, (some .int))
def y_M_isAct : ZMI := (⟨"BesideAnotherModel", "isAct", "(I)Z"⟩, prog_11_method_40_code, 2, (some .boolean))
def y_M_whyNot : ZMI := (⟨"BesideAnotherModel", "whyNot", "(I)I"⟩, prog_11_method_41_code, 4, (some .int))
def y_M_noPlace : ZMI := (⟨"BesideAnotherModel", "noPlace", "(II)I"⟩, prog_11_method_42_code, 3, (some .int))
def y_M_shut : ZMI := (⟨"BesideAnotherModel", "shut", "(I)I"⟩, prog_11_method_43_code, 4, (some .int))
def y_M_opens : ZMI := (⟨"BesideAnotherModel", "opens", "(II)I"⟩, prog_11_method_44_code, 4, (some .int))
def y_M_makes : ZMI := (⟨"BesideAnotherModel", "makes", "(I)I"⟩, prog_11_method_45_code, 4, (some .int))
def y_M_act : ZMI := (⟨"BesideAnotherModel", "act", "(I)I"⟩, prog_11_method_46_code, 3, (some .int))
def y_M_why : ZMI := (⟨"BesideAnotherModel", "why", "(I)I"⟩, prog_11_method_47_code, 2, (some .int))
def y_M_can : ZMI := (⟨"BesideAnotherModel", "can", "()I"⟩, prog_11_method_48_code, 3, (some .int))
def y_M_night : ZMI := (⟨"BesideAnotherModel", "night", "(I)I"⟩, prog_11_method_49_code, 4, (some .int))
def y_M_putsBy : ZMI := (⟨"BesideAnotherModel", "putsBy", "()V"⟩, prog_11_method_50_code, 2, none)
def y_M_putsBack : ZMI := (⟨"BesideAnotherModel", "putsBack", "()V"⟩, prog_11_method_51_code, 2, none)
def y_M_judge : ZMI := (⟨"BesideAnotherModel", "judge", "(III)I"⟩, prog_11_method_52_code, 7, (some .int))
def y_M_reader : ZMI := (⟨"BesideAnotherModel", "reader", "(II)I"⟩, prog_11_method_53_code, 3, (some .int))
def y_M_sit : ZMI := (⟨"BesideAnotherModel", "sit", "(II)I"⟩, prog_11_method_54_code, 4, (some .int))
def y_M_hasRead : ZMI := (⟨"BesideAnotherModel", "hasRead", "(II)I"⟩, prog_11_method_55_code, 4, (some .int))
def y_M_read : ZMI := (⟨"BesideAnotherModel", "read", "(II)I"⟩, prog_11_method_56_code, 3, (some .int))
def y_M_leftOf : ZMI := (⟨"BesideAnotherModel", "leftOf", "(I)I"⟩, prog_11_method_57_code, 2, (some .int))
def y_M_of : ZMI := (⟨"BesideAnotherModel", "of", "(II)I"⟩, prog_11_method_58_code, 3, (some .int))
def y_M_ruleOf : ZMI := (⟨"BesideAnotherModel", "ruleOf", "(I)I"⟩, prog_11_method_59_code, 2, (some .int))
def y_M_ranks : ZMI := (⟨"BesideAnotherModel", "ranks", "()V"⟩, prog_11_method_60_code, 5, none)
def y_M_notes : ZMI := (⟨"BesideAnotherModel", "notes", "(I)V"⟩, prog_11_method_61_code, 3, none)
def y_M_firstOpen : ZMI := (⟨"BesideAnotherModel", "firstOpen", "(II)I"⟩, prog_11_method_62_code, 4, (some .int))
def y_M_helps : ZMI := (⟨"BesideAnotherModel", "helps", "(III)Z"⟩, prog_11_method_63_code, 5, (some .boolean))
def y_M_does : ZMI := (⟨"BesideAnotherModel", "does", "(I)I"⟩, prog_11_method_64_code, 7, (some .int))
def y_M_goesHour : ZMI := (⟨"BesideAnotherModel", "goesHour", "()Z"⟩, prog_11_method_65_code, 4, (some .boolean))
def y_M_hours : ZMI := (⟨"BesideAnotherModel", "hours", "(I)I"⟩, prog_11_method_66_code, 6, (some .int))
def y_M_log : ZMI := (⟨"BesideAnotherModel", "log", "(I)I"⟩, prog_11_method_67_code, 2, (some .int))
def y_M_order : ZMI := (⟨"BesideAnotherModel", "order", "()I"⟩, prog_11_method_68_code, 2, (some .int))
def y_M_rings : ZMI := (⟨"BesideAnotherModel", "rings", "(III)Z"⟩, prog_11_method_69_code, 6, (some .boolean))
def y_M_tellsRing : ZMI := (⟨"BesideAnotherModel", "tellsRing", "(II)I"⟩, prog_11_method_70_code, 6, (some .int))
def y_M_ring : ZMI := (⟨"BesideAnotherModel", "ring", "()I"⟩, prog_11_method_71_code, 3, (some .int))
def y_M_looks : ZMI := (⟨"BesideAnotherModel", "looks", "(II)Z"⟩, prog_11_method_72_code, 5, (some .boolean))
def y_M_needs : ZMI := (⟨"BesideAnotherModel", "needs", "(II)I"⟩, prog_11_method_73_code, 3, (some .int))
def y_M_bars : ZMI := (⟨"BesideAnotherModel", "bars", "(II)I"⟩, prog_11_method_74_code, 3, (some .int))
def y_M_least : ZMI := (⟨"BesideAnotherModel", "least", "(II)I"⟩, prog_11_method_75_code, 3, (some .int))
def y_M_knot : ZMI := (⟨"BesideAnotherModel", "knot", "(I)I"⟩, prog_11_method_76_code, 4, (some .int))
def y_M_nextOf : ZMI := (⟨"BesideAnotherModel", "nextOf", "(II)I"⟩, prog_11_method_77_code, 3, (some .int))
def y_M_laysOut : ZMI := (⟨"BesideAnotherModel", "laysOut", "(I)V"⟩, prog_11_method_78_code, 5, none)
def y_M_spreads : ZMI := (⟨"BesideAnotherModel", "spreads", "(I)V"⟩, prog_11_method_79_code, 6, none)
def y_M_everOpen : ZMI := (⟨"BesideAnotherModel", "everOpen", "()I"⟩, prog_11_method_80_code, 3, (some .int))
def y_M_hold : ZMI := (⟨"BesideAnotherModel", "hold", "(I)I"⟩, prog_11_method_81_code, 5, (some .int))
def y_M_comes : ZMI := (⟨"BesideAnotherModel", "comes", "(I)I"⟩, prog_11_method_82_code, 2, (some .int))
def y_M_tellsWay : ZMI := (⟨"BesideAnotherModel", "tellsWay", "(II)V"⟩, prog_11_method_83_code, 7, none)
def y_M_together : ZMI := (⟨"BesideAnotherModel", "together", "(II)I"⟩, prog_11_method_84_code, 4, (some .int))
def y_M_frees : ZMI := (⟨"BesideAnotherModel", "frees", "(I)I"⟩, prog_11_method_85_code, 8, (some .int))
def y_M_everAll : ZMI := (⟨"BesideAnotherModel", "everAll", "()V"⟩, prog_11_method_86_code, 6, none)
def y_M_keeps : ZMI := (⟨"BesideAnotherModel", "keeps", "(II)I"⟩, prog_11_method_87_code, 6, (some .int))
def y_M_finish : ZMI := (⟨"BesideAnotherModel", "finish", "(II)I"⟩, prog_11_method_88_code, 5, (some .int))
def y_M_stateNow : ZMI := (⟨"BesideAnotherModel", "stateNow", "()J"⟩, prog_11_method_89_code, 1, (some .long))
def y_M_setOf : ZMI := (⟨"BesideAnotherModel", "setOf", "(JI)I"⟩, prog_11_method_90_code, 3, (some .int))
def y_M_everyOf : ZMI := (⟨"BesideAnotherModel", "everyOf", "(J)I"⟩, prog_11_method_91_code, 2, (some .int))
def y_M_stands : ZMI := (⟨"BesideAnotherModel", "stands", "(J)V"⟩, prog_11_method_92_code, 4, none)
def y_M_slotOf : ZMI := (⟨"BesideAnotherModel", "slotOf", "(J)I"⟩, prog_11_method_93_code, 4, (some .int))
def y_M_numberOf : ZMI := (⟨"BesideAnotherModel", "numberOf", "(JII)I"⟩, prog_11_method_94_code, 6, (some .int))
def y_M_explores : ZMI := (⟨"BesideAnotherModel", "explores", "(J)Z"⟩, prog_11_method_95_code, 8, (some .boolean))
def y_M_everFound : ZMI := (⟨"BesideAnotherModel", "everFound", "()I"⟩, prog_11_method_96_code, 3, (some .int))
def y_M_reach : ZMI := (⟨"BesideAnotherModel", "reach", "()I"⟩, prog_11_method_97_code, 1, (some .int))
def y_M_tellsTo : ZMI := (⟨"BesideAnotherModel", "tellsTo", "(I)I"⟩, prog_11_method_98_code, 4, (some .int))
def y_M_soonest : ZMI := (⟨"BesideAnotherModel", "soonest", "(I)I"⟩, prog_11_method_99_code, 3, (some .int))
def y_M_till : ZMI := (⟨"BesideAnotherModel", "till", "(III)I"⟩, prog_11_method_100_code, 5, (some .int))
def y_M_lost : ZMI := (⟨"BesideAnotherModel", "lost", "()I"⟩, prog_11_method_101_code, 8, (some .int))
def y_M_free : ZMI := (⟨"BesideAnotherModel", "free", "()I"⟩, prog_11_method_102_code, 5, (some .int))
def y_M_keep : ZMI := (⟨"BesideAnotherModel", "keep", "(I)Z"⟩, prog_11_method_103_code, 4, (some .boolean))
def y_M_again : ZMI := (⟨"BesideAnotherModel", "again", "(I)Z"⟩, prog_11_method_104_code, 4, (some .boolean))
def y_M_count : ZMI := (⟨"BesideAnotherModel", "count", "(I)I"⟩, prog_11_method_105_code, 2, (some .int))
def y_M_init : ZMI := (⟨"BesideAnotherModel", "<init>", "()V"⟩, prog_11_method_106_code, 1, none)
def y_M_row : ZMI := (⟨"BesideAnotherModel", "row", "(I)I"⟩, prog_11_method_107_code, 2, (some .int))
def y_J_numberOfTrailingZeros : ZMI := (⟨"java/lang/Integer", "numberOfTrailingZeros", "(I)I"⟩, prog_16_method_48_code, 2, (some .int))
def y_J_bitCount : ZMI := (⟨"java/lang/Integer", "bitCount", "(I)I"⟩, prog_16_method_49_code, 1, (some .int))
def y_Js_length : ZMI := (⟨"java/lang/String", "length", "()I"⟩, prog_19_method_54_code, 1, (some .int))
def y_Js_charAt : ZMI := (⟨"java/lang/String", "charAt", "(I)C"⟩, prog_19_method_56_code, 2, (some .char))
def y_Js_coder : ZMI := (⟨"java/lang/String", "coder", "()B"⟩, prog_19_method_152_code, 1, (some .byte))
def y_Js_isLatin1 : ZMI := (⟨"java/lang/String", "isLatin1", "()Z"⟩, prog_19_method_154_code, 1, (some .boolean))
def y_Js_checkIndex : ZMI := (⟨"java/lang/String", "checkIndex", "(II)V"⟩, prog_19_method_155_code, 2, none)
def y_Jl_charAt : ZMI := (⟨"java/lang/StringLatin1", "charAt", "([BI)C"⟩, prog_20_method_2_code, 2, (some .char))
def y_Jp_checkIndex : ZMI := (⟨"jdk/internal/util/Preconditions", "checkIndex", "(IILjava/util/function/BiFunction;)I"⟩, prog_27_method_11_code, 3, (some .int))
def y_L_about : ZMI := (⟨"BesideAnotherLaw", "about", "(LBesideAnother;II[J)I"⟩, method_3_code, 5, (some .int))
def y_L_value : ZMI := (⟨"BesideAnotherLaw", "value", "(LBesideAnother;II[J)I"⟩, method_4_code, 5, (some .int))
def y_L_of : ZMI := (⟨"BesideAnotherLaw", "of", "(LBesideAnother;II[J)I"⟩, method_5_code, 5, (some .int))
def y_L_row : ZMI := (⟨"BesideAnotherLaw", "row", "(LBesideAnother;I[J)I"⟩, method_6_code, 4, (some .int))
def y_L_law : ZMI := (⟨"BesideAnotherLaw", "law", "([I)Z"⟩, code, 7, (some .boolean))
theorem z_C0 : ZCL 0 z_R0 z_F0 6 := ⟨rfl, by decide +kernel, rfl, ⟨z_y0, z_ty0⟩, z_nm0⟩
theorem z_C1 : ZCL 1 z_R1 z_F1 3 := ⟨rfl, by decide +kernel, rfl, ⟨z_y1, z_ty1⟩, z_nm1⟩
theorem z_C2 : ZCL 2 z_R2 z_F2 9 := ⟨rfl, by decide +kernel, rfl, ⟨z_y2, z_ty2⟩, z_nm2⟩
theorem z_C3 : ZCL 3 z_R3 z_F3 4 := ⟨rfl, by decide +kernel, rfl, ⟨z_y3, z_ty3⟩, z_nm3⟩
theorem z_C4 : ZCL 4 z_R4 z_F4 10 := ⟨rfl, by decide +kernel, rfl, ⟨z_y4, z_ty4⟩, z_nm4⟩
theorem z_C5 : ZCL 5 z_R5 z_F5 5 := ⟨rfl, by decide +kernel, rfl, ⟨z_y5, z_ty5⟩, z_nm5⟩
theorem z_C6 : ZCL 6 z_R6 z_F6 6 := ⟨rfl, by decide +kernel, rfl, ⟨z_y6, z_ty6⟩, z_nm6⟩
theorem z_C7 : ZCL 7 z_R7 z_F7 8 := ⟨rfl, by decide +kernel, rfl, ⟨z_y7, z_ty7⟩, z_nm7⟩
theorem z_C8 : ZCL 8 z_R8 z_F8 19 := ⟨rfl, by decide +kernel, rfl, ⟨z_y8, z_ty8⟩, z_nm8⟩
theorem z_C9 : ZCL 9 z_R9 z_F9 53 := ⟨rfl, by decide +kernel, rfl, ⟨z_y9, z_ty9⟩, z_nm9⟩
theorem zo_0 : z_isO 0 9 = true := by decide +kernel
theorem zo_1 : z_isO 1 8 = true := by decide +kernel
theorem za_102 : z_isA 1 102 20 = true := by decide +kernel
theorem za_104 : z_isA 1 104 12 = true := by decide +kernel
theorem za_105 : z_isA 1 105 12 = true := by decide +kernel
theorem za_106 : z_isA 1 106 12 = true := by decide +kernel
theorem za_107 : z_isA 1 107 3 = true := by decide +kernel
theorem za_108 : z_isA 1 108 3 = true := by decide +kernel
theorem za_110 : z_isA 1 110 6 = true := by decide +kernel
theorem za_111 : z_isA 1 111 6 = true := by decide +kernel
theorem za_112 : z_isA 1 112 6 = true := by decide +kernel
theorem za_113 : z_isA 1 113 6 = true := by decide +kernel
theorem za_114 : z_isA 1 114 1728 = true := by decide +kernel
theorem za_115 : z_isA 1 115 27 = true := by decide +kernel
theorem za_116 : z_isA 1 116 64 = true := by decide +kernel
theorem za_117 : z_isA 1 117 80 = true := by decide +kernel
theorem za_123 : z_isA 1 123 3 = true := by decide +kernel
theorem za_124 : z_isA 1 124 12 = true := by decide +kernel
theorem za_125 : z_isA 1 125 6 = true := by decide +kernel
theorem za_126 : z_isA 1 126 6 = true := by decide +kernel
theorem za_128 : z_isA 1 128 60 = true := by decide +kernel
theorem za_130 : z_isA 1 130 12 = true := by decide +kernel
theorem za_131 : z_isA 1 131 12 = true := by decide +kernel
theorem za_136 : z_isA 1 136 98304 = true := by decide +kernel
theorem za_137 : z_isA 1 137 4096 = true := by decide +kernel
theorem za_138 : z_isA 1 138 4096 = true := by decide +kernel
theorem za_139 : z_isA 1 139 4096 = true := by decide +kernel
theorem za_141 : z_isA 1 141 5000 = true := by decide +kernel
theorem za_142 : z_isA 1 142 4096 = true := by decide +kernel
theorem za_143 : z_isA 2 143 5000 = true := by decide +kernel
theorem za_144 : z_isA 1 144 5000 = true := by decide +kernel
theorem za_145 : z_isA 1 145 5000 = true := by decide +kernel
theorem za_146 : z_isA 1 146 5000 = true := by decide +kernel
theorem za_147 : z_isA 1 147 180000 = true := by decide +kernel
theorem za_148 : z_isA 1 148 16384 = true := by decide +kernel
theorem za_150 : z_isA 1 150 5000 = true := by decide +kernel
theorem za_151 : z_isA 3 151 3 = true := by decide +kernel
theorem za_152 : z_isA 1 152 273 = true := by decide +kernel
theorem zo_200 : z_isO 200 7 = true := by decide +kernel
theorem zo_201 : z_isO 201 6 = true := by decide +kernel
theorem zo_202 : z_isO 202 4 = true := by decide +kernel
theorem zo_203 : z_isO 203 5 = true := by decide +kernel
theorem za_205 : z_isA 5 205 6 = true := by decide +kernel
theorem za_206 : z_isA 6 206 3 = true := by decide +kernel
theorem za_210 : z_isA 1 210 60 = true := by decide +kernel
theorem za_212 : z_isA 1 212 12 = true := by decide +kernel
theorem za_214 : z_isA 1 214 6 = true := by decide +kernel
theorem za_215 : z_isA 1 215 6 = true := by decide +kernel
theorem za_216 : z_isA 1 216 12 = true := by decide +kernel
theorem za_217 : z_isA 1 217 12 = true := by decide +kernel
theorem za_218 : z_isA 1 218 13 = true := by decide +kernel
theorem za_224 : z_isA 1 224 80 = true := by decide +kernel
theorem za_240 : z_isA 4 240 12 = true := by decide +kernel
theorem za_241 : z_isA 1 241 3 = true := by decide +kernel
theorem za_243 : z_isA 1 243 12288 = true := by decide +kernel
theorem za_244 : z_isA 1 244 12288 = true := by decide +kernel
theorem za_260 : z_isA 2 260 5000 = true := by decide +kernel
theorem za_261 : z_isA 1 261 5000 = true := by decide +kernel
theorem za_262 : z_isA 1 262 5000 = true := by decide +kernel
theorem za_263 : z_isA 1 263 5000 = true := by decide +kernel
theorem za_264 : z_isA 1 264 5000 = true := by decide +kernel
theorem za_266 : z_isA 1 266 16384 = true := by decide +kernel
theorem za_267 : z_isA 1 267 5000 = true := by decide +kernel
theorem za_268 : z_isA 1 268 5001 = true := by decide +kernel
theorem za_269 : z_isA 1 269 180000 = true := by decide +kernel
theorem zo_352 : z_isO 352 1 = true := by decide +kernel
theorem zo_353 : z_isO 353 1 = true := by decide +kernel
theorem zo_354 : z_isO 354 1 = true := by decide +kernel
theorem za_550 : z_isA 2 550 1 = true := by decide +kernel
theorem z_all {P : Nat → Prop} (h : ∀ i ∈ z_ids, P i) {o c : Nat} (ho : z_isO o c = true) : P o := h o (z_isO_id ho).1
theorem ze_c {o : Nat} (h : z_isO o 1 = true) : z_isA 1 (o + 80) 60 = true := z_all (P := fun o => z_isO o 1 = true → z_isA 1 (o + 80) 60 = true) (by decide +kernel) h h
theorem ze_s {o : Nat} (h : z_isO o 1 = true) : z_isA 1 (o + 120) 60 = true := z_all (P := fun o => z_isO o 1 = true → z_isA 1 (o + 120) 60 = true) (by decide +kernel) h h
theorem zk_l {o : Nat} (h : z_isO o 2 = true) : z_isA 1 (o + 10) 60 = true := z_all (P := fun o => z_isO o 2 = true → z_isA 1 (o + 10) 60 = true) (by decide +kernel) h h
theorem zk_o {o : Nat} (h : z_isO o 2 = true) : z_isA 1 (o + 15) 12 = true := z_all (P := fun o => z_isO o 2 = true → z_isA 1 (o + 15) 12 = true) (by decide +kernel) h h
theorem zk_t {o : Nat} (h : z_isO o 2 = true) : z_isA 1 (o + 20) 6 = true := z_all (P := fun o => z_isO o 2 = true → z_isA 1 (o + 20) 6 = true) (by decide +kernel) h h
theorem zk_r {o : Nat} (h : z_isO o 2 = true) : z_isA 1 (o + 25) 6 = true := z_all (P := fun o => z_isO o 2 = true → z_isA 1 (o + 25) 6 = true) (by decide +kernel) h h
theorem zb_f {o : Nat} (h : z_isO o 0 = true) : z_isO (o + 20) 1 = true := z_all (P := fun o => z_isO o 0 = true → z_isO (o + 20) 1 = true) (by decide +kernel) h h
theorem zb_s {o : Nat} (h : z_isO o 0 = true) : z_isO (o + 40) 1 = true := z_all (P := fun o => z_isO o 0 = true → z_isO (o + 40) 1 = true) (by decide +kernel) h h
theorem z_inb {i : Int32} {n : Nat} (h : inb i n = true) : i.toNatClampNeg < n := (of_decide_eq_true h).2
theorem zr_b {i : Int32} (h : inb i 12 = true) : z_isO (z_ra 240 i.toNatClampNeg) 0 = true := by
  have h1 := z_inb h
  generalize i.toNatClampNeg = k at h1
  revert k; decide +kernel
theorem zr_r {i : Int32} (h : inb i 6 = true) : z_isO (z_ra 205 i.toNatClampNeg) 3 = true := by
  have h1 := z_inb h
  generalize i.toNatClampNeg = k at h1
  revert k; decide +kernel
theorem zr_k {i : Int32} (h : inb i 3 = true) : z_isO (z_ra 206 i.toNatClampNeg) 2 = true := by
  have h1 := z_inb h
  generalize i.toNatClampNeg = k at h1
  revert k; decide +kernel
theorem zf_X_12 : ZFL "BesideAnother" 12 8 0 := ⟨z_R8, z_F8, 19, z_C8, by decide, (gwc2 40 rfl rfl)⟩
theorem zf_X_19 : ZFL "BesideAnother" 19 8 1 := ⟨z_R8, z_F8, 19, z_C8, by decide, (gwc2 41 rfl rfl)⟩
theorem zf_X_26 : ZFL "BesideAnother" 26 8 2 := ⟨z_R8, z_F8, 19, z_C8, by decide, (gwc2 42 rfl rfl)⟩
theorem zf_X_33 : ZFL "BesideAnother" 33 8 3 := ⟨z_R8, z_F8, 19, z_C8, by decide, (gwc2 43 rfl rfl)⟩
theorem zf_X_40 : ZFL "BesideAnother" 40 8 4 := ⟨z_R8, z_F8, 19, z_C8, by decide, (gwc2 44 rfl rfl)⟩
theorem zf_X_46 : ZFL "BesideAnother" 46 8 5 := ⟨z_R8, z_F8, 19, z_C8, by decide, (gwc2 45 rfl rfl)⟩
theorem zf_X_52 : ZFL "BesideAnother" 52 8 6 := ⟨z_R8, z_F8, 19, z_C8, by decide, (gwc2 46 rfl rfl)⟩
theorem zf_X_56 : ZFL "BesideAnother" 56 8 10 := ⟨z_R8, z_F8, 19, z_C8, by decide, (gwc2 50 rfl rfl)⟩
theorem zf_X_60 : ZFL "BesideAnother" 60 8 12 := ⟨z_R8, z_F8, 19, z_C8, by decide, (gwc2 52 rfl rfl)⟩
theorem zf_X_63 : ZFL "BesideAnother" 63 8 14 := ⟨z_R8, z_F8, 19, z_C8, by decide, (gwc2 54 rfl rfl)⟩
theorem zf_X_66 : ZFL "BesideAnother" 66 8 15 := ⟨z_R8, z_F8, 19, z_C8, by decide, (gwc2 55 rfl rfl)⟩
theorem zf_X_69 : ZFL "BesideAnother" 69 8 16 := ⟨z_R8, z_F8, 19, z_C8, by decide, (gwc2 56 rfl rfl)⟩
theorem zf_X_72 : ZFL "BesideAnother" 72 8 17 := ⟨z_R8, z_F8, 19, z_C8, by decide, (gwc2 57 rfl rfl)⟩
theorem zf_X_75 : ZFL "BesideAnother" 75 8 18 := ⟨z_R8, z_F8, 19, z_C8, by decide, (gwc2 58 rfl rfl)⟩
theorem zf_X_88 : ZFL "BesideAnother" 88 6 2 := ⟨z_R6, z_F6, 6, z_C6, by decide, (gwc1 127 rfl rfl)⟩
theorem zp_X_88 : ZFP "BesideAnother" 88 6 2 .int := ⟨z_R6, z_F6, 6, z_C6, by decide, (gwc1 127 rfl rfl), rfl, by decide +kernel⟩
theorem zf_X_102 : ZFL "BesideAnother" 102 6 0 := ⟨z_R6, z_F6, 6, z_C6, by decide, (gwc1 123 rfl rfl)⟩
theorem zf_X_115 : ZFL "BesideAnother" 115 8 8 := ⟨z_R8, z_F8, 19, z_C8, by decide, (gwc2 48 rfl rfl)⟩
theorem zp_X_115 : ZFP "BesideAnother" 115 8 8 .long := ⟨z_R8, z_F8, 19, z_C8, by decide, (gwc2 48 rfl rfl), rfl, by decide +kernel⟩
theorem zf_X_127 : ZFL "BesideAnother" 127 7 3 := ⟨z_R7, z_F7, 8, z_C7, by decide, (gwc1 61 rfl rfl)⟩
theorem zf_X_131 : ZFL "BesideAnother" 131 7 0 := ⟨z_R7, z_F7, 8, z_C7, by decide, (gwc1 55 rfl rfl)⟩
theorem zf_X_138 : ZFL "BesideAnother" 138 0 3 := ⟨z_R0, z_F0, 6, z_C0, by decide, (gwc1 102 rfl rfl)⟩
theorem zp_X_138 : ZFP "BesideAnother" 138 0 3 .int := ⟨z_R0, z_F0, 6, z_C0, by decide, (gwc1 102 rfl rfl), rfl, by decide +kernel⟩
theorem zf_X_144 : ZFL "BesideAnother" 144 6 1 := ⟨z_R6, z_F6, 6, z_C6, by decide, (gwc1 125 rfl rfl)⟩
theorem zf_X_166 : ZFL "BesideAnother" 166 0 4 := ⟨z_R0, z_F0, 6, z_C0, by decide, (gwc1 105 rfl rfl)⟩
theorem zp_X_166 : ZFP "BesideAnother" 166 0 4 .int := ⟨z_R0, z_F0, 6, z_C0, by decide, (gwc1 105 rfl rfl), rfl, by decide +kernel⟩
theorem zf_X_169 : ZFL "BesideAnother" 169 0 5 := ⟨z_R0, z_F0, 6, z_C0, by decide, (gwc1 108 rfl rfl)⟩
theorem zp_X_169 : ZFP "BesideAnother" 169 0 5 .int := ⟨z_R0, z_F0, 6, z_C0, by decide, (gwc1 108 rfl rfl), rfl, by decide +kernel⟩
theorem zf_X_209 : ZFL "BesideAnother" 209 8 13 := ⟨z_R8, z_F8, 19, z_C8, by decide, (gwc2 53 rfl rfl)⟩
theorem zp_X_209 : ZFP "BesideAnother" 209 8 13 .int := ⟨z_R8, z_F8, 19, z_C8, by decide, (gwc2 53 rfl rfl), rfl, by decide +kernel⟩
theorem zf_X_229 : ZFL "BesideAnother" 229 8 7 := ⟨z_R8, z_F8, 19, z_C8, by decide, (gwc2 47 rfl rfl)⟩
theorem zp_X_229 : ZFP "BesideAnother" 229 8 7 .int := ⟨z_R8, z_F8, 19, z_C8, by decide, (gwc2 47 rfl rfl), rfl, by decide +kernel⟩
theorem zf_X_239 : ZFL "BesideAnother" 239 3 1 := ⟨z_R3, z_F3, 4, z_C3, by decide, (gwc1 229 rfl rfl)⟩
theorem zp_X_239 : ZFP "BesideAnother" 239 3 1 .int := ⟨z_R3, z_F3, 4, z_C3, by decide, (gwc1 229 rfl rfl), rfl, by decide +kernel⟩
theorem zf_X_246 : ZFL "BesideAnother" 246 3 3 := ⟨z_R3, z_F3, 4, z_C3, by decide, (gwc1 233 rfl rfl)⟩
theorem zp_X_246 : ZFP "BesideAnother" 246 3 3 .int := ⟨z_R3, z_F3, 4, z_C3, by decide, (gwc1 233 rfl rfl), rfl, by decide +kernel⟩
theorem zf_X_251 : ZFL "BesideAnother" 251 3 2 := ⟨z_R3, z_F3, 4, z_C3, by decide, (gwc1 231 rfl rfl)⟩
theorem zf_X_265 : ZFL "BesideAnother" 265 8 9 := ⟨z_R8, z_F8, 19, z_C8, by decide, (gwc2 49 rfl rfl)⟩
theorem zp_X_265 : ZFP "BesideAnother" 265 8 9 .int := ⟨z_R8, z_F8, 19, z_C8, by decide, (gwc2 49 rfl rfl), rfl, by decide +kernel⟩
theorem zf_X_287 : ZFL "BesideAnother" 287 8 11 := ⟨z_R8, z_F8, 19, z_C8, by decide, (gwc2 51 rfl rfl)⟩
theorem zp_X_287 : ZFP "BesideAnother" 287 8 11 .int := ⟨z_R8, z_F8, 19, z_C8, by decide, (gwc2 51 rfl rfl), rfl, by decide +kernel⟩
theorem zf_X_302 : ZFL "BesideAnother" 302 5 0 := ⟨z_R5, z_F5, 5, z_C5, by decide, (gwc1 195 rfl rfl)⟩
theorem zf_X_308 : ZFL "BesideAnother" 308 5 1 := ⟨z_R5, z_F5, 5, z_C5, by decide, (gwc1 197 rfl rfl)⟩
theorem zf_X_311 : ZFL "BesideAnother" 311 5 4 := ⟨z_R5, z_F5, 5, z_C5, by decide, (gwc1 203 rfl rfl)⟩
theorem zf_X_314 : ZFL "BesideAnother" 314 5 3 := ⟨z_R5, z_F5, 5, z_C5, by decide, (gwc1 201 rfl rfl)⟩
theorem zf_X_317 : ZFL "BesideAnother" 317 5 2 := ⟨z_R5, z_F5, 5, z_C5, by decide, (gwc1 199 rfl rfl)⟩
theorem zf_X_349 : ZFL "BesideAnother" 349 4 5 := ⟨z_R4, z_F4, 10, z_C4, by decide, (gwc1 161 rfl rfl)⟩
theorem zf_X_356 : ZFL "BesideAnother" 356 4 3 := ⟨z_R4, z_F4, 10, z_C4, by decide, (gwc1 157 rfl rfl)⟩
theorem zf_X_359 : ZFL "BesideAnother" 359 4 2 := ⟨z_R4, z_F4, 10, z_C4, by decide, (gwc1 155 rfl rfl)⟩
theorem zf_X_362 : ZFL "BesideAnother" 362 4 1 := ⟨z_R4, z_F4, 10, z_C4, by decide, (gwc1 153 rfl rfl)⟩
theorem zf_X_371 : ZFL "BesideAnother" 371 4 4 := ⟨z_R4, z_F4, 10, z_C4, by decide, (gwc1 159 rfl rfl)⟩
theorem zf_X_381 : ZFL "BesideAnother" 381 2 0 := ⟨z_R2, z_F2, 9, z_C2, by decide, (gwc2 8 rfl rfl)⟩
theorem zp_X_381 : ZFP "BesideAnother" 381 2 0 .boolean := ⟨z_R2, z_F2, 9, z_C2, by decide, (gwc2 8 rfl rfl), rfl, by decide +kernel⟩
theorem zf_X_385 : ZFL "BesideAnother" 385 2 1 := ⟨z_R2, z_F2, 9, z_C2, by decide, (gwc2 9 rfl rfl)⟩
theorem zp_X_385 : ZFP "BesideAnother" 385 2 1 .long := ⟨z_R2, z_F2, 9, z_C2, by decide, (gwc2 9 rfl rfl), rfl, by decide +kernel⟩
theorem zf_X_388 : ZFL "BesideAnother" 388 2 2 := ⟨z_R2, z_F2, 9, z_C2, by decide, (gwc2 10 rfl rfl)⟩
theorem zp_X_388 : ZFP "BesideAnother" 388 2 2 .int := ⟨z_R2, z_F2, 9, z_C2, by decide, (gwc2 10 rfl rfl), rfl, by decide +kernel⟩
theorem zf_X_391 : ZFL "BesideAnother" 391 2 3 := ⟨z_R2, z_F2, 9, z_C2, by decide, (gwc2 11 rfl rfl)⟩
theorem zp_X_391 : ZFP "BesideAnother" 391 2 3 .int := ⟨z_R2, z_F2, 9, z_C2, by decide, (gwc2 11 rfl rfl), rfl, by decide +kernel⟩
theorem zf_X_392 : ZFL "BesideAnother" 392 2 4 := ⟨z_R2, z_F2, 9, z_C2, by decide, (gwc2 12 rfl rfl)⟩
theorem zp_X_392 : ZFP "BesideAnother" 392 2 4 .int := ⟨z_R2, z_F2, 9, z_C2, by decide, (gwc2 12 rfl rfl), rfl, by decide +kernel⟩
theorem zf_X_394 : ZFL "BesideAnother" 394 2 5 := ⟨z_R2, z_F2, 9, z_C2, by decide, (gwc2 14 rfl rfl)⟩
theorem zf_X_401 : ZFL "BesideAnother" 401 2 6 := ⟨z_R2, z_F2, 9, z_C2, by decide, (gwc2 16 rfl rfl)⟩
theorem zf_X_403 : ZFL "BesideAnother" 403 2 7 := ⟨z_R2, z_F2, 9, z_C2, by decide, (gwc2 18 rfl rfl)⟩
theorem zf_X_405 : ZFL "BesideAnother" 405 2 8 := ⟨z_R2, z_F2, 9, z_C2, by decide, (gwc2 20 rfl rfl)⟩
theorem zf_X_407 : ZFL "BesideAnother" 407 3 0 := ⟨z_R3, z_F3, 4, z_C3, by decide, (gwc1 227 rfl rfl)⟩
theorem zf_B_12 : ZFL "BesideAnother$Book" 12 0 0 := ⟨z_R0, z_F0, 6, z_C0, by decide, (gwc1 98 rfl rfl)⟩
theorem zf_B_18 : ZFL "BesideAnother$Book" 18 0 1 := ⟨z_R0, z_F0, 6, z_C0, by decide, (gwc1 99 rfl rfl)⟩
theorem zf_B_21 : ZFL "BesideAnother$Book" 21 0 3 := ⟨z_R0, z_F0, 6, z_C0, by decide, (gwc1 101 rfl rfl)⟩
theorem zf_B_25 : ZFL "BesideAnother$Book" 25 7 0 := ⟨z_R7, z_F7, 8, z_C7, by decide, (gwc1 54 rfl rfl)⟩
theorem zf_B_32 : ZFL "BesideAnother$Book" 32 7 1 := ⟨z_R7, z_F7, 8, z_C7, by decide, (gwc1 57 rfl rfl)⟩
theorem zf_B_33 : ZFL "BesideAnother$Book" 33 7 2 := ⟨z_R7, z_F7, 8, z_C7, by decide, (gwc1 58 rfl rfl)⟩
theorem zf_B_36 : ZFL "BesideAnother$Book" 36 0 2 := ⟨z_R0, z_F0, 6, z_C0, by decide, (gwc1 100 rfl rfl)⟩
theorem zp_B_36 : ZFP "BesideAnother$Book" 36 0 2 .int := ⟨z_R0, z_F0, 6, z_C0, by decide, (gwc1 100 rfl rfl), rfl, by decide +kernel⟩
theorem zf_B_37 : ZFL "BesideAnother$Book" 37 0 5 := ⟨z_R0, z_F0, 6, z_C0, by decide, (gwc1 106 rfl rfl)⟩
theorem zf_E_9 : ZFL "BesideAnother$Expression" 9 1 0 := ⟨z_R1, z_F1, 3, z_C1, by decide, (gwc1 42 rfl rfl)⟩
theorem zf_E_15 : ZFL "BesideAnother$Expression" 15 1 1 := ⟨z_R1, z_F1, 3, z_C1, by decide, (gwc1 43 rfl rfl)⟩
theorem zf_E_18 : ZFL "BesideAnother$Expression" 18 1 2 := ⟨z_R1, z_F1, 3, z_C1, by decide, (gwc1 44 rfl rfl)⟩
theorem zp_E_18 : ZFP "BesideAnother$Expression" 18 1 2 .int := ⟨z_R1, z_F1, 3, z_C1, by decide, (gwc1 44 rfl rfl), rfl, by decide +kernel⟩
theorem zf_K_9 : ZFL "BesideAnother$Kept" 9 2 5 := ⟨z_R2, z_F2, 9, z_C2, by decide, (gwc2 13 rfl rfl)⟩
theorem zf_K_15 : ZFL "BesideAnother$Kept" 15 2 6 := ⟨z_R2, z_F2, 9, z_C2, by decide, (gwc2 15 rfl rfl)⟩
theorem zf_K_18 : ZFL "BesideAnother$Kept" 18 2 7 := ⟨z_R2, z_F2, 9, z_C2, by decide, (gwc2 17 rfl rfl)⟩
theorem zf_K_21 : ZFL "BesideAnother$Kept" 21 2 8 := ⟨z_R2, z_F2, 9, z_C2, by decide, (gwc2 19 rfl rfl)⟩
theorem zf_R_7 : ZFL "BesideAnother$Reader" 7 3 0 := ⟨z_R3, z_F3, 4, z_C3, by decide, (gwc1 226 rfl rfl)⟩
theorem zp_R_7 : ZFP "BesideAnother$Reader" 7 3 0 .int := ⟨z_R3, z_F3, 4, z_C3, by decide, (gwc1 226 rfl rfl), rfl, by decide +kernel⟩
theorem zf_R_13 : ZFL "BesideAnother$Reader" 13 3 1 := ⟨z_R3, z_F3, 4, z_C3, by decide, (gwc1 228 rfl rfl)⟩
theorem zp_R_13 : ZFP "BesideAnother$Reader" 13 3 1 .int := ⟨z_R3, z_F3, 4, z_C3, by decide, (gwc1 228 rfl rfl), rfl, by decide +kernel⟩
theorem zf_R_16 : ZFL "BesideAnother$Reader" 16 3 2 := ⟨z_R3, z_F3, 4, z_C3, by decide, (gwc1 230 rfl rfl)⟩
theorem zp_R_16 : ZFP "BesideAnother$Reader" 16 3 2 .int := ⟨z_R3, z_F3, 4, z_C3, by decide, (gwc1 230 rfl rfl), rfl, by decide +kernel⟩
theorem zf_R_19 : ZFL "BesideAnother$Reader" 19 3 3 := ⟨z_R3, z_F3, 4, z_C3, by decide, (gwc1 232 rfl rfl)⟩
theorem zf_S_9 : ZFL "BesideAnother$Search" 9 4 0 := ⟨z_R4, z_F4, 10, z_C4, by decide, (gwc1 151 rfl rfl)⟩
theorem zf_S_15 : ZFL "BesideAnother$Search" 15 4 1 := ⟨z_R4, z_F4, 10, z_C4, by decide, (gwc1 152 rfl rfl)⟩
theorem zf_S_19 : ZFL "BesideAnother$Search" 19 4 2 := ⟨z_R4, z_F4, 10, z_C4, by decide, (gwc1 154 rfl rfl)⟩
theorem zf_S_22 : ZFL "BesideAnother$Search" 22 4 3 := ⟨z_R4, z_F4, 10, z_C4, by decide, (gwc1 156 rfl rfl)⟩
theorem zf_S_25 : ZFL "BesideAnother$Search" 25 4 4 := ⟨z_R4, z_F4, 10, z_C4, by decide, (gwc1 158 rfl rfl)⟩
theorem zf_S_28 : ZFL "BesideAnother$Search" 28 4 6 := ⟨z_R4, z_F4, 10, z_C4, by decide, (gwc1 162 rfl rfl)⟩
theorem zf_S_31 : ZFL "BesideAnother$Search" 31 4 7 := ⟨z_R4, z_F4, 10, z_C4, by decide, (gwc1 163 rfl rfl)⟩
theorem zf_S_34 : ZFL "BesideAnother$Search" 34 4 8 := ⟨z_R4, z_F4, 10, z_C4, by decide, (gwc1 164 rfl rfl)⟩
theorem zf_S_38 : ZFL "BesideAnother$Search" 38 4 9 := ⟨z_R4, z_F4, 10, z_C4, by decide, (gwc1 165 rfl rfl)⟩
theorem zf_S_41 : ZFL "BesideAnother$Search" 41 4 5 := ⟨z_R4, z_F4, 10, z_C4, by decide, (gwc1 160 rfl rfl)⟩
theorem zp_S_41 : ZFP "BesideAnother$Search" 41 4 5 .int := ⟨z_R4, z_F4, 10, z_C4, by decide, (gwc1 160 rfl rfl), rfl, by decide +kernel⟩
theorem zf_V_9 : ZFL "BesideAnother$Survey" 9 5 0 := ⟨z_R5, z_F5, 5, z_C5, by decide, (gwc1 194 rfl rfl)⟩
theorem zp_V_9 : ZFP "BesideAnother$Survey" 9 5 0 .int := ⟨z_R5, z_F5, 5, z_C5, by decide, (gwc1 194 rfl rfl), rfl, by decide +kernel⟩
theorem zf_V_15 : ZFL "BesideAnother$Survey" 15 5 1 := ⟨z_R5, z_F5, 5, z_C5, by decide, (gwc1 196 rfl rfl)⟩
theorem zp_V_15 : ZFP "BesideAnother$Survey" 15 5 1 .int := ⟨z_R5, z_F5, 5, z_C5, by decide, (gwc1 196 rfl rfl), rfl, by decide +kernel⟩
theorem zf_V_18 : ZFL "BesideAnother$Survey" 18 5 2 := ⟨z_R5, z_F5, 5, z_C5, by decide, (gwc1 198 rfl rfl)⟩
theorem zp_V_18 : ZFP "BesideAnother$Survey" 18 5 2 .int := ⟨z_R5, z_F5, 5, z_C5, by decide, (gwc1 198 rfl rfl), rfl, by decide +kernel⟩
theorem zf_V_21 : ZFL "BesideAnother$Survey" 21 5 3 := ⟨z_R5, z_F5, 5, z_C5, by decide, (gwc1 200 rfl rfl)⟩
theorem zp_V_21 : ZFP "BesideAnother$Survey" 21 5 3 .int := ⟨z_R5, z_F5, 5, z_C5, by decide, (gwc1 200 rfl rfl), rfl, by decide +kernel⟩
theorem zf_V_24 : ZFL "BesideAnother$Survey" 24 5 4 := ⟨z_R5, z_F5, 5, z_C5, by decide, (gwc1 202 rfl rfl)⟩
theorem zp_V_24 : ZFP "BesideAnother$Survey" 24 5 4 .int := ⟨z_R5, z_F5, 5, z_C5, by decide, (gwc1 202 rfl rfl), rfl, by decide +kernel⟩
theorem zf_T_11 : ZFL "BesideAnother$Tables" 11 6 0 := ⟨z_R6, z_F6, 6, z_C6, by decide, (gwc1 122 rfl rfl)⟩
theorem zf_T_17 : ZFL "BesideAnother$Tables" 17 6 1 := ⟨z_R6, z_F6, 6, z_C6, by decide, (gwc1 124 rfl rfl)⟩
theorem zf_T_21 : ZFL "BesideAnother$Tables" 21 6 3 := ⟨z_R6, z_F6, 6, z_C6, by decide, (gwc1 128 rfl rfl)⟩
theorem zf_T_24 : ZFL "BesideAnother$Tables" 24 6 4 := ⟨z_R6, z_F6, 6, z_C6, by decide, (gwc1 129 rfl rfl)⟩
theorem zf_T_27 : ZFL "BesideAnother$Tables" 27 6 5 := ⟨z_R6, z_F6, 6, z_C6, by decide, (gwc1 130 rfl rfl)⟩
theorem zp_T_27 : ZFP "BesideAnother$Tables" 27 6 5 .int := ⟨z_R6, z_F6, 6, z_C6, by decide, (gwc1 130 rfl rfl), rfl, by decide +kernel⟩
theorem zf_T_32 : ZFL "BesideAnother$Tables" 32 6 2 := ⟨z_R6, z_F6, 6, z_C6, by decide, (gwc1 126 rfl rfl)⟩
theorem zf_T_35 : ZFL "BesideAnother$Tables" 35 0 5 := ⟨z_R0, z_F0, 6, z_C0, by decide, (gwc1 107 rfl rfl)⟩
theorem zp_T_35 : ZFP "BesideAnother$Tables" 35 0 5 .int := ⟨z_R0, z_F0, 6, z_C0, by decide, (gwc1 107 rfl rfl), rfl, by decide +kernel⟩
theorem zf_T_38 : ZFL "BesideAnother$Tables" 38 0 4 := ⟨z_R0, z_F0, 6, z_C0, by decide, (gwc1 104 rfl rfl)⟩
theorem zf_T_41 : ZFL "BesideAnother$Tables" 41 0 3 := ⟨z_R0, z_F0, 6, z_C0, by decide, (gwc1 103 rfl rfl)⟩
theorem zf_P_12 : ZFL "BesideAnother$Text" 12 7 0 := ⟨z_R7, z_F7, 8, z_C7, by decide, (gwc1 53 rfl rfl)⟩
theorem zf_P_18 : ZFL "BesideAnother$Text" 18 7 1 := ⟨z_R7, z_F7, 8, z_C7, by decide, (gwc1 56 rfl rfl)⟩
theorem zf_P_21 : ZFL "BesideAnother$Text" 21 7 4 := ⟨z_R7, z_F7, 8, z_C7, by decide, (gwc1 62 rfl rfl)⟩
theorem zf_P_25 : ZFL "BesideAnother$Text" 25 7 5 := ⟨z_R7, z_F7, 8, z_C7, by decide, (gwc1 63 rfl rfl)⟩
theorem zp_P_25 : ZFP "BesideAnother$Text" 25 7 5 (.object "BesideAnother$Expression") := ⟨z_R7, z_F7, 8, z_C7, by decide, (gwc1 63 rfl rfl), rfl, by decide +kernel⟩
theorem zf_P_28 : ZFL "BesideAnother$Text" 28 7 3 := ⟨z_R7, z_F7, 8, z_C7, by decide, (gwc1 60 rfl rfl)⟩
theorem zp_P_28 : ZFP "BesideAnother$Text" 28 7 3 .int := ⟨z_R7, z_F7, 8, z_C7, by decide, (gwc1 60 rfl rfl), rfl, by decide +kernel⟩
theorem zf_P_38 : ZFL "BesideAnother$Text" 38 7 7 := ⟨z_R7, z_F7, 8, z_C7, by decide, (gwc1 65 rfl rfl)⟩
theorem zp_P_38 : ZFP "BesideAnother$Text" 38 7 7 .int := ⟨z_R7, z_F7, 8, z_C7, by decide, (gwc1 65 rfl rfl), rfl, by decide +kernel⟩
theorem zf_P_41 : ZFL "BesideAnother$Text" 41 7 6 := ⟨z_R7, z_F7, 8, z_C7, by decide, (gwc1 64 rfl rfl)⟩
theorem zp_P_41 : ZFP "BesideAnother$Text" 41 7 6 .int := ⟨z_R7, z_F7, 8, z_C7, by decide, (gwc1 64 rfl rfl), rfl, by decide +kernel⟩
theorem zf_P_44 : ZFL "BesideAnother$Text" 44 7 2 := ⟨z_R7, z_F7, 8, z_C7, by decide, (gwc1 59 rfl rfl)⟩
theorem zp_P_44 : ZFP "BesideAnother$Text" 44 7 2 .int := ⟨z_R7, z_F7, 8, z_C7, by decide, (gwc1 59 rfl rfl), rfl, by decide +kernel⟩
theorem zf_M_3 : ZFL "BesideAnotherModel" 3 9 0 := ⟨z_R9, z_F9, 53, z_C9, by decide, (gwc6 210 rfl rfl)⟩
theorem zp_M_3 : ZFP "BesideAnotherModel" 3 9 0 .int := ⟨z_R9, z_F9, 53, z_C9, by decide, (gwc6 210 rfl rfl), rfl, by decide +kernel⟩
theorem zf_M_7 : ZFL "BesideAnotherModel" 7 9 2 := ⟨z_R9, z_F9, 53, z_C9, by decide, (gwc6 212 rfl rfl)⟩
theorem zf_M_11 : ZFL "BesideAnotherModel" 11 9 1 := ⟨z_R9, z_F9, 53, z_C9, by decide, (gwc6 211 rfl rfl)⟩
theorem zp_M_11 : ZFP "BesideAnotherModel" 11 9 1 .int := ⟨z_R9, z_F9, 53, z_C9, by decide, (gwc6 211 rfl rfl), rfl, by decide +kernel⟩
theorem zf_M_14 : ZFL "BesideAnotherModel" 14 9 3 := ⟨z_R9, z_F9, 53, z_C9, by decide, (gwc6 213 rfl rfl)⟩
theorem zp_M_14 : ZFP "BesideAnotherModel" 14 9 3 .int := ⟨z_R9, z_F9, 53, z_C9, by decide, (gwc6 213 rfl rfl), rfl, by decide +kernel⟩
theorem zf_M_23 : ZFL "BesideAnotherModel" 23 9 9 := ⟨z_R9, z_F9, 53, z_C9, by decide, (gwc6 219 rfl rfl)⟩
theorem zp_M_23 : ZFP "BesideAnotherModel" 23 9 9 .int := ⟨z_R9, z_F9, 53, z_C9, by decide, (gwc6 219 rfl rfl), rfl, by decide +kernel⟩
theorem zf_M_26 : ZFL "BesideAnotherModel" 26 9 13 := ⟨z_R9, z_F9, 53, z_C9, by decide, (gwc6 223 rfl rfl)⟩
theorem zf_M_37 : ZFL "BesideAnotherModel" 37 9 18 := ⟨z_R9, z_F9, 53, z_C9, by decide, (gwc6 228 rfl rfl)⟩
theorem zp_M_37 : ZFP "BesideAnotherModel" 37 9 18 .int := ⟨z_R9, z_F9, 53, z_C9, by decide, (gwc6 228 rfl rfl), rfl, by decide +kernel⟩
theorem zf_M_40 : ZFL "BesideAnotherModel" 40 9 17 := ⟨z_R9, z_F9, 53, z_C9, by decide, (gwc6 227 rfl rfl)⟩
theorem zf_M_43 : ZFL "BesideAnotherModel" 43 9 19 := ⟨z_R9, z_F9, 53, z_C9, by decide, (gwc6 229 rfl rfl)⟩
theorem zp_M_43 : ZFP "BesideAnotherModel" 43 9 19 .int := ⟨z_R9, z_F9, 53, z_C9, by decide, (gwc6 229 rfl rfl), rfl, by decide +kernel⟩
theorem zf_M_46 : ZFL "BesideAnotherModel" 46 9 20 := ⟨z_R9, z_F9, 53, z_C9, by decide, (gwc6 230 rfl rfl)⟩
theorem zp_M_46 : ZFP "BesideAnotherModel" 46 9 20 .int := ⟨z_R9, z_F9, 53, z_C9, by decide, (gwc6 230 rfl rfl), rfl, by decide +kernel⟩
theorem zf_M_63 : ZFL "BesideAnotherModel" 63 9 14 := ⟨z_R9, z_F9, 53, z_C9, by decide, (gwc6 224 rfl rfl)⟩
theorem zf_M_66 : ZFL "BesideAnotherModel" 66 9 22 := ⟨z_R9, z_F9, 53, z_C9, by decide, (gwc6 232 rfl rfl)⟩
theorem zp_M_66 : ZFP "BesideAnotherModel" 66 9 22 .int := ⟨z_R9, z_F9, 53, z_C9, by decide, (gwc6 232 rfl rfl), rfl, by decide +kernel⟩
theorem zf_M_69 : ZFL "BesideAnotherModel" 69 9 15 := ⟨z_R9, z_F9, 53, z_C9, by decide, (gwc6 225 rfl rfl)⟩
theorem zf_M_88 : ZFL "BesideAnotherModel" 88 9 21 := ⟨z_R9, z_F9, 53, z_C9, by decide, (gwc6 231 rfl rfl)⟩
theorem zp_M_88 : ZFP "BesideAnotherModel" 88 9 21 .int := ⟨z_R9, z_F9, 53, z_C9, by decide, (gwc6 231 rfl rfl), rfl, by decide +kernel⟩
theorem zf_M_124 : ZFL "BesideAnotherModel" 124 9 16 := ⟨z_R9, z_F9, 53, z_C9, by decide, (gwc6 226 rfl rfl)⟩
theorem zf_M_135 : ZFL "BesideAnotherModel" 135 9 6 := ⟨z_R9, z_F9, 53, z_C9, by decide, (gwc6 216 rfl rfl)⟩
theorem zf_M_154 : ZFL "BesideAnotherModel" 154 9 8 := ⟨z_R9, z_F9, 53, z_C9, by decide, (gwc6 218 rfl rfl)⟩
theorem zf_M_173 : ZFL "BesideAnotherModel" 173 9 4 := ⟨z_R9, z_F9, 53, z_C9, by decide, (gwc6 214 rfl rfl)⟩
theorem zf_M_176 : ZFL "BesideAnotherModel" 176 9 5 := ⟨z_R9, z_F9, 53, z_C9, by decide, (gwc6 215 rfl rfl)⟩
theorem zf_M_199 : ZFL "BesideAnotherModel" 199 9 7 := ⟨z_R9, z_F9, 53, z_C9, by decide, (gwc6 217 rfl rfl)⟩
theorem zf_M_242 : ZFL "BesideAnotherModel" 242 9 23 := ⟨z_R9, z_F9, 53, z_C9, by decide, (gwc6 233 rfl rfl)⟩
theorem zf_M_245 : ZFL "BesideAnotherModel" 245 9 24 := ⟨z_R9, z_F9, 53, z_C9, by decide, (gwc6 234 rfl rfl)⟩
theorem zf_M_257 : ZFL "BesideAnotherModel" 257 9 10 := ⟨z_R9, z_F9, 53, z_C9, by decide, (gwc6 220 rfl rfl)⟩
theorem zf_M_260 : ZFL "BesideAnotherModel" 260 9 11 := ⟨z_R9, z_F9, 53, z_C9, by decide, (gwc6 221 rfl rfl)⟩
theorem zf_M_263 : ZFL "BesideAnotherModel" 263 9 12 := ⟨z_R9, z_F9, 53, z_C9, by decide, (gwc6 222 rfl rfl)⟩
theorem zf_M_275 : ZFL "BesideAnotherModel" 275 9 26 := ⟨z_R9, z_F9, 53, z_C9, by decide, (gwc6 236 rfl rfl)⟩
theorem zf_M_281 : ZFL "BesideAnotherModel" 281 9 25 := ⟨z_R9, z_F9, 53, z_C9, by decide, (gwc6 235 rfl rfl)⟩
theorem zf_M_284 : ZFL "BesideAnotherModel" 284 9 27 := ⟨z_R9, z_F9, 53, z_C9, by decide, (gwc6 237 rfl rfl)⟩
theorem zp_M_284 : ZFP "BesideAnotherModel" 284 9 27 .int := ⟨z_R9, z_F9, 53, z_C9, by decide, (gwc6 237 rfl rfl), rfl, by decide +kernel⟩
theorem zf_M_287 : ZFL "BesideAnotherModel" 287 9 28 := ⟨z_R9, z_F9, 53, z_C9, by decide, (gwc6 238 rfl rfl)⟩
theorem zf_M_308 : ZFL "BesideAnotherModel" 308 9 29 := ⟨z_R9, z_F9, 53, z_C9, by decide, (gwc6 239 rfl rfl)⟩
theorem zp_M_308 : ZFP "BesideAnotherModel" 308 9 29 .int := ⟨z_R9, z_F9, 53, z_C9, by decide, (gwc6 239 rfl rfl), rfl, by decide +kernel⟩
theorem zf_M_316 : ZFL "BesideAnotherModel" 316 9 31 := ⟨z_R9, z_F9, 53, z_C9, by decide, (gwc7 1 rfl rfl)⟩
theorem zf_M_319 : ZFL "BesideAnotherModel" 319 9 30 := ⟨z_R9, z_F9, 53, z_C9, by decide, (gwc7 0 rfl rfl)⟩
theorem zf_M_328 : ZFL "BesideAnotherModel" 328 9 32 := ⟨z_R9, z_F9, 53, z_C9, by decide, (gwc7 2 rfl rfl)⟩
theorem zp_M_328 : ZFP "BesideAnotherModel" 328 9 32 .int := ⟨z_R9, z_F9, 53, z_C9, by decide, (gwc7 2 rfl rfl), rfl, by decide +kernel⟩
theorem zf_M_331 : ZFL "BesideAnotherModel" 331 9 33 := ⟨z_R9, z_F9, 53, z_C9, by decide, (gwc7 3 rfl rfl)⟩
theorem zp_M_331 : ZFP "BesideAnotherModel" 331 9 33 .int := ⟨z_R9, z_F9, 53, z_C9, by decide, (gwc7 3 rfl rfl), rfl, by decide +kernel⟩
theorem zf_M_334 : ZFL "BesideAnotherModel" 334 9 34 := ⟨z_R9, z_F9, 53, z_C9, by decide, (gwc7 4 rfl rfl)⟩
theorem zp_M_334 : ZFP "BesideAnotherModel" 334 9 34 .int := ⟨z_R9, z_F9, 53, z_C9, by decide, (gwc7 4 rfl rfl), rfl, by decide +kernel⟩
theorem zf_M_337 : ZFL "BesideAnotherModel" 337 9 35 := ⟨z_R9, z_F9, 53, z_C9, by decide, (gwc7 5 rfl rfl)⟩
theorem zp_M_337 : ZFP "BesideAnotherModel" 337 9 35 .int := ⟨z_R9, z_F9, 53, z_C9, by decide, (gwc7 5 rfl rfl), rfl, by decide +kernel⟩
theorem zf_M_343 : ZFL "BesideAnotherModel" 343 9 36 := ⟨z_R9, z_F9, 53, z_C9, by decide, (gwc7 6 rfl rfl)⟩
theorem zf_M_346 : ZFL "BesideAnotherModel" 346 9 37 := ⟨z_R9, z_F9, 53, z_C9, by decide, (gwc7 7 rfl rfl)⟩
theorem zf_M_349 : ZFL "BesideAnotherModel" 349 9 39 := ⟨z_R9, z_F9, 53, z_C9, by decide, (gwc7 9 rfl rfl)⟩
theorem zf_M_352 : ZFL "BesideAnotherModel" 352 9 40 := ⟨z_R9, z_F9, 53, z_C9, by decide, (gwc7 10 rfl rfl)⟩
theorem zp_M_352 : ZFP "BesideAnotherModel" 352 9 40 .int := ⟨z_R9, z_F9, 53, z_C9, by decide, (gwc7 10 rfl rfl), rfl, by decide +kernel⟩
theorem zf_M_355 : ZFL "BesideAnotherModel" 355 9 38 := ⟨z_R9, z_F9, 53, z_C9, by decide, (gwc7 8 rfl rfl)⟩
theorem zf_M_370 : ZFL "BesideAnotherModel" 370 9 41 := ⟨z_R9, z_F9, 53, z_C9, by decide, (gwc7 11 rfl rfl)⟩
theorem zf_M_376 : ZFL "BesideAnotherModel" 376 9 42 := ⟨z_R9, z_F9, 53, z_C9, by decide, (gwc7 12 rfl rfl)⟩
theorem zf_M_390 : ZFL "BesideAnotherModel" 390 9 48 := ⟨z_R9, z_F9, 53, z_C9, by decide, (gwc7 18 rfl rfl)⟩
theorem zf_M_393 : ZFL "BesideAnotherModel" 393 9 43 := ⟨z_R9, z_F9, 53, z_C9, by decide, (gwc7 13 rfl rfl)⟩
theorem zf_M_401 : ZFL "BesideAnotherModel" 401 9 49 := ⟨z_R9, z_F9, 53, z_C9, by decide, (gwc7 19 rfl rfl)⟩
theorem zp_M_401 : ZFP "BesideAnotherModel" 401 9 49 .int := ⟨z_R9, z_F9, 53, z_C9, by decide, (gwc7 19 rfl rfl), rfl, by decide +kernel⟩
theorem zf_M_404 : ZFL "BesideAnotherModel" 404 9 44 := ⟨z_R9, z_F9, 53, z_C9, by decide, (gwc7 14 rfl rfl)⟩
theorem zf_M_407 : ZFL "BesideAnotherModel" 407 9 45 := ⟨z_R9, z_F9, 53, z_C9, by decide, (gwc7 15 rfl rfl)⟩
theorem zf_M_410 : ZFL "BesideAnotherModel" 410 9 46 := ⟨z_R9, z_F9, 53, z_C9, by decide, (gwc7 16 rfl rfl)⟩
theorem zf_M_425 : ZFL "BesideAnotherModel" 425 9 47 := ⟨z_R9, z_F9, 53, z_C9, by decide, (gwc7 17 rfl rfl)⟩
theorem zf_M_441 : ZFL "BesideAnotherModel" 441 9 50 := ⟨z_R9, z_F9, 53, z_C9, by decide, (gwc7 20 rfl rfl)⟩
theorem zf_M_444 : ZFL "BesideAnotherModel" 444 9 51 := ⟨z_R9, z_F9, 53, z_C9, by decide, (gwc7 21 rfl rfl)⟩
theorem zf_M_448 : ZFL "BesideAnotherModel" 448 9 52 := ⟨z_R9, z_F9, 53, z_C9, by decide, (gwc7 22 rfl rfl)⟩
theorem zc_X_80 : ZCV "BesideAnother" 80 y_P_append 1 := ⟨(gwc2 102 rfl rfl), (gwc2 103 rfl rfl), (gwc2 104 rfl rfl), (gwc1 2 rfl rfl), (gwc2 105 rfl rfl), ⟨by decide +kernel, by decide +kernel⟩, by decide +kernel, by decide⟩
theorem zc_X_84 : ZCV "BesideAnother" 84 y_P_cut 1 := ⟨(gwc2 110 rfl rfl), (gwc2 111 rfl rfl), (gwc2 112 rfl rfl), (gwc1 2 rfl rfl), (gwc2 113 rfl rfl), ⟨by decide +kernel, by decide +kernel⟩, by decide +kernel, by decide⟩
theorem zc_X_92 : ZCV "BesideAnother" 92 y_T_has 1 := ⟨(gwc2 118 rfl rfl), (gwc2 119 rfl rfl), (gwc2 120 rfl rfl), (gwc1 4 rfl rfl), (gwc2 121 rfl rfl), ⟨by decide +kernel, by decide +kernel⟩, by decide +kernel, by decide⟩
theorem zc_X_95 : ZCV "BesideAnother" 95 y_P_clear 0 := ⟨(gwc2 122 rfl rfl), (gwc2 123 rfl rfl), (gwc2 124 rfl rfl), (gwc1 2 rfl rfl), (gwc2 125 rfl rfl), ⟨by decide +kernel, by decide +kernel⟩, by decide +kernel, by decide⟩
theorem zc_X_98 : ZCV "BesideAnother" 98 y_P_parse 2 := ⟨(gwc2 126 rfl rfl), (gwc2 127 rfl rfl), (gwc2 128 rfl rfl), (gwc1 2 rfl rfl), (gwc2 129 rfl rfl), ⟨by decide +kernel, by decide +kernel⟩, by decide +kernel, by decide⟩
theorem zc_X_106 : ZCV "BesideAnother" 106 y_B_tell 1 := ⟨(gwc2 181 rfl rfl), (gwc2 182 rfl rfl), (gwc2 183 rfl rfl), (gwc1 5 rfl rfl), (gwc2 184 rfl rfl), ⟨by decide +kernel, by decide +kernel⟩, by decide +kernel, by decide⟩
theorem zc_X_112 : ZCV "BesideAnother" 112 y_T_forget 0 := ⟨(gwc2 192 rfl rfl), (gwc2 193 rfl rfl), (gwc2 194 rfl rfl), (gwc1 4 rfl rfl), (gwc2 195 rfl rfl), ⟨by decide +kernel, by decide +kernel⟩, by decide +kernel, by decide⟩
theorem zc_X_119 : ZCS "BesideAnother" 119 y_X_tableOf 2 := ⟨(gwc2 196 rfl rfl), (gwc2 197 rfl rfl), (gwc1 1 rfl rfl), (gwc2 198 rfl rfl), ⟨by decide +kernel, by decide +kernel⟩, by decide +kernel, by decide⟩
theorem zc_X_123 : ZCV "BesideAnother" 123 y_T_settled 2 := ⟨(gwc2 202 rfl rfl), (gwc2 203 rfl rfl), (gwc2 204 rfl rfl), (gwc1 4 rfl rfl), (gwc2 205 rfl rfl), ⟨by decide +kernel, by decide +kernel⟩, by decide +kernel, by decide⟩
theorem zc_X_130 : ZCV "BesideAnother" 130 y_E_clear 0 := ⟨(gwc3 1 rfl rfl), (gwc2 134 rfl rfl), (gwc2 135 rfl rfl), (gwc1 3 rfl rfl), (gwc2 136 rfl rfl), ⟨by decide +kernel, by decide +kernel⟩, by decide +kernel, by decide⟩
theorem zc_X_134 : ZCV "BesideAnother" 134 y_E_copy 1 := ⟨(gwc3 2 rfl rfl), (gwc2 186 rfl rfl), (gwc2 187 rfl rfl), (gwc1 3 rfl rfl), (gwc2 188 rfl rfl), ⟨by decide +kernel, by decide +kernel⟩, by decide +kernel, by decide⟩
theorem zc_X_141 : ZCS "BesideAnother" 141 y_X_isTable 1 := ⟨(gwc3 7 rfl rfl), (gwc3 8 rfl rfl), (gwc1 1 rfl rfl), (gwc3 9 rfl rfl), ⟨by decide +kernel, by decide +kernel⟩, by decide +kernel, by decide⟩
theorem zc_X_147 : ZCS "BesideAnother" 147 y_X_entry 2 := ⟨(gwc3 14 rfl rfl), (gwc3 15 rfl rfl), (gwc1 1 rfl rfl), (gwc3 16 rfl rfl), ⟨by decide +kernel, by decide +kernel⟩, by decide +kernel, by decide⟩
theorem zc_X_172 : ZCV "BesideAnother" 172 y_B_isLater 0 := ⟨(gwc4 162 rfl rfl), (gwc2 216 rfl rfl), (gwc2 217 rfl rfl), (gwc1 5 rfl rfl), (gwc2 218 rfl rfl), ⟨by decide +kernel, by decide +kernel⟩, by decide +kernel, by decide⟩
theorem zc_X_178 : ZCS "BesideAnother" 178 y_X_on 2 := ⟨(gwc2 199 rfl rfl), (gwc2 200 rfl rfl), (gwc1 1 rfl rfl), (gwc2 201 rfl rfl), ⟨by decide +kernel, by decide +kernel⟩, by decide +kernel, by decide⟩
theorem zc_X_183 : ZCV "BesideAnother" 183 y_B_condition 0 := ⟨(gwc4 172 rfl rfl), (gwc2 212 rfl rfl), (gwc2 213 rfl rfl), (gwc1 5 rfl rfl), (gwc2 214 rfl rfl), ⟨by decide +kernel, by decide +kernel⟩, by decide +kernel, by decide⟩
theorem zc_X_187 : ZCV "BesideAnother" 187 y_E_worth 3 := ⟨(gwc3 119 rfl rfl), (gwc2 220 rfl rfl), (gwc2 221 rfl rfl), (gwc1 3 rfl rfl), (gwc2 222 rfl rfl), ⟨by decide +kernel, by decide +kernel⟩, by decide +kernel, by decide⟩
theorem zc_X_191 : ZCV "BesideAnother" 191 y_T_spent 0 := ⟨(gwc3 29 rfl rfl), (gwc3 30 rfl rfl), (gwc3 31 rfl rfl), (gwc1 4 rfl rfl), (gwc3 32 rfl rfl), ⟨by decide +kernel, by decide +kernel⟩, by decide +kernel, by decide⟩
theorem zc_X_195 : ZCV "BesideAnother" 195 y_T_refusal 3 := ⟨(gwc3 33 rfl rfl), (gwc3 34 rfl rfl), (gwc3 35 rfl rfl), (gwc1 4 rfl rfl), (gwc3 36 rfl rfl), ⟨by decide +kernel, by decide +kernel⟩, by decide +kernel, by decide⟩
theorem zc_X_199 : ZCV "BesideAnother" 199 y_X_make 1 := ⟨(gwc3 40 rfl rfl), (gwc3 42 rfl rfl), (gwp 10 rfl rfl), (gwc1 1 rfl rfl), (gwc3 43 rfl rfl), ⟨by decide +kernel, by decide +kernel⟩, by decide +kernel, by decide⟩
theorem zc_X_202 : ZCS "BesideAnother" 202 y_X_anywhere 1 := ⟨(gwc3 44 rfl rfl), (gwc3 45 rfl rfl), (gwc1 1 rfl rfl), (gwc3 46 rfl rfl), ⟨by decide +kernel, by decide +kernel⟩, by decide +kernel, by decide⟩
theorem zc_X_206 : ZCV "BesideAnother" 206 y_T_after 2 := ⟨(gwc3 47 rfl rfl), (gwc3 48 rfl rfl), (gwc3 49 rfl rfl), (gwc1 4 rfl rfl), (gwc3 50 rfl rfl), ⟨by decide +kernel, by decide +kernel⟩, by decide +kernel, by decide⟩
theorem zc_X_212 : ZCV "BesideAnother" 212 y_T_possible 3 := ⟨(gwc3 60 rfl rfl), (gwc3 61 rfl rfl), (gwc3 62 rfl rfl), (gwc1 4 rfl rfl), (gwc3 63 rfl rfl), ⟨by decide +kernel, by decide +kernel⟩, by decide +kernel, by decide⟩
theorem zc_X_215 : ZCV "BesideAnother" 215 y_X_tell 1 := ⟨(gwc3 65 rfl rfl), (gwc3 67 rfl rfl), (gwp 11 rfl rfl), (gwc1 1 rfl rfl), (gwc3 68 rfl rfl), ⟨by decide +kernel, by decide +kernel⟩, by decide +kernel, by decide⟩
theorem zc_X_218 : ZCV "BesideAnother" 218 y_T_beyond 1 := ⟨(gwc3 73 rfl rfl), (gwc3 74 rfl rfl), (gwc3 75 rfl rfl), (gwc1 4 rfl rfl), (gwc3 76 rfl rfl), ⟨by decide +kernel, by decide +kernel⟩, by decide +kernel, by decide⟩
theorem zc_X_221 : ZCS "BesideAnother" 221 y_X_with 3 := ⟨(gwc3 77 rfl rfl), (gwc2 233 rfl rfl), (gwc1 1 rfl rfl), (gwc2 234 rfl rfl), ⟨by decide +kernel, by decide +kernel⟩, by decide +kernel, by decide⟩
theorem zc_X_225 : ZCV "BesideAnother" 225 y_X_spentBy 1 := ⟨(gwc3 82 rfl rfl), (gwc3 84 rfl rfl), (gwp 12 rfl rfl), (gwc1 1 rfl rfl), (gwc3 85 rfl rfl), ⟨by decide +kernel, by decide +kernel⟩, by decide +kernel, by decide⟩
theorem zc_X_232 : ZCV "BesideAnother" 232 y_R_begin 2 := ⟨(gwc3 90 rfl rfl), (gwc3 91 rfl rfl), (gwc3 92 rfl rfl), (gwc1 8 rfl rfl), (gwc3 93 rfl rfl), ⟨by decide +kernel, by decide +kernel⟩, by decide +kernel, by decide⟩
theorem zc_X_236 : ZCV "BesideAnother" 236 y_X_isReader 1 := ⟨(gwc3 98 rfl rfl), (gwc3 100 rfl rfl), (gwp 13 rfl rfl), (gwc1 1 rfl rfl), (gwc3 101 rfl rfl), ⟨by decide +kernel, by decide +kernel⟩, by decide +kernel, by decide⟩
theorem zc_X_242 : ZCV "BesideAnother" 242 y_X_finishBook 2 := ⟨(gwc3 106 rfl rfl), (gwc3 108 rfl rfl), (gwp 14 rfl rfl), (gwc1 1 rfl rfl), (gwc3 109 rfl rfl), ⟨by decide +kernel, by decide +kernel⟩, by decide +kernel, by decide⟩
theorem zc_X_254 : ZCV "BesideAnother" 254 y_R_left 0 := ⟨(gwc3 124 rfl rfl), (gwc3 125 rfl rfl), (gwc3 126 rfl rfl), (gwc1 8 rfl rfl), (gwc3 127 rfl rfl), ⟨by decide +kernel, by decide +kernel⟩, by decide +kernel, by decide⟩
theorem zc_X_259 : ZCV "BesideAnother" 259 y_X_lineUp 0 := ⟨(gwc3 114 rfl rfl), (gwc3 116 rfl rfl), (gwp 15 rfl rfl), (gwc1 1 rfl rfl), (gwc3 117 rfl rfl), ⟨by decide +kernel, by decide +kernel⟩, by decide +kernel, by decide⟩
theorem zc_X_262 : ZCV "BesideAnother" 262 y_X_turn 1 := ⟨(gwc3 120 rfl rfl), (gwc3 122 rfl rfl), (gwp 16 rfl rfl), (gwc1 1 rfl rfl), (gwc3 123 rfl rfl), ⟨by decide +kernel, by decide +kernel⟩, by decide +kernel, by decide⟩
theorem zc_X_268 : ZCV "BesideAnother" 268 y_X_satisfied 0 := ⟨(gwc3 139 rfl rfl), (gwc3 141 rfl rfl), (gwp 19 rfl rfl), (gwc1 1 rfl rfl), (gwc3 142 rfl rfl), ⟨by decide +kernel, by decide +kernel⟩, by decide +kernel, by decide⟩
theorem zc_X_271 : ZCS "BesideAnother" 271 y_J_bitCount 1 := ⟨(gwc3 118 rfl rfl), (gwc2 224 rfl rfl), (gwc1 13 rfl rfl), (gwc2 225 rfl rfl), ⟨by decide +kernel, by decide +kernel⟩, by decide +kernel, by decide⟩
theorem zc_X_276 : ZCS "BesideAnother" 276 y_X_lowest 1 := ⟨(gwc3 128 rfl rfl), (gwc3 129 rfl rfl), (gwc1 1 rfl rfl), (gwc3 130 rfl rfl), ⟨by decide +kernel, by decide +kernel⟩, by decide +kernel, by decide⟩
theorem zc_X_279 : ZCV "BesideAnother" 279 y_X_note 3 := ⟨(gwc3 131 rfl rfl), (gwc3 133 rfl rfl), (gwp 17 rfl rfl), (gwc1 1 rfl rfl), (gwc3 134 rfl rfl), ⟨by decide +kernel, by decide +kernel⟩, by decide +kernel, by decide⟩
theorem zc_X_283 : ZCV "BesideAnother" 283 y_X_leading 3 := ⟨(gwc3 135 rfl rfl), (gwc3 137 rfl rfl), (gwp 18 rfl rfl), (gwc1 1 rfl rfl), (gwc3 138 rfl rfl), ⟨by decide +kernel, by decide +kernel⟩, by decide +kernel, by decide⟩
theorem zc_X_290 : ZCV "BesideAnother" 290 y_X_logKept 0 := ⟨(gwc3 147 rfl rfl), (gwc3 149 rfl rfl), (gwp 20 rfl rfl), (gwc1 1 rfl rfl), (gwc3 150 rfl rfl), ⟨by decide +kernel, by decide +kernel⟩, by decide +kernel, by decide⟩
theorem zc_X_293 : ZCV "BesideAnother" 293 y_X_tellRing 1 := ⟨(gwc3 159 rfl rfl), (gwc3 161 rfl rfl), (gwp 21 rfl rfl), (gwc1 1 rfl rfl), (gwc3 162 rfl rfl), ⟨by decide +kernel, by decide +kernel⟩, by decide +kernel, by decide⟩
theorem zc_X_296 : ZCV "BesideAnother" 296 y_X_ringFrom 2 := ⟨(gwc3 163 rfl rfl), (gwc3 165 rfl rfl), (gwp 22 rfl rfl), (gwc1 1 rfl rfl), (gwc3 166 rfl rfl), ⟨by decide +kernel, by decide +kernel⟩, by decide +kernel, by decide⟩
theorem zc_X_299 : ZCV "BesideAnother" 299 y_X_look 2 := ⟨(gwc3 171 rfl rfl), (gwc3 173 rfl rfl), (gwp 23 rfl rfl), (gwc1 1 rfl rfl), (gwc3 174 rfl rfl), ⟨by decide +kernel, by decide +kernel⟩, by decide +kernel, by decide⟩
theorem zc_X_305 : ZCV "BesideAnother" 305 y_T_all 0 := ⟨(gwc3 175 rfl rfl), (gwc3 176 rfl rfl), (gwc3 177 rfl rfl), (gwc1 4 rfl rfl), (gwc3 178 rfl rfl), ⟨by decide +kernel, by decide +kernel⟩, by decide +kernel, by decide⟩
theorem zc_X_320 : ZCV "BesideAnother" 320 y_V_begin 1 := ⟨(gwc3 179 rfl rfl), (gwc3 180 rfl rfl), (gwc3 181 rfl rfl), (gwc1 7 rfl rfl), (gwc3 182 rfl rfl), ⟨by decide +kernel, by decide +kernel⟩, by decide +kernel, by decide⟩
theorem zc_X_322 : ZCV "BesideAnother" 322 y_T_mayBy 2 := ⟨(gwc3 183 rfl rfl), (gwc2 208 rfl rfl), (gwc2 209 rfl rfl), (gwc1 4 rfl rfl), (gwc2 210 rfl rfl), ⟨by decide +kernel, by decide +kernel⟩, by decide +kernel, by decide⟩
theorem zc_X_325 : ZCV "BesideAnother" 325 y_V_take 1 := ⟨(gwc3 184 rfl rfl), (gwc3 185 rfl rfl), (gwc3 186 rfl rfl), (gwc1 7 rfl rfl), (gwc3 187 rfl rfl), ⟨by decide +kernel, by decide +kernel⟩, by decide +kernel, by decide⟩
theorem zc_X_328 : ZCV "BesideAnother" 328 y_X_searchTable 1 := ⟨(gwc3 209 rfl rfl), (gwc3 211 rfl rfl), (gwp 24 rfl rfl), (gwc1 1 rfl rfl), (gwc3 212 rfl rfl), ⟨by decide +kernel, by decide +kernel⟩, by decide +kernel, by decide⟩
theorem zc_X_331 : ZCV "BesideAnother" 331 y_X_tellReach 0 := ⟨(gwc3 237 rfl rfl), (gwc3 239 rfl rfl), (gwp 27 rfl rfl), (gwc1 1 rfl rfl), (gwc4 0 rfl rfl), ⟨by decide +kernel, by decide +kernel⟩, by decide +kernel, by decide⟩
theorem zc_X_334 : ZCV "BesideAnother" 334 y_S_clear 0 := ⟨(gwc3 213 rfl rfl), (gwc3 214 rfl rfl), (gwc3 215 rfl rfl), (gwc1 6 rfl rfl), (gwc3 216 rfl rfl), ⟨by decide +kernel, by decide +kernel⟩, by decide +kernel, by decide⟩
theorem zc_X_335 : ZCV "BesideAnother" 335 y_S_seed 1 := ⟨(gwc3 217 rfl rfl), (gwc3 218 rfl rfl), (gwc3 219 rfl rfl), (gwc1 6 rfl rfl), (gwc3 220 rfl rfl), ⟨by decide +kernel, by decide +kernel⟩, by decide +kernel, by decide⟩
theorem zc_X_339 : ZCV "BesideAnother" 339 y_S_spread 2 := ⟨(gwc3 230 rfl rfl), (gwc3 231 rfl rfl), (gwc3 232 rfl rfl), (gwc1 6 rfl rfl), (gwc3 233 rfl rfl), ⟨by decide +kernel, by decide +kernel⟩, by decide +kernel, by decide⟩
theorem zc_X_343 : ZCV "BesideAnother" 343 y_S_union 0 := ⟨(gwc4 1 rfl rfl), (gwc4 2 rfl rfl), (gwc4 3 rfl rfl), (gwc1 6 rfl rfl), (gwc4 4 rfl rfl), ⟨by decide +kernel, by decide +kernel⟩, by decide +kernel, by decide⟩
theorem zc_X_346 : ZCV "BesideAnother" 346 y_S_farthest 0 := ⟨(gwc4 6 rfl rfl), (gwc4 7 rfl rfl), (gwc4 8 rfl rfl), (gwc1 6 rfl rfl), (gwc4 9 rfl rfl), ⟨by decide +kernel, by decide +kernel⟩, by decide +kernel, by decide⟩
theorem zc_X_350 : ZCV "BesideAnother" 350 y_S_firstWith 1 := ⟨(gwc4 14 rfl rfl), (gwc4 15 rfl rfl), (gwc4 16 rfl rfl), (gwc1 6 rfl rfl), (gwc4 17 rfl rfl), ⟨by decide +kernel, by decide +kernel⟩, by decide +kernel, by decide⟩
theorem zc_X_353 : ZCV "BesideAnother" 353 y_X_tellWay 1 := ⟨(gwc4 18 rfl rfl), (gwc4 20 rfl rfl), (gwp 28 rfl rfl), (gwc1 1 rfl rfl), (gwc4 21 rfl rfl), ⟨by decide +kernel, by decide +kernel⟩, by decide +kernel, by decide⟩
theorem zc_X_365 : ZCV "BesideAnother" 365 y_S_gather 0 := ⟨(gwc4 30 rfl rfl), (gwc4 31 rfl rfl), (gwc4 32 rfl rfl), (gwc1 6 rfl rfl), (gwc4 33 rfl rfl), ⟨by decide +kernel, by decide +kernel⟩, by decide +kernel, by decide⟩
theorem zc_X_368 : ZCV "BesideAnother" 368 y_S_indexOf 1 := ⟨(gwc4 35 rfl rfl), (gwc4 36 rfl rfl), (gwc4 37 rfl rfl), (gwc1 6 rfl rfl), (gwc4 38 rfl rfl), ⟨by decide +kernel, by decide +kernel⟩, by decide +kernel, by decide⟩
theorem zc_X_374 : ZCV "BesideAnother" 374 y_X_tellMissing 1 := ⟨(gwc4 43 rfl rfl), (gwc4 45 rfl rfl), (gwp 29 rfl rfl), (gwc1 1 rfl rfl), (gwc4 46 rfl rfl), ⟨by decide +kernel, by decide +kernel⟩, by decide +kernel, by decide⟩
theorem zc_X_377 : ZCV "BesideAnother" 377 y_X_searchFrom 1 := ⟨(gwc4 51 rfl rfl), (gwc4 53 rfl rfl), (gwp 30 rfl rfl), (gwc1 1 rfl rfl), (gwc4 54 rfl rfl), ⟨by decide +kernel, by decide +kernel⟩, by decide +kernel, by decide⟩
theorem zc_X_410 : ZCV "BesideAnother" 410 y_T_countIn 1 := ⟨(gwc4 80 rfl rfl), (gwc4 81 rfl rfl), (gwc4 82 rfl rfl), (gwc1 4 rfl rfl), (gwc4 83 rfl rfl), ⟨by decide +kernel, by decide +kernel⟩, by decide +kernel, by decide⟩
theorem zc_B_28 : ZCV "BesideAnother$Book" 28 y_E_copy 1 := ⟨(gwc2 185 rfl rfl), (gwc2 186 rfl rfl), (gwc2 187 rfl rfl), (gwc1 3 rfl rfl), (gwc2 188 rfl rfl), ⟨by decide +kernel, by decide +kernel⟩, by decide +kernel, by decide⟩
theorem zc_B_40 : ZCV "BesideAnother$Book" 40 y_B_isLater 0 := ⟨(gwc2 215 rfl rfl), (gwc2 216 rfl rfl), (gwc2 217 rfl rfl), (gwc1 5 rfl rfl), (gwc2 218 rfl rfl), ⟨by decide +kernel, by decide +kernel⟩, by decide +kernel, by decide⟩
theorem zc_E_28 : ZCS "BesideAnother$Expression" 28 y_J_bitCount 1 := ⟨(gwc2 223 rfl rfl), (gwc2 224 rfl rfl), (gwc1 13 rfl rfl), (gwc2 225 rfl rfl), ⟨by decide +kernel, by decide +kernel⟩, by decide +kernel, by decide⟩
theorem zc_E_34 : ZCS "BesideAnother$Expression" 34 y_E_joined 3 := ⟨(gwc2 229 rfl rfl), (gwc2 230 rfl rfl), (gwc1 3 rfl rfl), (gwc2 231 rfl rfl), ⟨by decide +kernel, by decide +kernel⟩, by decide +kernel, by decide⟩
theorem zc_S_45 : ZCV "BesideAnother$Search" 45 y_S_place 3 := ⟨(gwc3 221 rfl rfl), (gwc3 223 rfl rfl), (gwp 25 rfl rfl), (gwc1 6 rfl rfl), (gwc3 224 rfl rfl), ⟨by decide +kernel, by decide +kernel⟩, by decide +kernel, by decide⟩
theorem zc_S_49 : ZCV "BesideAnother$Search" 49 y_T_spent 0 := ⟨(gwc3 234 rfl rfl), (gwc3 30 rfl rfl), (gwc3 31 rfl rfl), (gwc1 4 rfl rfl), (gwc3 32 rfl rfl), ⟨by decide +kernel, by decide +kernel⟩, by decide +kernel, by decide⟩
theorem zc_S_55 : ZCV "BesideAnother$Search" 55 y_T_possible 3 := ⟨(gwc3 235 rfl rfl), (gwc3 61 rfl rfl), (gwc3 62 rfl rfl), (gwc1 4 rfl rfl), (gwc3 63 rfl rfl), ⟨by decide +kernel, by decide +kernel⟩, by decide +kernel, by decide⟩
theorem zc_S_58 : ZCV "BesideAnother$Search" 58 y_T_after 2 := ⟨(gwc3 236 rfl rfl), (gwc3 48 rfl rfl), (gwc3 49 rfl rfl), (gwc1 4 rfl rfl), (gwc3 50 rfl rfl), ⟨by decide +kernel, by decide +kernel⟩, by decide +kernel, by decide⟩
theorem zc_S_62 : ZCV "BesideAnother$Search" 62 y_S_slotOf 1 := ⟨(gwc3 225 rfl rfl), (gwc3 227 rfl rfl), (gwp 26 rfl rfl), (gwc1 6 rfl rfl), (gwc3 228 rfl rfl), ⟨by decide +kernel, by decide +kernel⟩, by decide +kernel, by decide⟩
theorem zc_S_67 : ZCN "BesideAnother$Search" 67 y_X_anywhere 1 := ⟨List.mem_of_getElem? (i := 725) (by decide +kernel), (gwc3 45 rfl rfl), (gwc1 1 rfl rfl), (gwc3 46 rfl rfl), ⟨by decide +kernel, by decide +kernel⟩, by decide +kernel, by decide⟩
theorem zc_V_27 : ZCS "BesideAnother$Survey" 27 y_J_bitCount 1 := ⟨(gwc3 188 rfl rfl), (gwc2 224 rfl rfl), (gwc1 13 rfl rfl), (gwc2 225 rfl rfl), ⟨by decide +kernel, by decide +kernel⟩, by decide +kernel, by decide⟩
theorem zc_T_44 : ZCV "BesideAnother$Tables" 44 y_B_condition 0 := ⟨(gwc2 211 rfl rfl), (gwc2 212 rfl rfl), (gwc2 213 rfl rfl), (gwc1 5 rfl rfl), (gwc2 214 rfl rfl), ⟨by decide +kernel, by decide +kernel⟩, by decide +kernel, by decide⟩
theorem zc_T_48 : ZCV "BesideAnother$Tables" 48 y_E_worth 3 := ⟨(gwc2 219 rfl rfl), (gwc2 220 rfl rfl), (gwc2 221 rfl rfl), (gwc1 3 rfl rfl), (gwc2 222 rfl rfl), ⟨by decide +kernel, by decide +kernel⟩, by decide +kernel, by decide⟩
theorem zc_T_54 : ZCN "BesideAnother$Tables" 54 y_X_on 2 := ⟨List.mem_of_getElem? (i := 446) (by decide +kernel), (gwc2 200 rfl rfl), (gwc1 1 rfl rfl), (gwc2 201 rfl rfl), ⟨by decide +kernel, by decide +kernel⟩, by decide +kernel, by decide⟩
theorem zc_T_58 : ZCV "BesideAnother$Tables" 58 y_T_mayBy 2 := ⟨(gwc2 207 rfl rfl), (gwc2 208 rfl rfl), (gwc2 209 rfl rfl), (gwc1 4 rfl rfl), (gwc2 210 rfl rfl), ⟨by decide +kernel, by decide +kernel⟩, by decide +kernel, by decide⟩
theorem zc_T_62 : ZCN "BesideAnother$Tables" 62 y_X_with 3 := ⟨List.mem_of_getElem? (i := 472) (by decide +kernel), (gwc2 233 rfl rfl), (gwc1 1 rfl rfl), (gwc2 234 rfl rfl), ⟨by decide +kernel, by decide +kernel⟩, by decide +kernel, by decide⟩
theorem zc_T_66 : ZCN "BesideAnother$Tables" 66 y_X_anywhere 1 := ⟨List.mem_of_getElem? (i := 544) (by decide +kernel), (gwc3 45 rfl rfl), (gwc1 1 rfl rfl), (gwc3 46 rfl rfl), ⟨by decide +kernel, by decide +kernel⟩, by decide +kernel, by decide⟩
theorem zc_T_70 : ZCS "BesideAnother$Tables" 70 y_J_bitCount 1 := ⟨(gwc3 39 rfl rfl), (gwc2 224 rfl rfl), (gwc1 13 rfl rfl), (gwc2 225 rfl rfl), ⟨by decide +kernel, by decide +kernel⟩, by decide +kernel, by decide⟩
theorem zc_T_76 : ZCV "BesideAnother$Tables" 76 y_T_has 1 := ⟨(gwc3 37 rfl rfl), (gwc2 119 rfl rfl), (gwc2 120 rfl rfl), (gwc1 4 rfl rfl), (gwc2 121 rfl rfl), ⟨by decide +kernel, by decide +kernel⟩, by decide +kernel, by decide⟩
theorem zc_T_80 : ZCN "BesideAnother$Tables" 80 y_X_tableOf 2 := ⟨List.mem_of_getElem? (i := 518) (by decide +kernel), (gwc2 197 rfl rfl), (gwc1 1 rfl rfl), (gwc2 198 rfl rfl), ⟨by decide +kernel, by decide +kernel⟩, by decide +kernel, by decide⟩
theorem zc_T_83 : ZCV "BesideAnother$Tables" 83 y_T_settled 2 := ⟨(gwc3 51 rfl rfl), (gwc2 203 rfl rfl), (gwc2 204 rfl rfl), (gwc1 4 rfl rfl), (gwc2 205 rfl rfl), ⟨by decide +kernel, by decide +kernel⟩, by decide +kernel, by decide⟩
theorem zc_P_47 : ZCV "BesideAnother$Text" 47 y_E_clear 0 := ⟨(gwc2 133 rfl rfl), (gwc2 134 rfl rfl), (gwc2 135 rfl rfl), (gwc1 3 rfl rfl), (gwc2 136 rfl rfl), ⟨by decide +kernel, by decide +kernel⟩, by decide +kernel, by decide⟩
theorem zc_P_50 : ZCV "BesideAnother$Text" 50 y_P_whole 1 := ⟨(gwc2 137 rfl rfl), (gwc2 139 rfl rfl), (gwp 0 rfl rfl), (gwc1 2 rfl rfl), (gwc2 140 rfl rfl), ⟨by decide +kernel, by decide +kernel⟩, by decide +kernel, by decide⟩
theorem zc_P_54 : ZCV "BesideAnother$Text" 54 y_P_later 0 := ⟨(gwc2 177 rfl rfl), (gwc2 179 rfl rfl), (gwp 9 rfl rfl), (gwc1 2 rfl rfl), (gwc2 180 rfl rfl), ⟨by decide +kernel, by decide +kernel⟩, by decide +kernel, by decide⟩
theorem zc_P_58 : ZCV "BesideAnother$Text" 58 y_P_takes 1 := ⟨(gwc2 165 rfl rfl), (gwc2 167 rfl rfl), (gwp 7 rfl rfl), (gwc1 2 rfl rfl), (gwc2 168 rfl rfl), ⟨by decide +kernel, by decide +kernel⟩, by decide +kernel, by decide⟩
theorem zc_P_62 : ZCV "BesideAnother$Text" 62 y_P_anyOf 1 := ⟨(gwc2 141 rfl rfl), (gwc2 143 rfl rfl), (gwp 1 rfl rfl), (gwc1 2 rfl rfl), (gwc2 144 rfl rfl), ⟨by decide +kernel, by decide +kernel⟩, by decide +kernel, by decide⟩
theorem zc_P_65 : ZCV "BesideAnother$Text" 65 y_P_allOf 1 := ⟨(gwc2 145 rfl rfl), (gwc2 147 rfl rfl), (gwp 2 rfl rfl), (gwc1 2 rfl rfl), (gwc2 148 rfl rfl), ⟨by decide +kernel, by decide +kernel⟩, by decide +kernel, by decide⟩
theorem zc_P_68 : ZCV "BesideAnother$Text" 68 y_E_append 1 := ⟨(gwc2 173 rfl rfl), (gwc2 174 rfl rfl), (gwc2 175 rfl rfl), (gwc1 3 rfl rfl), (gwc2 176 rfl rfl), ⟨by decide +kernel, by decide +kernel⟩, by decide +kernel, by decide⟩
theorem zc_P_72 : ZCV "BesideAnother$Text" 72 y_P_compared 1 := ⟨(gwc2 149 rfl rfl), (gwc2 151 rfl rfl), (gwp 3 rfl rfl), (gwc1 2 rfl rfl), (gwc2 152 rfl rfl), ⟨by decide +kernel, by decide +kernel⟩, by decide +kernel, by decide⟩
theorem zc_P_75 : ZCV "BesideAnother$Text" 75 y_P_sum 1 := ⟨(gwc2 153 rfl rfl), (gwc2 155 rfl rfl), (gwp 4 rfl rfl), (gwc1 2 rfl rfl), (gwc2 156 rfl rfl), ⟨by decide +kernel, by decide +kernel⟩, by decide +kernel, by decide⟩
theorem zc_P_78 : ZCV "BesideAnother$Text" 78 y_P_denied 1 := ⟨(gwc2 157 rfl rfl), (gwc2 159 rfl rfl), (gwp 5 rfl rfl), (gwc1 2 rfl rfl), (gwc2 160 rfl rfl), ⟨by decide +kernel, by decide +kernel⟩, by decide +kernel, by decide⟩
theorem zc_P_81 : ZCV "BesideAnother$Text" 81 y_P_thing 1 := ⟨(gwc2 161 rfl rfl), (gwc2 163 rfl rfl), (gwp 6 rfl rfl), (gwc1 2 rfl rfl), (gwc2 164 rfl rfl), ⟨by decide +kernel, by decide +kernel⟩, by decide +kernel, by decide⟩
theorem zc_P_84 : ZCV "BesideAnother$Text" 84 y_P_isDigit 0 := ⟨(gwc2 169 rfl rfl), (gwc2 171 rfl rfl), (gwp 8 rfl rfl), (gwc1 2 rfl rfl), (gwc2 172 rfl rfl), ⟨by decide +kernel, by decide +kernel⟩, by decide +kernel, by decide⟩
theorem zc_L_7 : ZCV "BesideAnotherLaw" 7 y_X_about 2 := ⟨(gwc4 92 rfl rfl), (gwc4 93 rfl rfl), (gwc4 94 rfl rfl), (gwc1 1 rfl rfl), (gwc4 95 rfl rfl), ⟨by decide +kernel, by decide +kernel⟩, by decide +kernel, by decide⟩
theorem zc_L_15 : ZCV "BesideAnotherLaw" 15 y_X_value 2 := ⟨(gwc4 167 rfl rfl), (gwc4 168 rfl rfl), (gwc4 169 rfl rfl), (gwc1 1 rfl rfl), (gwc4 170 rfl rfl), ⟨by decide +kernel, by decide +kernel⟩, by decide +kernel, by decide⟩
theorem zc_L_18 : ZCV "BesideAnotherLaw" 18 y_X_of 2 := ⟨(gwc4 176 rfl rfl), (gwc4 177 rfl rfl), (gwc4 178 rfl rfl), (gwc1 1 rfl rfl), (gwc4 179 rfl rfl), ⟨by decide +kernel, by decide +kernel⟩, by decide +kernel, by decide⟩
theorem zc_L_21 : ZCV "BesideAnotherLaw" 21 y_X_row 1 := ⟨(gwc4 185 rfl rfl), (gwc4 186 rfl rfl), (gwc4 187 rfl rfl), (gwc1 1 rfl rfl), (gwc4 188 rfl rfl), ⟨by decide +kernel, by decide +kernel⟩, by decide +kernel, by decide⟩
theorem zc_L_29 : ZCV "BesideAnotherLaw" 29 y_X_sign 1 := ⟨(gwc2 98 rfl rfl), (gwc2 99 rfl rfl), (gwc2 100 rfl rfl), (gwc1 1 rfl rfl), (gwc2 101 rfl rfl), ⟨by decide +kernel, by decide +kernel⟩, by decide +kernel, by decide⟩
theorem zc_L_32 : ZCV "BesideAnotherLaw" 32 y_M_sign 1 := ⟨(gwc4 194 rfl rfl), (gwc4 195 rfl rfl), (gwc4 196 rfl rfl), (gwc1 10 rfl rfl), (gwc4 197 rfl rfl), ⟨by decide +kernel, by decide +kernel⟩, by decide +kernel, by decide⟩
theorem zc_L_33 : ZCV "BesideAnotherLaw" 33 y_X_end 1 := ⟨(gwc2 106 rfl rfl), (gwc2 107 rfl rfl), (gwc2 108 rfl rfl), (gwc1 1 rfl rfl), (gwc2 109 rfl rfl), ⟨by decide +kernel, by decide +kernel⟩, by decide +kernel, by decide⟩
theorem zc_L_37 : ZCV "BesideAnotherLaw" 37 y_M_end 1 := ⟨(gwc4 198 rfl rfl), (gwc4 199 rfl rfl), (gwc4 200 rfl rfl), (gwc1 10 rfl rfl), (gwc4 201 rfl rfl), ⟨by decide +kernel, by decide +kernel⟩, by decide +kernel, by decide⟩
theorem zc_L_38 : ZCV "BesideAnotherLaw" 38 y_X_book 1 := ⟨(gwc2 114 rfl rfl), (gwc2 115 rfl rfl), (gwc2 116 rfl rfl), (gwc1 1 rfl rfl), (gwc2 117 rfl rfl), ⟨by decide +kernel, by decide +kernel⟩, by decide +kernel, by decide⟩
theorem zc_L_41 : ZCV "BesideAnotherLaw" 41 y_M_book 1 := ⟨(gwc4 205 rfl rfl), (gwc4 206 rfl rfl), (gwc4 207 rfl rfl), (gwc1 10 rfl rfl), (gwc4 208 rfl rfl), ⟨by decide +kernel, by decide +kernel⟩, by decide +kernel, by decide⟩
theorem zc_L_42 : ZCV "BesideAnotherLaw" 42 y_X_rule 0 := ⟨(gwc2 237 rfl rfl), (gwc2 238 rfl rfl), (gwc2 239 rfl rfl), (gwc1 1 rfl rfl), (gwc3 0 rfl rfl), ⟨by decide +kernel, by decide +kernel⟩, by decide +kernel, by decide⟩
theorem zc_L_46 : ZCV "BesideAnotherLaw" 46 y_M_rule 0 := ⟨(gwc5 117 rfl rfl), (gwc5 118 rfl rfl), (gwc5 119 rfl rfl), (gwc1 10 rfl rfl), (gwc5 120 rfl rfl), ⟨by decide +kernel, by decide +kernel⟩, by decide +kernel, by decide⟩
theorem zc_L_47 : ZCV "BesideAnotherLaw" 47 y_X_set 3 := ⟨(gwc3 3 rfl rfl), (gwc3 4 rfl rfl), (gwc3 5 rfl rfl), (gwc1 1 rfl rfl), (gwc3 6 rfl rfl), ⟨by decide +kernel, by decide +kernel⟩, by decide +kernel, by decide⟩
theorem zc_L_51 : ZCV "BesideAnotherLaw" 51 y_M_set 3 := ⟨(gwc5 121 rfl rfl), (gwc5 122 rfl rfl), (gwc5 123 rfl rfl), (gwc1 10 rfl rfl), (gwc5 124 rfl rfl), ⟨by decide +kernel, by decide +kernel⟩, by decide +kernel, by decide⟩
theorem zc_L_52 : ZCV "BesideAnotherLaw" 52 y_X_sheet 4 := ⟨(gwc3 10 rfl rfl), (gwc3 11 rfl rfl), (gwc3 12 rfl rfl), (gwc1 1 rfl rfl), (gwc3 13 rfl rfl), ⟨by decide +kernel, by decide +kernel⟩, by decide +kernel, by decide⟩
theorem zc_L_56 : ZCV "BesideAnotherLaw" 56 y_M_sheet 4 := ⟨(gwc5 135 rfl rfl), (gwc5 136 rfl rfl), (gwc5 137 rfl rfl), (gwc1 10 rfl rfl), (gwc5 138 rfl rfl), ⟨by decide +kernel, by decide +kernel⟩, by decide +kernel, by decide⟩
theorem zc_L_62 : ZCV "BesideAnotherLaw" 62 y_M_about 2 := ⟨(gwc5 141 rfl rfl), (gwc5 142 rfl rfl), (gwc5 143 rfl rfl), (gwc1 10 rfl rfl), (gwc5 144 rfl rfl), ⟨by decide +kernel, by decide +kernel⟩, by decide +kernel, by decide⟩
theorem zc_L_63 : ZCV "BesideAnotherLaw" 63 y_M_thrown 0 := ⟨(gwc4 190 rfl rfl), (gwc4 191 rfl rfl), (gwc4 192 rfl rfl), (gwc1 10 rfl rfl), (gwc4 193 rfl rfl), ⟨by decide +kernel, by decide +kernel⟩, by decide +kernel, by decide⟩
theorem zc_L_66 : ZCV "BesideAnotherLaw" 66 y_X_open 1 := ⟨(gwc3 21 rfl rfl), (gwc3 22 rfl rfl), (gwc3 23 rfl rfl), (gwc1 1 rfl rfl), (gwc3 24 rfl rfl), ⟨by decide +kernel, by decide +kernel⟩, by decide +kernel, by decide⟩
theorem zc_L_69 : ZCV "BesideAnotherLaw" 69 y_M_open 1 := ⟨(gwc5 150 rfl rfl), (gwc5 151 rfl rfl), (gwc5 152 rfl rfl), (gwc1 10 rfl rfl), (gwc5 153 rfl rfl), ⟨by decide +kernel, by decide +kernel⟩, by decide +kernel, by decide⟩
theorem zc_L_72 : ZCV "BesideAnotherLaw" 72 y_M_value 2 := ⟨(gwc5 154 rfl rfl), (gwc5 155 rfl rfl), (gwc5 156 rfl rfl), (gwc1 10 rfl rfl), (gwc5 157 rfl rfl), ⟨by decide +kernel, by decide +kernel⟩, by decide +kernel, by decide⟩
theorem zc_L_73 : ZCV "BesideAnotherLaw" 73 y_X_act 1 := ⟨(gwc3 25 rfl rfl), (gwc3 26 rfl rfl), (gwc3 27 rfl rfl), (gwc1 1 rfl rfl), (gwc3 28 rfl rfl), ⟨by decide +kernel, by decide +kernel⟩, by decide +kernel, by decide⟩
theorem zc_L_76 : ZCV "BesideAnotherLaw" 76 y_M_act 1 := ⟨(gwc5 158 rfl rfl), (gwc5 159 rfl rfl), (gwc5 160 rfl rfl), (gwc1 10 rfl rfl), (gwc5 161 rfl rfl), ⟨by decide +kernel, by decide +kernel⟩, by decide +kernel, by decide⟩
theorem zc_L_77 : ZCV "BesideAnotherLaw" 77 y_X_why 1 := ⟨(gwc3 52 rfl rfl), (gwc3 53 rfl rfl), (gwc3 54 rfl rfl), (gwc1 1 rfl rfl), (gwc3 55 rfl rfl), ⟨by decide +kernel, by decide +kernel⟩, by decide +kernel, by decide⟩
theorem zc_L_80 : ZCV "BesideAnotherLaw" 80 y_M_why 1 := ⟨(gwc5 187 rfl rfl), (gwc5 188 rfl rfl), (gwc5 189 rfl rfl), (gwc1 10 rfl rfl), (gwc5 190 rfl rfl), ⟨by decide +kernel, by decide +kernel⟩, by decide +kernel, by decide⟩
theorem zc_L_81 : ZCV "BesideAnotherLaw" 81 y_X_can 0 := ⟨(gwc3 56 rfl rfl), (gwc3 57 rfl rfl), (gwc3 58 rfl rfl), (gwc1 1 rfl rfl), (gwc3 59 rfl rfl), ⟨by decide +kernel, by decide +kernel⟩, by decide +kernel, by decide⟩
theorem zc_L_84 : ZCV "BesideAnotherLaw" 84 y_M_can 0 := ⟨(gwc5 191 rfl rfl), (gwc5 192 rfl rfl), (gwc5 193 rfl rfl), (gwc1 10 rfl rfl), (gwc5 194 rfl rfl), ⟨by decide +kernel, by decide +kernel⟩, by decide +kernel, by decide⟩
theorem zc_L_85 : ZCV "BesideAnotherLaw" 85 y_X_night 1 := ⟨(gwc3 69 rfl rfl), (gwc3 70 rfl rfl), (gwc3 71 rfl rfl), (gwc1 1 rfl rfl), (gwc3 72 rfl rfl), ⟨by decide +kernel, by decide +kernel⟩, by decide +kernel, by decide⟩
theorem zc_L_88 : ZCV "BesideAnotherLaw" 88 y_M_night 1 := ⟨(gwc5 201 rfl rfl), (gwc5 202 rfl rfl), (gwc5 203 rfl rfl), (gwc1 10 rfl rfl), (gwc5 204 rfl rfl), ⟨by decide +kernel, by decide +kernel⟩, by decide +kernel, by decide⟩
theorem zc_L_89 : ZCV "BesideAnotherLaw" 89 y_X_judge 3 := ⟨(gwc3 78 rfl rfl), (gwc3 79 rfl rfl), (gwc3 80 rfl rfl), (gwc1 1 rfl rfl), (gwc3 81 rfl rfl), ⟨by decide +kernel, by decide +kernel⟩, by decide +kernel, by decide⟩
theorem zc_L_92 : ZCV "BesideAnotherLaw" 92 y_M_judge 3 := ⟨(gwc5 209 rfl rfl), (gwc5 210 rfl rfl), (gwc5 211 rfl rfl), (gwc1 10 rfl rfl), (gwc5 212 rfl rfl), ⟨by decide +kernel, by decide +kernel⟩, by decide +kernel, by decide⟩
theorem zc_L_93 : ZCV "BesideAnotherLaw" 93 y_X_reader 2 := ⟨(gwc3 86 rfl rfl), (gwc3 87 rfl rfl), (gwc3 88 rfl rfl), (gwc1 1 rfl rfl), (gwc3 89 rfl rfl), ⟨by decide +kernel, by decide +kernel⟩, by decide +kernel, by decide⟩
theorem zc_L_96 : ZCV "BesideAnotherLaw" 96 y_M_reader 2 := ⟨(gwc5 222 rfl rfl), (gwc5 223 rfl rfl), (gwc5 224 rfl rfl), (gwc1 10 rfl rfl), (gwc5 225 rfl rfl), ⟨by decide +kernel, by decide +kernel⟩, by decide +kernel, by decide⟩
theorem zc_L_97 : ZCV "BesideAnotherLaw" 97 y_X_sit 2 := ⟨(gwc3 94 rfl rfl), (gwc3 95 rfl rfl), (gwc3 96 rfl rfl), (gwc1 1 rfl rfl), (gwc3 97 rfl rfl), ⟨by decide +kernel, by decide +kernel⟩, by decide +kernel, by decide⟩
theorem zc_L_100 : ZCV "BesideAnotherLaw" 100 y_M_sit 2 := ⟨(gwc5 226 rfl rfl), (gwc5 227 rfl rfl), (gwc5 228 rfl rfl), (gwc1 10 rfl rfl), (gwc5 229 rfl rfl), ⟨by decide +kernel, by decide +kernel⟩, by decide +kernel, by decide⟩
theorem zc_L_101 : ZCV "BesideAnotherLaw" 101 y_X_read 2 := ⟨(gwc3 102 rfl rfl), (gwc3 103 rfl rfl), (gwc3 104 rfl rfl), (gwc1 1 rfl rfl), (gwc3 105 rfl rfl), ⟨by decide +kernel, by decide +kernel⟩, by decide +kernel, by decide⟩
theorem zc_L_104 : ZCV "BesideAnotherLaw" 104 y_M_read 2 := ⟨(gwc5 234 rfl rfl), (gwc5 235 rfl rfl), (gwc5 236 rfl rfl), (gwc1 10 rfl rfl), (gwc5 237 rfl rfl), ⟨by decide +kernel, by decide +kernel⟩, by decide +kernel, by decide⟩
theorem zc_L_107 : ZCV "BesideAnotherLaw" 107 y_M_of 2 := ⟨(gwc6 2 rfl rfl), (gwc6 3 rfl rfl), (gwc6 4 rfl rfl), (gwc1 10 rfl rfl), (gwc6 5 rfl rfl), ⟨by decide +kernel, by decide +kernel⟩, by decide +kernel, by decide⟩
theorem zc_L_108 : ZCV "BesideAnotherLaw" 108 y_X_hours 1 := ⟨(gwc3 110 rfl rfl), (gwc3 111 rfl rfl), (gwc3 112 rfl rfl), (gwc1 1 rfl rfl), (gwc3 113 rfl rfl), ⟨by decide +kernel, by decide +kernel⟩, by decide +kernel, by decide⟩
theorem zc_L_111 : ZCV "BesideAnotherLaw" 111 y_M_hours 1 := ⟨(gwc6 10 rfl rfl), (gwc6 11 rfl rfl), (gwc6 12 rfl rfl), (gwc1 10 rfl rfl), (gwc6 13 rfl rfl), ⟨by decide +kernel, by decide +kernel⟩, by decide +kernel, by decide⟩
theorem zc_L_112 : ZCV "BesideAnotherLaw" 112 y_X_log 1 := ⟨(gwc3 143 rfl rfl), (gwc3 144 rfl rfl), (gwc3 145 rfl rfl), (gwc1 1 rfl rfl), (gwc3 146 rfl rfl), ⟨by decide +kernel, by decide +kernel⟩, by decide +kernel, by decide⟩
theorem zc_L_115 : ZCV "BesideAnotherLaw" 115 y_M_log 1 := ⟨(gwc6 47 rfl rfl), (gwc6 48 rfl rfl), (gwc6 49 rfl rfl), (gwc1 10 rfl rfl), (gwc6 50 rfl rfl), ⟨by decide +kernel, by decide +kernel⟩, by decide +kernel, by decide⟩
theorem zc_L_116 : ZCV "BesideAnotherLaw" 116 y_X_order 0 := ⟨(gwc3 151 rfl rfl), (gwc3 152 rfl rfl), (gwc3 153 rfl rfl), (gwc1 1 rfl rfl), (gwc3 154 rfl rfl), ⟨by decide +kernel, by decide +kernel⟩, by decide +kernel, by decide⟩
theorem zc_L_119 : ZCV "BesideAnotherLaw" 119 y_M_order 0 := ⟨(gwc6 51 rfl rfl), (gwc6 52 rfl rfl), (gwc6 53 rfl rfl), (gwc1 10 rfl rfl), (gwc6 54 rfl rfl), ⟨by decide +kernel, by decide +kernel⟩, by decide +kernel, by decide⟩
theorem zc_L_120 : ZCV "BesideAnotherLaw" 120 y_X_ring 0 := ⟨(gwc3 155 rfl rfl), (gwc3 156 rfl rfl), (gwc3 157 rfl rfl), (gwc1 1 rfl rfl), (gwc3 158 rfl rfl), ⟨by decide +kernel, by decide +kernel⟩, by decide +kernel, by decide⟩
theorem zc_L_123 : ZCV "BesideAnotherLaw" 123 y_M_ring 0 := ⟨(gwc6 55 rfl rfl), (gwc6 56 rfl rfl), (gwc6 57 rfl rfl), (gwc1 10 rfl rfl), (gwc6 58 rfl rfl), ⟨by decide +kernel, by decide +kernel⟩, by decide +kernel, by decide⟩
theorem zc_L_124 : ZCV "BesideAnotherLaw" 124 y_X_needs 2 := ⟨(gwc3 167 rfl rfl), (gwc3 168 rfl rfl), (gwc3 169 rfl rfl), (gwc1 1 rfl rfl), (gwc3 170 rfl rfl), ⟨by decide +kernel, by decide +kernel⟩, by decide +kernel, by decide⟩
theorem zc_L_127 : ZCV "BesideAnotherLaw" 127 y_M_needs 2 := ⟨(gwc6 67 rfl rfl), (gwc6 68 rfl rfl), (gwc6 69 rfl rfl), (gwc1 10 rfl rfl), (gwc6 70 rfl rfl), ⟨by decide +kernel, by decide +kernel⟩, by decide +kernel, by decide⟩
theorem zc_L_128 : ZCV "BesideAnotherLaw" 128 y_X_bars 2 := ⟨(gwc3 189 rfl rfl), (gwc3 190 rfl rfl), (gwc3 191 rfl rfl), (gwc1 1 rfl rfl), (gwc3 192 rfl rfl), ⟨by decide +kernel, by decide +kernel⟩, by decide +kernel, by decide⟩
theorem zc_L_131 : ZCV "BesideAnotherLaw" 131 y_M_bars 2 := ⟨(gwc6 75 rfl rfl), (gwc6 76 rfl rfl), (gwc6 77 rfl rfl), (gwc1 10 rfl rfl), (gwc6 78 rfl rfl), ⟨by decide +kernel, by decide +kernel⟩, by decide +kernel, by decide⟩
theorem zc_L_132 : ZCV "BesideAnotherLaw" 132 y_X_least 2 := ⟨(gwc3 193 rfl rfl), (gwc3 194 rfl rfl), (gwc3 195 rfl rfl), (gwc1 1 rfl rfl), (gwc3 196 rfl rfl), ⟨by decide +kernel, by decide +kernel⟩, by decide +kernel, by decide⟩
theorem zc_L_135 : ZCV "BesideAnotherLaw" 135 y_M_least 2 := ⟨(gwc6 79 rfl rfl), (gwc6 80 rfl rfl), (gwc6 81 rfl rfl), (gwc1 10 rfl rfl), (gwc6 82 rfl rfl), ⟨by decide +kernel, by decide +kernel⟩, by decide +kernel, by decide⟩
theorem zc_L_136 : ZCV "BesideAnotherLaw" 136 y_X_knot 1 := ⟨(gwc3 197 rfl rfl), (gwc3 198 rfl rfl), (gwc3 199 rfl rfl), (gwc1 1 rfl rfl), (gwc3 200 rfl rfl), ⟨by decide +kernel, by decide +kernel⟩, by decide +kernel, by decide⟩
theorem zc_L_139 : ZCV "BesideAnotherLaw" 139 y_M_knot 1 := ⟨(gwc6 83 rfl rfl), (gwc6 84 rfl rfl), (gwc6 85 rfl rfl), (gwc1 10 rfl rfl), (gwc6 86 rfl rfl), ⟨by decide +kernel, by decide +kernel⟩, by decide +kernel, by decide⟩
theorem zc_L_140 : ZCV "BesideAnotherLaw" 140 y_X_hold 1 := ⟨(gwc3 201 rfl rfl), (gwc3 202 rfl rfl), (gwc3 203 rfl rfl), (gwc1 1 rfl rfl), (gwc3 204 rfl rfl), ⟨by decide +kernel, by decide +kernel⟩, by decide +kernel, by decide⟩
theorem zc_L_143 : ZCV "BesideAnotherLaw" 143 y_M_hold 1 := ⟨(gwc6 87 rfl rfl), (gwc6 88 rfl rfl), (gwc6 89 rfl rfl), (gwc1 10 rfl rfl), (gwc6 90 rfl rfl), ⟨by decide +kernel, by decide +kernel⟩, by decide +kernel, by decide⟩
theorem zc_L_144 : ZCV "BesideAnotherLaw" 144 y_X_comes 1 := ⟨(gwc3 205 rfl rfl), (gwc3 206 rfl rfl), (gwc3 207 rfl rfl), (gwc1 1 rfl rfl), (gwc3 208 rfl rfl), ⟨by decide +kernel, by decide +kernel⟩, by decide +kernel, by decide⟩
theorem zc_L_147 : ZCV "BesideAnotherLaw" 147 y_M_comes 1 := ⟨(gwc6 91 rfl rfl), (gwc6 92 rfl rfl), (gwc6 93 rfl rfl), (gwc1 10 rfl rfl), (gwc6 94 rfl rfl), ⟨by decide +kernel, by decide +kernel⟩, by decide +kernel, by decide⟩
theorem zc_L_148 : ZCV "BesideAnotherLaw" 148 y_X_together 2 := ⟨(gwc4 10 rfl rfl), (gwc4 11 rfl rfl), (gwc4 12 rfl rfl), (gwc1 1 rfl rfl), (gwc4 13 rfl rfl), ⟨by decide +kernel, by decide +kernel⟩, by decide +kernel, by decide⟩
theorem zc_L_151 : ZCV "BesideAnotherLaw" 151 y_M_together 2 := ⟨(gwc6 111 rfl rfl), (gwc6 112 rfl rfl), (gwc6 113 rfl rfl), (gwc1 10 rfl rfl), (gwc6 114 rfl rfl), ⟨by decide +kernel, by decide +kernel⟩, by decide +kernel, by decide⟩
theorem zc_L_152 : ZCV "BesideAnotherLaw" 152 y_X_frees 1 := ⟨(gwc4 22 rfl rfl), (gwc4 23 rfl rfl), (gwc4 24 rfl rfl), (gwc1 1 rfl rfl), (gwc4 25 rfl rfl), ⟨by decide +kernel, by decide +kernel⟩, by decide +kernel, by decide⟩
theorem zc_L_155 : ZCV "BesideAnotherLaw" 155 y_M_frees 1 := ⟨(gwc6 119 rfl rfl), (gwc6 120 rfl rfl), (gwc6 121 rfl rfl), (gwc1 10 rfl rfl), (gwc6 122 rfl rfl), ⟨by decide +kernel, by decide +kernel⟩, by decide +kernel, by decide⟩
theorem zc_L_156 : ZCV "BesideAnotherLaw" 156 y_X_keeps 2 := ⟨(gwc4 26 rfl rfl), (gwc4 27 rfl rfl), (gwc4 28 rfl rfl), (gwc1 1 rfl rfl), (gwc4 29 rfl rfl), ⟨by decide +kernel, by decide +kernel⟩, by decide +kernel, by decide⟩
theorem zc_L_159 : ZCV "BesideAnotherLaw" 159 y_M_keeps 2 := ⟨(gwc6 123 rfl rfl), (gwc6 124 rfl rfl), (gwc6 125 rfl rfl), (gwc1 10 rfl rfl), (gwc6 126 rfl rfl), ⟨by decide +kernel, by decide +kernel⟩, by decide +kernel, by decide⟩
theorem zc_L_160 : ZCV "BesideAnotherLaw" 160 y_X_finish 2 := ⟨(gwc4 39 rfl rfl), (gwc4 40 rfl rfl), (gwc4 41 rfl rfl), (gwc1 1 rfl rfl), (gwc4 42 rfl rfl), ⟨by decide +kernel, by decide +kernel⟩, by decide +kernel, by decide⟩
theorem zc_L_163 : ZCV "BesideAnotherLaw" 163 y_M_finish 2 := ⟨(gwc6 131 rfl rfl), (gwc6 132 rfl rfl), (gwc6 133 rfl rfl), (gwc1 10 rfl rfl), (gwc6 134 rfl rfl), ⟨by decide +kernel, by decide +kernel⟩, by decide +kernel, by decide⟩
theorem zc_L_164 : ZCV "BesideAnotherLaw" 164 y_X_reach 0 := ⟨(gwc4 47 rfl rfl), (gwc4 48 rfl rfl), (gwc4 49 rfl rfl), (gwc1 1 rfl rfl), (gwc4 50 rfl rfl), ⟨by decide +kernel, by decide +kernel⟩, by decide +kernel, by decide⟩
theorem zc_L_167 : ZCV "BesideAnotherLaw" 167 y_M_reach 0 := ⟨(gwc6 135 rfl rfl), (gwc6 136 rfl rfl), (gwc6 137 rfl rfl), (gwc1 10 rfl rfl), (gwc6 138 rfl rfl), ⟨by decide +kernel, by decide +kernel⟩, by decide +kernel, by decide⟩
theorem zc_L_168 : ZCV "BesideAnotherLaw" 168 y_X_soonest 1 := ⟨(gwc4 55 rfl rfl), (gwc4 56 rfl rfl), (gwc4 57 rfl rfl), (gwc1 1 rfl rfl), (gwc4 58 rfl rfl), ⟨by decide +kernel, by decide +kernel⟩, by decide +kernel, by decide⟩
theorem zc_L_171 : ZCV "BesideAnotherLaw" 171 y_M_soonest 1 := ⟨(gwc6 171 rfl rfl), (gwc6 172 rfl rfl), (gwc6 173 rfl rfl), (gwc1 10 rfl rfl), (gwc6 174 rfl rfl), ⟨by decide +kernel, by decide +kernel⟩, by decide +kernel, by decide⟩
theorem zc_L_172 : ZCV "BesideAnotherLaw" 172 y_X_till 3 := ⟨(gwc4 59 rfl rfl), (gwc4 60 rfl rfl), (gwc4 61 rfl rfl), (gwc1 1 rfl rfl), (gwc4 62 rfl rfl), ⟨by decide +kernel, by decide +kernel⟩, by decide +kernel, by decide⟩
theorem zc_L_175 : ZCV "BesideAnotherLaw" 175 y_M_till 3 := ⟨(gwc6 179 rfl rfl), (gwc6 180 rfl rfl), (gwc6 181 rfl rfl), (gwc1 10 rfl rfl), (gwc6 182 rfl rfl), ⟨by decide +kernel, by decide +kernel⟩, by decide +kernel, by decide⟩
theorem zc_L_176 : ZCV "BesideAnotherLaw" 176 y_X_lost 0 := ⟨(gwc4 63 rfl rfl), (gwc4 64 rfl rfl), (gwc4 65 rfl rfl), (gwc1 1 rfl rfl), (gwc4 66 rfl rfl), ⟨by decide +kernel, by decide +kernel⟩, by decide +kernel, by decide⟩
theorem zc_L_179 : ZCV "BesideAnotherLaw" 179 y_M_lost 0 := ⟨(gwc6 183 rfl rfl), (gwc6 184 rfl rfl), (gwc6 185 rfl rfl), (gwc1 10 rfl rfl), (gwc6 186 rfl rfl), ⟨by decide +kernel, by decide +kernel⟩, by decide +kernel, by decide⟩
theorem zc_L_180 : ZCV "BesideAnotherLaw" 180 y_X_free 0 := ⟨(gwc4 67 rfl rfl), (gwc4 68 rfl rfl), (gwc4 69 rfl rfl), (gwc1 1 rfl rfl), (gwc4 70 rfl rfl), ⟨by decide +kernel, by decide +kernel⟩, by decide +kernel, by decide⟩
theorem zc_L_183 : ZCV "BesideAnotherLaw" 183 y_M_free 0 := ⟨(gwc6 187 rfl rfl), (gwc6 188 rfl rfl), (gwc6 189 rfl rfl), (gwc1 10 rfl rfl), (gwc6 190 rfl rfl), ⟨by decide +kernel, by decide +kernel⟩, by decide +kernel, by decide⟩
theorem zc_L_184 : ZCV "BesideAnotherLaw" 184 y_X_keep 1 := ⟨(gwc4 71 rfl rfl), (gwc4 72 rfl rfl), (gwc4 73 rfl rfl), (gwc1 1 rfl rfl), (gwc4 74 rfl rfl), ⟨by decide +kernel, by decide +kernel⟩, by decide +kernel, by decide⟩
theorem zc_L_187 : ZCV "BesideAnotherLaw" 187 y_M_keep 1 := ⟨(gwc6 191 rfl rfl), (gwc6 192 rfl rfl), (gwc6 193 rfl rfl), (gwc1 10 rfl rfl), (gwc6 194 rfl rfl), ⟨by decide +kernel, by decide +kernel⟩, by decide +kernel, by decide⟩
theorem zc_L_188 : ZCV "BesideAnotherLaw" 188 y_X_again 1 := ⟨(gwc4 76 rfl rfl), (gwc4 77 rfl rfl), (gwc4 78 rfl rfl), (gwc1 1 rfl rfl), (gwc4 79 rfl rfl), ⟨by decide +kernel, by decide +kernel⟩, by decide +kernel, by decide⟩
theorem zc_L_191 : ZCV "BesideAnotherLaw" 191 y_M_again 1 := ⟨(gwc6 195 rfl rfl), (gwc6 196 rfl rfl), (gwc6 197 rfl rfl), (gwc1 10 rfl rfl), (gwc6 198 rfl rfl), ⟨by decide +kernel, by decide +kernel⟩, by decide +kernel, by decide⟩
theorem zc_L_192 : ZCV "BesideAnotherLaw" 192 y_X_count 1 := ⟨(gwc4 84 rfl rfl), (gwc4 85 rfl rfl), (gwc4 86 rfl rfl), (gwc1 1 rfl rfl), (gwc4 87 rfl rfl), ⟨by decide +kernel, by decide +kernel⟩, by decide +kernel, by decide⟩
theorem zc_L_195 : ZCV "BesideAnotherLaw" 195 y_M_count 1 := ⟨(gwc6 199 rfl rfl), (gwc6 200 rfl rfl), (gwc6 201 rfl rfl), (gwc1 10 rfl rfl), (gwc6 202 rfl rfl), ⟨by decide +kernel, by decide +kernel⟩, by decide +kernel, by decide⟩
theorem zc_L_199 : ZCV "BesideAnotherLaw" 199 y_M_row 1 := ⟨(gwc7 131 rfl rfl), (gwc7 132 rfl rfl), (gwc7 133 rfl rfl), (gwc1 10 rfl rfl), (gwc7 134 rfl rfl), ⟨by decide +kernel, by decide +kernel⟩, by decide +kernel, by decide⟩
theorem zc_M_17 : ZCS "BesideAnotherModel" 17 y_M_in 3 := ⟨(gwc4 202 rfl rfl), (gwc4 203 rfl rfl), (gwc1 10 rfl rfl), (gwc4 204 rfl rfl), ⟨by decide +kernel, by decide +kernel⟩, by decide +kernel, by decide⟩
theorem zc_M_29 : ZCS "BesideAnotherModel" 29 y_M_has 2 := ⟨(gwc5 81 rfl rfl), (gwc5 82 rfl rfl), (gwc1 10 rfl rfl), (gwc5 83 rfl rfl), ⟨by decide +kernel, by decide +kernel⟩, by decide +kernel, by decide⟩
theorem zc_M_33 : ZCS "BesideAnotherModel" 33 y_M_flag 1 := ⟨(gwc4 232 rfl rfl), (gwc4 233 rfl rfl), (gwc1 10 rfl rfl), (gwc4 234 rfl rfl), ⟨by decide +kernel, by decide +kernel⟩, by decide +kernel, by decide⟩
theorem zc_M_53 : ZCV "BesideAnotherModel" 53 y_Js_length 0 := ⟨(gwc5 14 rfl rfl), (gwc5 15 rfl rfl), (gwc5 16 rfl rfl), (gwc1 14 rfl rfl), (gwc5 17 rfl rfl), ⟨by decide +kernel, by decide +kernel⟩, by decide +kernel, by decide⟩
theorem zc_M_59 : ZCV "BesideAnotherModel" 59 y_Js_charAt 1 := ⟨(gwc5 24 rfl rfl), (gwc5 25 rfl rfl), (gwc5 26 rfl rfl), (gwc1 14 rfl rfl), (gwc5 27 rfl rfl), ⟨by decide +kernel, by decide +kernel⟩, by decide +kernel, by decide⟩
theorem zc_M_72 : ZCV "BesideAnotherModel" 72 y_M_isDigit 0 := ⟨(gwc4 239 rfl rfl), (gwc5 1 rfl rfl), (gwp 38 rfl rfl), (gwc1 10 rfl rfl), (gwc5 2 rfl rfl), ⟨by decide +kernel, by decide +kernel⟩, by decide +kernel, by decide⟩
theorem zc_M_76 : ZCV "BesideAnotherModel" 76 y_M_marks 1 := ⟨(gwc5 5 rfl rfl), (gwc5 7 rfl rfl), (gwp 39 rfl rfl), (gwc1 10 rfl rfl), (gwc5 8 rfl rfl), ⟨by decide +kernel, by decide +kernel⟩, by decide +kernel, by decide⟩
theorem zc_M_82 : ZCV "BesideAnotherModel" 82 y_M_among 1 := ⟨(gwc5 10 rfl rfl), (gwc5 12 rfl rfl), (gwp 40 rfl rfl), (gwc1 10 rfl rfl), (gwc5 13 rfl rfl), ⟨by decide +kernel, by decide +kernel⟩, by decide +kernel, by decide⟩
theorem zc_M_91 : ZCV "BesideAnotherModel" 91 y_M_ranked 1 := ⟨(gwc4 220 rfl rfl), (gwc4 222 rfl rfl), (gwp 34 rfl rfl), (gwc1 10 rfl rfl), (gwc4 223 rfl rfl), ⟨by decide +kernel, by decide +kernel⟩, by decide +kernel, by decide⟩
theorem zc_M_95 : ZCV "BesideAnotherModel" 95 y_M_takes 1 := ⟨(gwc4 228 rfl rfl), (gwc4 230 rfl rfl), (gwp 36 rfl rfl), (gwc1 10 rfl rfl), (gwc4 231 rfl rfl), ⟨by decide +kernel, by decide +kernel⟩, by decide +kernel, by decide⟩
theorem zc_M_98 : ZCV "BesideAnotherModel" 98 y_M_thing 0 := ⟨(gwc4 235 rfl rfl), (gwc4 237 rfl rfl), (gwp 37 rfl rfl), (gwc1 10 rfl rfl), (gwc4 238 rfl rfl), ⟨by decide +kernel, by decide +kernel⟩, by decide +kernel, by decide⟩
theorem zc_M_101 : ZCV "BesideAnotherModel" 101 y_M_ahead 0 := ⟨(gwc4 224 rfl rfl), (gwc4 226 rfl rfl), (gwp 35 rfl rfl), (gwc1 10 rfl rfl), (gwc4 227 rfl rfl), ⟨by decide +kernel, by decide +kernel⟩, by decide +kernel, by decide⟩
theorem zc_M_118 : ZCS "BesideAnotherModel" 118 y_J_bitCount 1 := ⟨(gwc5 112 rfl rfl), (gwc2 224 rfl rfl), (gwc1 13 rfl rfl), (gwc2 225 rfl rfl), ⟨by decide +kernel, by decide +kernel⟩, by decide +kernel, by decide⟩
theorem zc_M_127 : ZCV "BesideAnotherModel" 127 y_M_signOf 4 := ⟨(gwc5 108 rfl rfl), (gwc5 110 rfl rfl), (gwp 50 rfl rfl), (gwc1 10 rfl rfl), (gwc5 111 rfl rfl), ⟨by decide +kernel, by decide +kernel⟩, by decide +kernel, by decide⟩
theorem zc_M_131 : ZCV "BesideAnotherModel" 131 y_M_acted 3 := ⟨(gwc5 113 rfl rfl), (gwc5 115 rfl rfl), (gwp 51 rfl rfl), (gwc1 10 rfl rfl), (gwc5 116 rfl rfl), ⟨by decide +kernel, by decide +kernel⟩, by decide +kernel, by decide⟩
theorem zc_M_138 : ZCV "BesideAnotherModel" 138 y_M_readBy 1 := ⟨(gwc5 100 rfl rfl), (gwc5 102 rfl rfl), (gwp 48 rfl rfl), (gwc1 10 rfl rfl), (gwc5 103 rfl rfl), ⟨by decide +kernel, by decide +kernel⟩, by decide +kernel, by decide⟩
theorem zc_M_141 : ZCV "BesideAnotherModel" 141 y_M_isSecond 1 := ⟨(gwc5 96 rfl rfl), (gwc5 98 rfl rfl), (gwp 47 rfl rfl), (gwc1 10 rfl rfl), (gwc5 99 rfl rfl), ⟨by decide +kernel, by decide +kernel⟩, by decide +kernel, by decide⟩
theorem zc_M_144 : ZCV "BesideAnotherModel" 144 y_M_works 4 := ⟨(gwc5 104 rfl rfl), (gwc5 106 rfl rfl), (gwp 49 rfl rfl), (gwc1 10 rfl rfl), (gwc5 107 rfl rfl), ⟨by decide +kernel, by decide +kernel⟩, by decide +kernel, by decide⟩
theorem zc_M_147 : ZCV "BesideAnotherModel" 147 y_M_conditionOf 3 := ⟨(gwc5 92 rfl rfl), (gwc5 94 rfl rfl), (gwp 46 rfl rfl), (gwc1 10 rfl rfl), (gwc5 95 rfl rfl), ⟨by decide +kernel, by decide +kernel⟩, by decide +kernel, by decide⟩
theorem zc_M_150 : ZCV "BesideAnotherModel" 150 y_M_may 3 := ⟨(gwc5 88 rfl rfl), (gwc5 90 rfl rfl), (gwp 45 rfl rfl), (gwc1 10 rfl rfl), (gwc5 91 rfl rfl), ⟨by decide +kernel, by decide +kernel⟩, by decide +kernel, by decide⟩
theorem zc_M_157 : ZCV "BesideAnotherModel" 157 y_M_begins 1 := ⟨(gwc4 209 rfl rfl), (gwc4 211 rfl rfl), (gwp 32 rfl rfl), (gwc1 10 rfl rfl), (gwc4 213 rfl rfl), ⟨by decide +kernel, by decide +kernel⟩, by decide +kernel, by decide⟩
theorem zc_M_162 : ZCV "BesideAnotherModel" 162 y_M_reads 1 := ⟨(gwc4 216 rfl rfl), (gwc4 218 rfl rfl), (gwp 33 rfl rfl), (gwc1 10 rfl rfl), (gwc4 219 rfl rfl), ⟨by decide +kernel, by decide +kernel⟩, by decide +kernel, by decide⟩
theorem zc_M_169 : ZCV "BesideAnotherModel" 169 y_M_faultOf 3 := ⟨(gwc5 69 rfl rfl), (gwc5 71 rfl rfl), (gwp 41 rfl rfl), (gwc1 10 rfl rfl), (gwc5 72 rfl rfl), ⟨by decide +kernel, by decide +kernel⟩, by decide +kernel, by decide⟩
theorem zc_M_179 : ZCV "BesideAnotherModel" 179 y_M_lays 2 := ⟨(gwc5 73 rfl rfl), (gwc5 75 rfl rfl), (gwp 42 rfl rfl), (gwc1 10 rfl rfl), (gwc5 76 rfl rfl), ⟨by decide +kernel, by decide +kernel⟩, by decide +kernel, by decide⟩
theorem zc_M_183 : ZCV "BesideAnotherModel" 183 y_M_tableOf 1 := ⟨(gwc5 77 rfl rfl), (gwc5 79 rfl rfl), (gwp 43 rfl rfl), (gwc1 10 rfl rfl), (gwc5 80 rfl rfl), ⟨by decide +kernel, by decide +kernel⟩, by decide +kernel, by decide⟩
theorem zc_M_186 : ZCV "BesideAnotherModel" 186 y_M_settled 2 := ⟨(gwc5 84 rfl rfl), (gwc5 86 rfl rfl), (gwp 44 rfl rfl), (gwc1 10 rfl rfl), (gwc5 87 rfl rfl), ⟨by decide +kernel, by decide +kernel⟩, by decide +kernel, by decide⟩
theorem zc_M_189 : ZCV "BesideAnotherModel" 189 y_M_isBook 1 := ⟨(gwc5 125 rfl rfl), (gwc5 127 rfl rfl), (gwp 52 rfl rfl), (gwc1 10 rfl rfl), (gwc5 128 rfl rfl), ⟨by decide +kernel, by decide +kernel⟩, by decide +kernel, by decide⟩
theorem zc_M_194 : ZCS "BesideAnotherModel" 194 y_M_isTable 1 := ⟨(gwc5 130 rfl rfl), (gwc5 131 rfl rfl), (gwc1 10 rfl rfl), (gwc5 132 rfl rfl), ⟨by decide +kernel, by decide +kernel⟩, by decide +kernel, by decide⟩
theorem zc_M_209 : ZCV "BesideAnotherModel" 209 y_M_refuse 0 := ⟨(gwc5 146 rfl rfl), (gwc5 148 rfl rfl), (gwp 53 rfl rfl), (gwc1 10 rfl rfl), (gwc5 149 rfl rfl), ⟨by decide +kernel, by decide +kernel⟩, by decide +kernel, by decide⟩
theorem zc_M_214 : ZCV "BesideAnotherModel" 214 y_M_noPlace 2 := ⟨(gwc5 171 rfl rfl), (gwc5 173 rfl rfl), (gwp 56 rfl rfl), (gwc1 10 rfl rfl), (gwc5 174 rfl rfl), ⟨by decide +kernel, by decide +kernel⟩, by decide +kernel, by decide⟩
theorem zc_M_217 : ZCV "BesideAnotherModel" 217 y_M_opens 2 := ⟨(gwc5 179 rfl rfl), (gwc5 181 rfl rfl), (gwp 58 rfl rfl), (gwc1 10 rfl rfl), (gwc5 182 rfl rfl), ⟨by decide +kernel, by decide +kernel⟩, by decide +kernel, by decide⟩
theorem zc_M_220 : ZCV "BesideAnotherModel" 220 y_M_shut 1 := ⟨(gwc5 183 rfl rfl), (gwc5 185 rfl rfl), (gwp 59 rfl rfl), (gwc1 10 rfl rfl), (gwc5 186 rfl rfl), ⟨by decide +kernel, by decide +kernel⟩, by decide +kernel, by decide⟩
theorem zc_M_223 : ZCV "BesideAnotherModel" 223 y_M_isAct 1 := ⟨(gwc5 162 rfl rfl), (gwc5 164 rfl rfl), (gwp 54 rfl rfl), (gwc1 10 rfl rfl), (gwc5 165 rfl rfl), ⟨by decide +kernel, by decide +kernel⟩, by decide +kernel, by decide⟩
theorem zc_M_226 : ZCV "BesideAnotherModel" 226 y_M_whyNot 1 := ⟨(gwc5 167 rfl rfl), (gwc5 169 rfl rfl), (gwp 55 rfl rfl), (gwc1 10 rfl rfl), (gwc5 170 rfl rfl), ⟨by decide +kernel, by decide +kernel⟩, by decide +kernel, by decide⟩
theorem zc_M_229 : ZCV "BesideAnotherModel" 229 y_M_makes 1 := ⟨(gwc5 175 rfl rfl), (gwc5 177 rfl rfl), (gwp 57 rfl rfl), (gwc1 10 rfl rfl), (gwc5 178 rfl rfl), ⟨by decide +kernel, by decide +kernel⟩, by decide +kernel, by decide⟩
theorem zc_M_236 : ZCV "BesideAnotherModel" 236 y_M_enters 1 := ⟨(gwc5 197 rfl rfl), (gwc5 199 rfl rfl), (gwp 60 rfl rfl), (gwc1 10 rfl rfl), (gwc5 200 rfl rfl), ⟨by decide +kernel, by decide +kernel⟩, by decide +kernel, by decide⟩
theorem zc_M_239 : ZCV "BesideAnotherModel" 239 y_M_areBooks 1 := ⟨(gwc5 205 rfl rfl), (gwc5 207 rfl rfl), (gwp 61 rfl rfl), (gwc1 10 rfl rfl), (gwc5 208 rfl rfl), ⟨by decide +kernel, by decide +kernel⟩, by decide +kernel, by decide⟩
theorem zc_M_250 : ZCV "BesideAnotherModel" 250 y_M_putsBy 0 := ⟨(gwc5 214 rfl rfl), (gwc5 216 rfl rfl), (gwp 62 rfl rfl), (gwc1 10 rfl rfl), (gwc5 217 rfl rfl), ⟨by decide +kernel, by decide +kernel⟩, by decide +kernel, by decide⟩
theorem zc_M_254 : ZCV "BesideAnotherModel" 254 y_M_putsBack 0 := ⟨(gwc5 218 rfl rfl), (gwc5 220 rfl rfl), (gwp 63 rfl rfl), (gwc1 10 rfl rfl), (gwc5 221 rfl rfl), ⟨by decide +kernel, by decide +kernel⟩, by decide +kernel, by decide⟩
theorem zc_M_266 : ZCV "BesideAnotherModel" 266 y_M_isReader 1 := ⟨(gwc5 230 rfl rfl), (gwc5 232 rfl rfl), (gwp 64 rfl rfl), (gwc1 10 rfl rfl), (gwc5 233 rfl rfl), ⟨by decide +kernel, by decide +kernel⟩, by decide +kernel, by decide⟩
theorem zc_M_269 : ZCV "BesideAnotherModel" 269 y_M_hasRead 2 := ⟨(gwc5 238 rfl rfl), (gwc6 0 rfl rfl), (gwp 65 rfl rfl), (gwc1 10 rfl rfl), (gwc6 1 rfl rfl), ⟨by decide +kernel, by decide +kernel⟩, by decide +kernel, by decide⟩
theorem zc_M_272 : ZCV "BesideAnotherModel" 272 y_M_leftOf 1 := ⟨(gwc6 6 rfl rfl), (gwc6 8 rfl rfl), (gwp 66 rfl rfl), (gwc1 10 rfl rfl), (gwc6 9 rfl rfl), ⟨by decide +kernel, by decide +kernel⟩, by decide +kernel, by decide⟩
theorem zc_M_278 : ZCV "BesideAnotherModel" 278 y_M_ruleOf 1 := ⟨(gwc6 23 rfl rfl), (gwc6 25 rfl rfl), (gwp 69 rfl rfl), (gwc1 10 rfl rfl), (gwc6 26 rfl rfl), ⟨by decide +kernel, by decide +kernel⟩, by decide +kernel, by decide⟩
theorem zc_M_290 : ZCV "BesideAnotherModel" 290 y_M_firstOpen 2 := ⟨(gwc6 35 rfl rfl), (gwc6 37 rfl rfl), (gwp 71 rfl rfl), (gwc1 10 rfl rfl), (gwc6 38 rfl rfl), ⟨by decide +kernel, by decide +kernel⟩, by decide +kernel, by decide⟩
theorem zc_M_293 : ZCS "BesideAnotherModel" 293 y_J_numberOfTrailingZeros 1 := ⟨(gwc6 31 rfl rfl), (gwc6 32 rfl rfl), (gwc1 13 rfl rfl), (gwc6 33 rfl rfl), ⟨by decide +kernel, by decide +kernel⟩, by decide +kernel, by decide⟩
theorem zc_M_296 : ZCV "BesideAnotherModel" 296 y_M_helps 3 := ⟨(gwc6 39 rfl rfl), (gwc6 41 rfl rfl), (gwp 72 rfl rfl), (gwc1 10 rfl rfl), (gwc6 42 rfl rfl), ⟨by decide +kernel, by decide +kernel⟩, by decide +kernel, by decide⟩
theorem zc_M_299 : ZCV "BesideAnotherModel" 299 y_M_ranks 0 := ⟨(gwc6 19 rfl rfl), (gwc6 21 rfl rfl), (gwp 68 rfl rfl), (gwc1 10 rfl rfl), (gwc6 22 rfl rfl), ⟨by decide +kernel, by decide +kernel⟩, by decide +kernel, by decide⟩
theorem zc_M_302 : ZCV "BesideAnotherModel" 302 y_M_does 1 := ⟨(gwc6 27 rfl rfl), (gwc6 29 rfl rfl), (gwp 70 rfl rfl), (gwc1 10 rfl rfl), (gwc6 30 rfl rfl), ⟨by decide +kernel, by decide +kernel⟩, by decide +kernel, by decide⟩
theorem zc_M_305 : ZCV "BesideAnotherModel" 305 y_M_notes 1 := ⟨(gwc6 43 rfl rfl), (gwc6 45 rfl rfl), (gwp 73 rfl rfl), (gwc1 10 rfl rfl), (gwc6 46 rfl rfl), ⟨by decide +kernel, by decide +kernel⟩, by decide +kernel, by decide⟩
theorem zc_M_313 : ZCV "BesideAnotherModel" 313 y_M_goesHour 0 := ⟨(gwc6 15 rfl rfl), (gwc6 17 rfl rfl), (gwp 67 rfl rfl), (gwc1 10 rfl rfl), (gwc6 18 rfl rfl), ⟨by decide +kernel, by decide +kernel⟩, by decide +kernel, by decide⟩
theorem zc_M_322 : ZCV "BesideAnotherModel" 322 y_M_rings 3 := ⟨(gwc6 63 rfl rfl), (gwc6 65 rfl rfl), (gwp 75 rfl rfl), (gwc1 10 rfl rfl), (gwc6 66 rfl rfl), ⟨by decide +kernel, by decide +kernel⟩, by decide +kernel, by decide⟩
theorem zc_M_325 : ZCV "BesideAnotherModel" 325 y_M_tellsRing 2 := ⟨(gwc6 59 rfl rfl), (gwc6 61 rfl rfl), (gwp 74 rfl rfl), (gwc1 10 rfl rfl), (gwc6 62 rfl rfl), ⟨by decide +kernel, by decide +kernel⟩, by decide +kernel, by decide⟩
theorem zc_M_340 : ZCV "BesideAnotherModel" 340 y_M_looks 2 := ⟨(gwc6 71 rfl rfl), (gwc6 73 rfl rfl), (gwp 76 rfl rfl), (gwc1 10 rfl rfl), (gwc6 74 rfl rfl), ⟨by decide +kernel, by decide +kernel⟩, by decide +kernel, by decide⟩
theorem zc_M_358 : ZCV "BesideAnotherModel" 358 y_M_nextOf 2 := ⟨(gwc6 103 rfl rfl), (gwc6 105 rfl rfl), (gwp 79 rfl rfl), (gwc1 10 rfl rfl), (gwc6 106 rfl rfl), ⟨by decide +kernel, by decide +kernel⟩, by decide +kernel, by decide⟩
theorem zc_M_361 : ZCV "BesideAnotherModel" 361 y_M_laysOut 1 := ⟨(gwc6 95 rfl rfl), (gwc6 97 rfl rfl), (gwp 77 rfl rfl), (gwc1 10 rfl rfl), (gwc6 98 rfl rfl), ⟨by decide +kernel, by decide +kernel⟩, by decide +kernel, by decide⟩
theorem zc_M_364 : ZCV "BesideAnotherModel" 364 y_M_spreads 1 := ⟨(gwc6 99 rfl rfl), (gwc6 101 rfl rfl), (gwp 78 rfl rfl), (gwc1 10 rfl rfl), (gwc6 102 rfl rfl), ⟨by decide +kernel, by decide +kernel⟩, by decide +kernel, by decide⟩
theorem zc_M_367 : ZCV "BesideAnotherModel" 367 y_M_everOpen 0 := ⟨(gwc6 107 rfl rfl), (gwc6 109 rfl rfl), (gwp 80 rfl rfl), (gwc1 10 rfl rfl), (gwc6 110 rfl rfl), ⟨by decide +kernel, by decide +kernel⟩, by decide +kernel, by decide⟩
theorem zc_M_373 : ZCV "BesideAnotherModel" 373 y_M_tellsWay 2 := ⟨(gwc6 115 rfl rfl), (gwc6 117 rfl rfl), (gwp 81 rfl rfl), (gwc1 10 rfl rfl), (gwc6 118 rfl rfl), ⟨by decide +kernel, by decide +kernel⟩, by decide +kernel, by decide⟩
theorem zc_M_379 : ZCV "BesideAnotherModel" 379 y_M_everAll 0 := ⟨(gwc6 127 rfl rfl), (gwc6 129 rfl rfl), (gwp 82 rfl rfl), (gwc1 10 rfl rfl), (gwc6 130 rfl rfl), ⟨by decide +kernel, by decide +kernel⟩, by decide +kernel, by decide⟩
theorem zc_M_382 : ZCS "BesideAnotherModel" 382 y_M_setOf 2 := ⟨(gwc6 161 rfl rfl), (gwc6 162 rfl rfl), (gwc1 10 rfl rfl), (gwc6 163 rfl rfl), ⟨by decide +kernel, by decide +kernel⟩, by decide +kernel, by decide⟩
theorem zc_M_397 : ZCV "BesideAnotherModel" 397 y_M_slotOf 1 := ⟨(gwc6 151 rfl rfl), (gwc6 153 rfl rfl), (gwp 86 rfl rfl), (gwc1 10 rfl rfl), (gwc6 154 rfl rfl), ⟨by decide +kernel, by decide +kernel⟩, by decide +kernel, by decide⟩
theorem zc_M_413 : ZCV "BesideAnotherModel" 413 y_M_numberOf 3 := ⟨(gwc6 147 rfl rfl), (gwc6 149 rfl rfl), (gwp 85 rfl rfl), (gwc1 10 rfl rfl), (gwc6 150 rfl rfl), ⟨by decide +kernel, by decide +kernel⟩, by decide +kernel, by decide⟩
theorem zc_M_417 : ZCV "BesideAnotherModel" 417 y_M_stands 1 := ⟨(gwc6 157 rfl rfl), (gwc6 159 rfl rfl), (gwp 87 rfl rfl), (gwc1 10 rfl rfl), (gwc6 160 rfl rfl), ⟨by decide +kernel, by decide +kernel⟩, by decide +kernel, by decide⟩
theorem zc_M_421 : ZCV "BesideAnotherModel" 421 y_M_stateNow 0 := ⟨(gwc6 139 rfl rfl), (gwc6 141 rfl rfl), (gwp 83 rfl rfl), (gwc1 10 rfl rfl), (gwc6 142 rfl rfl), ⟨by decide +kernel, by decide +kernel⟩, by decide +kernel, by decide⟩
theorem zc_M_428 : ZCS "BesideAnotherModel" 428 y_M_everyOf 1 := ⟨(gwc6 168 rfl rfl), (gwc6 169 rfl rfl), (gwc1 10 rfl rfl), (gwc6 170 rfl rfl), ⟨by decide +kernel, by decide +kernel⟩, by decide +kernel, by decide⟩
theorem zc_M_431 : ZCV "BesideAnotherModel" 431 y_M_explores 1 := ⟨(gwc6 143 rfl rfl), (gwc6 145 rfl rfl), (gwp 84 rfl rfl), (gwc1 10 rfl rfl), (gwc6 146 rfl rfl), ⟨by decide +kernel, by decide +kernel⟩, by decide +kernel, by decide⟩
theorem zc_M_435 : ZCV "BesideAnotherModel" 435 y_M_everFound 0 := ⟨(gwc6 164 rfl rfl), (gwc6 166 rfl rfl), (gwp 88 rfl rfl), (gwc1 10 rfl rfl), (gwc6 167 rfl rfl), ⟨by decide +kernel, by decide +kernel⟩, by decide +kernel, by decide⟩
theorem zc_M_438 : ZCV "BesideAnotherModel" 438 y_M_tellsTo 1 := ⟨(gwc6 175 rfl rfl), (gwc6 177 rfl rfl), (gwp 89 rfl rfl), (gwc1 10 rfl rfl), (gwc6 178 rfl rfl), ⟨by decide +kernel, by decide +kernel⟩, by decide +kernel, by decide⟩
theorem zc_Js_335 : ZCV "java/lang/String" 335 y_Js_coder 0 := ⟨(gwc5 18 rfl rfl), (gwc5 19 rfl rfl), (gwc5 20 rfl rfl), (gwc1 14 rfl rfl), (gwc5 21 rfl rfl), ⟨by decide +kernel, by decide +kernel⟩, by decide +kernel, by decide⟩
theorem zc_Js_492 : ZCV "java/lang/String" 492 y_Js_isLatin1 0 := ⟨(gwc5 28 rfl rfl), (gwc5 29 rfl rfl), (gwc5 30 rfl rfl), (gwc1 14 rfl rfl), (gwc5 31 rfl rfl), ⟨by decide +kernel, by decide +kernel⟩, by decide +kernel, by decide⟩
theorem zc_Js_495 : ZCS "java/lang/String" 495 y_Jl_charAt 2 := ⟨(gwc5 32 rfl rfl), (gwc5 33 rfl rfl), (gwc1 15 rfl rfl), (gwc5 34 rfl rfl), ⟨by decide +kernel, by decide +kernel⟩, by decide +kernel, by decide⟩
theorem zc_Js_1059 : ZCS "java/lang/String" 1059 y_Jp_checkIndex 3 := ⟨(gwc5 40 rfl rfl), (gwc5 41 rfl rfl), (gwc1 16 rfl rfl), (gwc5 42 rfl rfl), ⟨by decide +kernel, by decide +kernel⟩, by decide +kernel, by decide⟩
theorem zc_Jl_9 : ZCS "java/lang/StringLatin1" 9 y_Js_checkIndex 2 := ⟨(gwc5 35 rfl rfl), (gwc5 36 rfl rfl), (gwc1 14 rfl rfl), (gwc5 37 rfl rfl), ⟨by decide +kernel, by decide +kernel⟩, by decide +kernel, by decide⟩
theorem zk_S_37 : Cond.constant "BesideAnother$Search" 37 (180000 : Int32) ∈ GW := (gwc1 150 rfl rfl)
theorem zk_S_66 : Cond.constant "BesideAnother$Search" 66 (-1640531535 : Int32) ∈ GW := (gwc3 229 rfl rfl)
theorem zk_S_70 : Cond.constant "BesideAnother$Search" 70 (60000 : Int32) ∈ GW := (gwc4 34 rfl rfl)
theorem zk_X_415 : Cond.constantLong "BesideAnother" 415 (4095 : Int64) ∈ GW := (gwc2 235 rfl rfl)
theorem zk_X_417 : Cond.constantLong "BesideAnother" 417 (-1 : Int64) ∈ GW := (gwc2 236 rfl rfl)
theorem zk_M_21 : Cond.constantLong "BesideAnotherModel" 21 (2 : Int64) ∈ GW := (gwc5 133 rfl rfl)
theorem zk_M_49 : Cond.constantLong "BesideAnotherModel" 49 (48 : Int64) ∈ GW := (gwc5 3 rfl rfl)
theorem zk_M_51 : Cond.constantLong "BesideAnotherModel" 51 (57 : Int64) ∈ GW := (gwc5 4 rfl rfl)
theorem zk_M_160 : Cond.constantLong "BesideAnotherModel" 160 (12 : Int64) ∈ GW := (gwc4 215 rfl rfl)
theorem zk_M_165 : Cond.constantLong "BesideAnotherModel" 165 (49 : Int64) ∈ GW := (gwc5 67 rfl rfl)
theorem zk_M_167 : Cond.constantLong "BesideAnotherModel" 167 (54 : Int64) ∈ GW := (gwc5 68 rfl rfl)
theorem zk_M_192 : Cond.constantLong "BesideAnotherModel" 192 (99 : Int64) ∈ GW := (gwc5 129 rfl rfl)
theorem zk_M_197 : Cond.constantLong "BesideAnotherModel" 197 (6 : Int64) ∈ GW := (gwc5 134 rfl rfl)
theorem zk_M_202 : Cond.constantLong "BesideAnotherModel" 202 (3 : Int64) ∈ GW := (gwc5 139 rfl rfl)
theorem zk_M_207 : Cond.constantLong "BesideAnotherModel" 207 (4 : Int64) ∈ GW := (gwc5 145 rfl rfl)
theorem zk_M_212 : Cond.constantLong "BesideAnotherModel" 212 (139 : Int64) ∈ GW := (gwc5 166 rfl rfl)
theorem zk_M_232 : Cond.constantLong "BesideAnotherModel" 232 (60 : Int64) ∈ GW := (gwc5 195 rfl rfl)
theorem zk_M_234 : Cond.constantLong "BesideAnotherModel" 234 (79 : Int64) ∈ GW := (gwc5 196 rfl rfl)
theorem zk_M_248 : Cond.constantLong "BesideAnotherModel" 248 (8 : Int64) ∈ GW := (gwc5 213 rfl rfl)
theorem zk_M_311 : Cond.constantLong "BesideAnotherModel" 311 (50 : Int64) ∈ GW := (gwc6 14 rfl rfl)
theorem zk_M_386 : Cond.constantLong "BesideAnotherModel" 386 (31 : Int64) ∈ GW := (gwc6 155 rfl rfl)
theorem zk_M_388 : Cond.constantLong "BesideAnotherModel" 388 (16384 : Int64) ∈ GW := (gwc6 156 rfl rfl)
theorem zk_M_456 : Cond.constant "BesideAnotherModel" 456 (98304 : Int32) ∈ GW := (gwc6 208 rfl rfl)
theorem zk_M_457 : Cond.constant "BesideAnotherModel" 457 (180000 : Int32) ∈ GW := (gwc6 209 rfl rfl)
theorem zk_J_264 : Cond.constant "java/lang/Integer" 264 (65536 : Int32) ∈ GW := (gwc6 34 rfl rfl)
theorem zk_J_265 : Cond.constant "java/lang/Integer" 265 (1431655765 : Int32) ∈ GW := (gwc2 226 rfl rfl)
theorem zk_J_266 : Cond.constant "java/lang/Integer" 266 (858993459 : Int32) ∈ GW := (gwc2 227 rfl rfl)
theorem zk_J_267 : Cond.constant "java/lang/Integer" 267 (252645135 : Int32) ∈ GW := (gwc2 228 rfl rfl)
