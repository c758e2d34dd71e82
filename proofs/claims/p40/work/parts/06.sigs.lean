/-! SIGNATURES, and what the tables say of each -/
def g_Fit_init : xSig := (⟨"TurningVerse$Fit", "<init>", "()V"⟩, prog_2_method_1_code, 1, none, 1, 20, 0, none)
def g_Fit_changes : xSig := (⟨"TurningVerse$Fit", "changes", "(LTurningVerse$Poem;II)I"⟩, prog_2_method_2_code, 5, some .int, 3, 74, 3, some 0)
def g_Fit_firstRow : xSig := (⟨"TurningVerse$Fit", "firstRow", "()I"⟩, prog_2_method_3_code, 5, some .int, 2, 47, 0, some 0)
def g_Fit_bestPermutation : xSig := (⟨"TurningVerse$Fit", "bestPermutation", "(LTurningVerse$Poem;I)I"⟩, prog_2_method_4_code, 9, some .int, 3, 74, 2, some 0)
def g_Fit_compare : xSig := (⟨"TurningVerse$Fit", "compare", "(LTurningVerse$Poem;II)V"⟩, prog_2_method_5_code, 9, none, 2, 46, 3, some 0)
def g_Fit_mostKept : xSig := (⟨"TurningVerse$Fit", "mostKept", "()I"⟩, prog_2_method_6_code, 6, some .int, 1, 26, 0, some 0)
def g_Fit_keptWith : xSig := (⟨"TurningVerse$Fit", "keptWith", "(III)I"⟩, prog_2_method_7_code, 5, some .int, 0, 0, 3, some 0)
def g_Fit_firstWord : xSig := (⟨"TurningVerse$Fit", "firstWord", "(II)I"⟩, prog_2_method_8_code, 4, some .int, 1, 24, 2, some 0)
def g_Fit_atMostKept : xSig := (⟨"TurningVerse$Fit", "atMostKept", "()I"⟩, prog_2_method_9_code, 4, some .int, 2, 49, 0, some 0)
def g_Fit_mostOfLine : xSig := (⟨"TurningVerse$Fit", "mostOfLine", "(I)I"⟩, prog_2_method_10_code, 4, some .int, 1, 26, 1, some 0)
def g_Fit_mostOfWord : xSig := (⟨"TurningVerse$Fit", "mostOfWord", "(I)I"⟩, prog_2_method_11_code, 4, some .int, 1, 26, 1, some 0)
def g_Hist_init : xSig := (⟨"TurningVerse$History", "<init>", "()V"⟩, prog_3_method_1_code, 2, none, 4, 86, 0, none)
def g_Hist_remember : xSig := (⟨"TurningVerse$History", "remember", "(LTurningVerse$State;)V"⟩, prog_3_method_2_code, 2, none, 3, 68, 1, some 1)
def g_Hist_restore : xSig := (⟨"TurningVerse$History", "restore", "(LTurningVerse$State;)V"⟩, prog_3_method_3_code, 2, none, 3, 68, 1, some 1)
def g_Perm_count : xSig := (⟨"TurningVerse$Permutation", "count", "(I)I"⟩, prog_4_method_2_code, 3, some .int, 0, 0, 1, none)
def g_Perm_number : xSig := (⟨"TurningVerse$Permutation", "number", "(II)I"⟩, prog_4_method_3_code, 6, some .int, 1, 21, 2, none)
def g_Perm_numbered : xSig := (⟨"TurningVerse$Permutation", "numbered", "(II)I"⟩, prog_4_method_4_code, 9, some .int, 1, 22, 2, none)
def g_Perm_ofKind : xSig := (⟨"TurningVerse$Permutation", "ofKind", "(III)I"⟩, prog_4_method_5_code, 5, some .int, 2, 45, 3, none)
def g_Perm_lineOfKind : xSig := (⟨"TurningVerse$Permutation", "lineOfKind", "(IIII)I"⟩, prog_4_method_6_code, 4, some .int, 1, 22, 4, none)
def g_Perm_lineOfWeave : xSig := (⟨"TurningVerse$Permutation", "lineOfWeave", "(II)I"⟩, prog_4_method_7_code, 3, some .int, 0, 0, 2, none)
def g_Perm_inverse : xSig := (⟨"TurningVerse$Permutation", "inverse", "(II)I"⟩, prog_4_method_8_code, 4, some .int, 1, 22, 2, none)
def g_Perm_repeated : xSig := (⟨"TurningVerse$Permutation", "repeated", "(III)I"⟩, prog_4_method_9_code, 6, some .int, 2, 46, 3, none)
def g_Perm_firstRoot : xSig := (⟨"TurningVerse$Permutation", "firstRoot", "(III)I"⟩, prog_4_method_10_code, 6, some .int, 3, 71, 3, none)
def g_Perm_order : xSig := (⟨"TurningVerse$Permutation", "order", "(II)I"⟩, prog_4_method_11_code, 5, some .int, 2, 46, 2, none)
def g_Perm_property : xSig := (⟨"TurningVerse$Permutation", "property", "(III)I"⟩, prog_4_method_12_code, 3, some .int, 3, 70, 3, none)
def g_Perm_cycleOf : xSig := (⟨"TurningVerse$Permutation", "cycleOf", "(III)I"⟩, prog_4_method_13_code, 5, some .int, 1, 21, 3, none)
def g_Perm_cycles : xSig := (⟨"TurningVerse$Permutation", "cycles", "(II)I"⟩, prog_4_method_14_code, 4, some .int, 2, 45, 2, none)
def g_Perm_fixedLines : xSig := (⟨"TurningVerse$Permutation", "fixedLines", "(II)I"⟩, prog_4_method_15_code, 4, some .int, 1, 21, 2, none)
def g_Perm_longestCycle : xSig := (⟨"TurningVerse$Permutation", "longestCycle", "(II)I"⟩, prog_4_method_16_code, 4, some .int, 2, 45, 2, none)
def g_Perm_cycleType : xSig := (⟨"TurningVerse$Permutation", "cycleType", "(II)I"⟩, prog_4_method_17_code, 5, some .int, 2, 45, 2, none)
def g_Poem_init : xSig := (⟨"TurningVerse$Poem", "<init>", "()V"⟩, prog_5_method_1_code, 1, none, 1, 20, 0, none)
def g_Poem_empty : xSig := (⟨"TurningVerse$Poem", "empty", "()V"⟩, prog_5_method_2_code, 1, none, 0, 0, 0, some 2)
def g_Poem_copyFrom : xSig := (⟨"TurningVerse$Poem", "copyFrom", "(LTurningVerse$Poem;)V"⟩, prog_5_method_3_code, 2, none, 1, 26, 1, some 2)
def g_Poem_append : xSig := (⟨"TurningVerse$Poem", "append", "(I)V"⟩, prog_5_method_4_code, 2, none, 0, 0, 1, some 2)
def g_Poem_properStanzas : xSig := (⟨"TurningVerse$Poem", "properStanzas", "(I)I"⟩, prog_5_method_6_code, 4, some .int, 3, 65, 1, some 2)
def g_Poem_lockedPlaces : xSig := (⟨"TurningVerse$Poem", "lockedPlaces", "()I"⟩, prog_5_method_7_code, 3, some .int, 1, 20, 0, some 2)
def g_Poem_turnBehind : xSig := (⟨"TurningVerse$Poem", "turnBehind", "(II)I"⟩, prog_5_method_8_code, 3, some .int, 3, 65, 2, some 2)
def g_Poem_turnsBy : xSig := (⟨"TurningVerse$Poem", "turnsBy", "(II)Z"⟩, prog_5_method_9_code, 4, some .boolean, 4, 88, 2, some 2)
def g_Poem_rewrite : xSig := (⟨"TurningVerse$Poem", "rewrite", "(III)V"⟩, prog_5_method_10_code, 6, none, 2, 46, 3, some 2)
def g_PR_init : xSig := (⟨"TurningVerse$PoemReader", "<init>", "()V"⟩, prog_6_method_1_code, 1, none, 2, 40, 0, none)
def g_Row_entry : xSig := (⟨"TurningVerse$Row", "entry", "(II)I"⟩, prog_8_method_2_code, 2, some .int, 0, 0, 2, none)
def g_Row_with : xSig := (⟨"TurningVerse$Row", "with", "(III)I"⟩, prog_8_method_3_code, 3, some .int, 0, 0, 3, none)
def g_Row_ascending : xSig := (⟨"TurningVerse$Row", "ascending", "(I)I"⟩, prog_8_method_4_code, 3, some .int, 1, 22, 1, none)
def g_Row_turned : xSig := (⟨"TurningVerse$Row", "turned", "(III)I"⟩, prog_8_method_5_code, 5, some .int, 1, 22, 3, none)
def g_Row_entries : xSig := (⟨"TurningVerse$Row", "entries", "(II)I"⟩, prog_8_method_6_code, 4, some .int, 1, 21, 2, none)
def g_Row_hasEach : xSig := (⟨"TurningVerse$Row", "hasEach", "(II)Z"⟩, prog_8_method_7_code, 2, some .boolean, 2, 44, 2, none)
def g_Sea_init : xSig := (⟨"TurningVerse$Search", "<init>", "()V"⟩, prog_9_method_1_code, 1, none, 1, 20, 0, none)
def g_Sea_spread : xSig := (⟨"TurningVerse$Search", "spread", "(LTurningVerse$State;I)V"⟩, prog_9_method_2_code, 6, none, 3, 69, 2, some 4)
def g_Sea_depthOf : xSig := (⟨"TurningVerse$Search", "depthOf", "(I)I"⟩, prog_9_method_3_code, 3, some .int, 2, 46, 1, some 4)
def g_Sea_factorAt : xSig := (⟨"TurningVerse$Search", "factorAt", "(II)I"⟩, prog_9_method_4_code, 5, some .int, 4, 91, 2, some 4)
def g_Sea_note : xSig := (⟨"TurningVerse$Search", "note", "(II)V"⟩, prog_9_method_5_code, 4, none, 2, 46, 2, some 4)
def g_Sea_isFactor : xSig := (⟨"TurningVerse$Search", "isFactor", "(I)Z"⟩, prog_9_method_6_code, 2, some .boolean, 0, 0, 1, some 4)
def g_Sea_firstFactor : xSig := (⟨"TurningVerse$Search", "firstFactor", "(I)I"⟩, prog_9_method_7_code, 4, some .int, 3, 68, 1, some 4)
def g_Sea_without : xSig := (⟨"TurningVerse$Search", "without", "(II)I"⟩, prog_9_method_8_code, 3, some .int, 2, 46, 2, some 4)
def g_Sta_init : xSig := (⟨"TurningVerse$State", "<init>", "()V"⟩, prog_10_method_1_code, 1, none, 3, 66, 0, none)
def g_Sta_startWith : xSig := (⟨"TurningVerse$State", "startWith", "(I)V"⟩, prog_10_method_2_code, 3, none, 2, 44, 1, some 5)
def g_Sta_copyFrom : xSig := (⟨"TurningVerse$State", "copyFrom", "(LTurningVerse$State;)V"⟩, prog_10_method_3_code, 2, none, 2, 47, 1, some 5)
def g_Txt_init : xSig := (⟨"TurningVerse$Text", "<init>", "()V"⟩, prog_11_method_1_code, 1, none, 1, 20, 0, none)
def g_TR_init : xSig := (⟨"TurningVerse$TurnReader", "<init>", "()V"⟩, prog_12_method_1_code, 1, none, 1, 20, 0, none)
def g_TV_init : xSig := (⟨"TurningVerse", "<init>", "()V"⟩, prog_1_method_1_code, 1, none, 5, 107, 0, none)
def g_TV_setWords : xSig := (⟨"TurningVerse", "setWords", "(I)I"⟩, prog_1_method_2_code, 3, some .int, 4, 89, 1, some 8)
def g_TV_make : xSig := (⟨"TurningVerse", "make", "(III)I"⟩, prog_1_method_8_code, 4, some .int, 5, 111, 3, some 8)
def g_TV_product : xSig := (⟨"TurningVerse", "product", "(III)I"⟩, prog_1_method_9_code, 4, some .int, 5, 111, 3, some 8)
def g_TV_power : xSig := (⟨"TurningVerse", "power", "(III)I"⟩, prog_1_method_10_code, 6, some .int, 5, 111, 3, some 8)
def g_TV_unrank : xSig := (⟨"TurningVerse", "unrank", "(II)I"⟩, prog_1_method_11_code, 4, some .int, 5, 111, 2, some 8)
def g_TV_root : xSig := (⟨"TurningVerse", "root", "(III)I"⟩, prog_1_method_12_code, 5, some .int, 5, 111, 3, some 8)
def g_TV_turn : xSig := (⟨"TurningVerse", "turn", "(II)I"⟩, prog_1_method_14_code, 3, some .int, 4, 92, 2, some 8)
def g_TV_generated : xSig := (⟨"TurningVerse", "generated", "(I)I"⟩, prog_1_method_16_code, 2, some .int, 4, 94, 1, some 8)
def g_TV_reach : xSig := (⟨"TurningVerse", "reach", "(II)I"⟩, prog_1_method_17_code, 4, some .int, 4, 94, 2, some 8)
def g_TV_factor : xSig := (⟨"TurningVerse", "factor", "(III)I"⟩, prog_1_method_18_code, 5, some .int, 5, 115, 3, some 8)
def g_TV_add : xSig := (⟨"TurningVerse", "add", "(I)I"⟩, prog_1_method_19_code, 3, some .int, 4, 89, 1, some 8)
def g_TV_drop : xSig := (⟨"TurningVerse", "drop", "()I"⟩, prog_1_method_20_code, 1, some .int, 4, 89, 0, some 8)
def g_TV_put : xSig := (⟨"TurningVerse", "put", "(III)I"⟩, prog_1_method_21_code, 5, some .int, 4, 89, 3, some 8)
def g_TV_lock : xSig := (⟨"TurningVerse", "lock", "(IIZ)I"⟩, prog_1_method_22_code, 6, some .int, 4, 89, 3, some 8)
def g_TV_word : xSig := (⟨"TurningVerse", "word", "(II)I"⟩, prog_1_method_23_code, 3, some .int, 1, 21, 2, some 8)
def g_TV_proper : xSig := (⟨"TurningVerse", "proper", "(I)I"⟩, prog_1_method_24_code, 2, some .int, 3, 65, 1, some 8)
def g_TV_turning : xSig := (⟨"TurningVerse", "turning", "(I)I"⟩, prog_1_method_25_code, 3, some .int, 4, 87, 1, some 8)
def g_TV_common : xSig := (⟨"TurningVerse", "common", "(I)I"⟩, prog_1_method_26_code, 3, some .int, 5, 111, 1, some 8)
def g_TV_follows : xSig := (⟨"TurningVerse", "follows", "(I)I"⟩, prog_1_method_27_code, 2, some .int, 5, 111, 1, some 8)
def g_TV_cost : xSig := (⟨"TurningVerse", "cost", "(I)I"⟩, prog_1_method_28_code, 2, some .int, 4, 98, 1, some 8)
def g_TV_mend : xSig := (⟨"TurningVerse", "mend", "(I)I"⟩, prog_1_method_29_code, 4, some .int, 4, 98, 1, some 8)
def g_TV_best : xSig := (⟨"TurningVerse", "best", "(I)I"⟩, prog_1_method_30_code, 3, some .int, 4, 102, 1, some 8)
def g_TV_told : xSig := (⟨"TurningVerse", "told", "(I)I"⟩, prog_1_method_36_code, 2, some .int, 4, 88, 1, some 8)
def g_TV_undo : xSig := (⟨"TurningVerse", "undo", "()I"⟩, prog_1_method_37_code, 1, some .int, 4, 89, 0, some 8)
def g_TV_isRegister : xSig := (⟨"TurningVerse", "isRegister", "(I)Z"⟩, prog_1_method_42_code, 1, some .boolean, 0, 0, 1, none)
def g_TV_isSetOfRegisters : xSig := (⟨"TurningVerse", "isSetOfRegisters", "(I)Z"⟩, prog_1_method_43_code, 1, some .boolean, 0, 0, 1, none)
def g_TV_isLine : xSig := (⟨"TurningVerse", "isLine", "(I)Z"⟩, prog_1_method_44_code, 2, some .boolean, 0, 0, 1, some 8)
def g_TV_isStanza : xSig := (⟨"TurningVerse", "isStanza", "(I)Z"⟩, prog_1_method_45_code, 2, some .boolean, 0, 0, 1, some 8)
def g_TV_store : xSig := (⟨"TurningVerse", "store", "(II)I"⟩, prog_1_method_47_code, 3, some .int, 4, 89, 2, some 8)
def g_JI_bitCount : xSig := (⟨"java/lang/Integer", "bitCount", "(I)I"⟩, prog_15_method_49_code, 1, some .int, 0, 0, 1, none)
def g_JA_fill : xSig := (⟨"java/util/Arrays", "fill", "([II)V"⟩, prog_18_method_103_code, 4, none, 0, 0, 2, none)
def g_Law_cell : xSig := (⟨"TurningVerseLaw", "cell", "([II)I"⟩, method_2_code, 2, some .int, 0, 0, 2, none)
def g_Law_all : xSig := (⟨"TurningVerseLaw", "all", "(I)I"⟩, method_3_code, 3, some .int, 0, 0, 1, none)
def g_Law_powers : xSig := (⟨"TurningVerseLaw", "powers", "(LTurningVerse;III)Z"⟩, method_6_code, 7, some .boolean, 6, 136, 4, none)
def g_Law_products : xSig := (⟨"TurningVerseLaw", "products", "(LTurningVerse;II)Z"⟩, method_7_code, 9, some .boolean, 6, 139, 3, none)
def g_Law_roots : xSig := (⟨"TurningVerseLaw", "roots", "(LTurningVerse;I)Z"⟩, method_8_code, 5, some .boolean, 6, 136, 2, none)
def g_Law_differences : xSig := (⟨"TurningVerseLaw", "differences", "(LTurningVerse;I[I)I"⟩, method_9_code, 6, some .int, 5, 109, 3, none)
def g_Law_mends : xSig := (⟨"TurningVerseLaw", "mends", "(LTurningVerse;I[I)Z"⟩, method_10_code, 11, some .boolean, 6, 134, 3, none)
def g_Law_law : xSig := (⟨"TurningVerseLaw", "law", "([I)Z"⟩, code, 5, some .boolean, 9, 334, 1, none)
set_option maxRecDepth 100000 in
theorem xmc_Fit_init : xmc g_Fit_init := ⟨lw_gm 25 rfl rfl, lw_gm 204 rfl rfl, by decide +kernel, by decide +kernel, by decide +kernel⟩
set_option maxRecDepth 100000 in
theorem xmi_Fit_init : xmi g_Fit_init := ⟨xmc_Fit_init, lw_gm 203 rfl rfl, rfl, rfl⟩
set_option maxRecDepth 100000 in
theorem xmc_Fit_changes : xmc g_Fit_changes := ⟨lw_gm 25 rfl rfl, lw_gm 494 rfl rfl, by decide +kernel, by decide +kernel, by decide +kernel⟩
set_option maxRecDepth 100000 in
theorem xmv_Fit_changes : xmv g_Fit_changes := ⟨xmc_Fit_changes, lw_gm 492 rfl rfl, lw_gm 493 rfl rfl, _, _, rfl, rfl, rfl⟩
set_option maxRecDepth 100000 in
theorem xmc_Fit_firstRow : xmc g_Fit_firstRow := ⟨lw_gm 25 rfl rfl, lw_gm 566 rfl rfl, by decide +kernel, by decide +kernel, by decide +kernel⟩
set_option maxRecDepth 100000 in
theorem xmv_Fit_firstRow : xmv g_Fit_firstRow := ⟨xmc_Fit_firstRow, lw_gm 564 rfl rfl, lw_gm 565 rfl rfl, _, _, rfl, rfl, rfl⟩
set_option maxRecDepth 100000 in
theorem xmc_Fit_bestPermutation : xmc g_Fit_bestPermutation := ⟨lw_gm 25 rfl rfl, lw_gm 535 rfl rfl, by decide +kernel, by decide +kernel, by decide +kernel⟩
set_option maxRecDepth 100000 in
theorem xmv_Fit_bestPermutation : xmv g_Fit_bestPermutation := ⟨xmc_Fit_bestPermutation, lw_gm 533 rfl rfl, lw_gm 534 rfl rfl, _, _, rfl, rfl, rfl⟩
set_option maxRecDepth 100000 in
theorem xmc_Fit_compare : xmc g_Fit_compare := ⟨lw_gm 25 rfl rfl, lw_gm 498 rfl rfl, by decide +kernel, by decide +kernel, by decide +kernel⟩
set_option maxRecDepth 100000 in
theorem xmv_Fit_compare : xmv g_Fit_compare := ⟨xmc_Fit_compare, lw_gm 497 rfl rfl, lw_gm 7 rfl rfl, _, _, rfl, rfl, rfl⟩
set_option maxRecDepth 100000 in
theorem xmc_Fit_mostKept : xmc g_Fit_mostKept := ⟨lw_gm 25 rfl rfl, lw_gm 506 rfl rfl, by decide +kernel, by decide +kernel, by decide +kernel⟩
set_option maxRecDepth 100000 in
theorem xmv_Fit_mostKept : xmv g_Fit_mostKept := ⟨xmc_Fit_mostKept, lw_gm 505 rfl rfl, lw_gm 8 rfl rfl, _, _, rfl, rfl, rfl⟩
set_option maxRecDepth 100000 in
theorem xmc_Fit_keptWith : xmc g_Fit_keptWith := ⟨lw_gm 25 rfl rfl, lw_gm 511 rfl rfl, by decide +kernel, by decide +kernel, by decide +kernel⟩
set_option maxRecDepth 100000 in
theorem xmv_Fit_keptWith : xmv g_Fit_keptWith := ⟨xmc_Fit_keptWith, lw_gm 510 rfl rfl, lw_gm 9 rfl rfl, _, _, rfl, rfl, rfl⟩
set_option maxRecDepth 100000 in
theorem xmc_Fit_firstWord : xmc g_Fit_firstWord := ⟨lw_gm 25 rfl rfl, lw_gm 570 rfl rfl, by decide +kernel, by decide +kernel, by decide +kernel⟩
set_option maxRecDepth 100000 in
theorem xmv_Fit_firstWord : xmv g_Fit_firstWord := ⟨xmc_Fit_firstWord, lw_gm 569 rfl rfl, lw_gm 13 rfl rfl, _, _, rfl, rfl, rfl⟩
set_option maxRecDepth 100000 in
theorem xmc_Fit_atMostKept : xmc g_Fit_atMostKept := ⟨lw_gm 25 rfl rfl, lw_gm 541 rfl rfl, by decide +kernel, by decide +kernel, by decide +kernel⟩
set_option maxRecDepth 100000 in
theorem xmv_Fit_atMostKept : xmv g_Fit_atMostKept := ⟨xmc_Fit_atMostKept, lw_gm 540 rfl rfl, lw_gm 10 rfl rfl, _, _, rfl, rfl, rfl⟩
set_option maxRecDepth 100000 in
theorem xmc_Fit_mostOfLine : xmc g_Fit_mostOfLine := ⟨lw_gm 25 rfl rfl, lw_gm 545 rfl rfl, by decide +kernel, by decide +kernel, by decide +kernel⟩
set_option maxRecDepth 100000 in
theorem xmv_Fit_mostOfLine : xmv g_Fit_mostOfLine := ⟨xmc_Fit_mostOfLine, lw_gm 544 rfl rfl, lw_gm 11 rfl rfl, _, _, rfl, rfl, rfl⟩
set_option maxRecDepth 100000 in
theorem xmc_Fit_mostOfWord : xmc g_Fit_mostOfWord := ⟨lw_gm 25 rfl rfl, lw_gm 549 rfl rfl, by decide +kernel, by decide +kernel, by decide +kernel⟩
set_option maxRecDepth 100000 in
theorem xmv_Fit_mostOfWord : xmv g_Fit_mostOfWord := ⟨xmc_Fit_mostOfWord, lw_gm 548 rfl rfl, lw_gm 12 rfl rfl, _, _, rfl, rfl, rfl⟩
set_option maxRecDepth 100000 in
theorem xmc_Hist_init : xmc g_Hist_init := ⟨lw_gm 20 rfl rfl, lw_gm 116 rfl rfl, by decide +kernel, by decide +kernel, by decide +kernel⟩
set_option maxRecDepth 100000 in
theorem xmi_Hist_init : xmi g_Hist_init := ⟨xmc_Hist_init, lw_gm 115 rfl rfl, rfl, rfl⟩
set_option maxRecDepth 100000 in
theorem xmc_Hist_remember : xmc g_Hist_remember := ⟨lw_gm 20 rfl rfl, lw_gm 251 rfl rfl, by decide +kernel, by decide +kernel, by decide +kernel⟩
set_option maxRecDepth 100000 in
theorem xmv_Hist_remember : xmv g_Hist_remember := ⟨xmc_Hist_remember, lw_gm 249 rfl rfl, lw_gm 250 rfl rfl, _, _, rfl, rfl, rfl⟩
set_option maxRecDepth 100000 in
theorem xmc_Hist_restore : xmc g_Hist_restore := ⟨lw_gm 20 rfl rfl, lw_gm 596 rfl rfl, by decide +kernel, by decide +kernel, by decide +kernel⟩
set_option maxRecDepth 100000 in
theorem xmv_Hist_restore : xmv g_Hist_restore := ⟨xmc_Hist_restore, lw_gm 594 rfl rfl, lw_gm 595 rfl rfl, _, _, rfl, rfl, rfl⟩
set_option maxRecDepth 100000 in
theorem xmc_Perm_count : xmc g_Perm_count := ⟨lw_gm 28 rfl rfl, lw_gm 277 rfl rfl, by decide +kernel, by decide +kernel, by decide +kernel⟩
set_option maxRecDepth 100000 in
theorem xms_Perm_count : xms g_Perm_count := ⟨xmc_Perm_count, lw_gm 276 rfl rfl⟩
set_option maxRecDepth 100000 in
theorem xmc_Perm_number : xmc g_Perm_number := ⟨lw_gm 28 rfl rfl, lw_gm 291 rfl rfl, by decide +kernel, by decide +kernel, by decide +kernel⟩
set_option maxRecDepth 100000 in
theorem xms_Perm_number : xms g_Perm_number := ⟨xmc_Perm_number, lw_gm 290 rfl rfl⟩
set_option maxRecDepth 100000 in
theorem xmc_Perm_numbered : xmc g_Perm_numbered := ⟨lw_gm 28 rfl rfl, lw_gm 280 rfl rfl, by decide +kernel, by decide +kernel, by decide +kernel⟩
set_option maxRecDepth 100000 in
theorem xms_Perm_numbered : xms g_Perm_numbered := ⟨xmc_Perm_numbered, lw_gm 279 rfl rfl⟩
set_option maxRecDepth 100000 in
theorem xmc_Perm_ofKind : xmc g_Perm_ofKind := ⟨lw_gm 28 rfl rfl, lw_gm 427 rfl rfl, by decide +kernel, by decide +kernel, by decide +kernel⟩
set_option maxRecDepth 100000 in
theorem xms_Perm_ofKind : xms g_Perm_ofKind := ⟨xmc_Perm_ofKind, lw_gm 426 rfl rfl⟩
set_option maxRecDepth 100000 in
theorem xmc_Perm_lineOfKind : xmc g_Perm_lineOfKind := ⟨lw_gm 28 rfl rfl, lw_gm 430 rfl rfl, by decide +kernel, by decide +kernel, by decide +kernel⟩
set_option maxRecDepth 100000 in
theorem xms_Perm_lineOfKind : xms g_Perm_lineOfKind := ⟨xmc_Perm_lineOfKind, lw_gm 429 rfl rfl⟩
set_option maxRecDepth 100000 in
theorem xmc_Perm_lineOfWeave : xmc g_Perm_lineOfWeave := ⟨lw_gm 28 rfl rfl, lw_gm 433 rfl rfl, by decide +kernel, by decide +kernel, by decide +kernel⟩
set_option maxRecDepth 100000 in
theorem xms_Perm_lineOfWeave : xms g_Perm_lineOfWeave := ⟨xmc_Perm_lineOfWeave, lw_gm 432 rfl rfl⟩
set_option maxRecDepth 100000 in
theorem xmc_Perm_inverse : xmc g_Perm_inverse := ⟨lw_gm 28 rfl rfl, lw_gm 352 rfl rfl, by decide +kernel, by decide +kernel, by decide +kernel⟩
set_option maxRecDepth 100000 in
theorem xms_Perm_inverse : xms g_Perm_inverse := ⟨xmc_Perm_inverse, lw_gm 351 rfl rfl⟩
set_option maxRecDepth 100000 in
theorem xmc_Perm_repeated : xmc g_Perm_repeated := ⟨lw_gm 28 rfl rfl, lw_gm 358 rfl rfl, by decide +kernel, by decide +kernel, by decide +kernel⟩
set_option maxRecDepth 100000 in
theorem xms_Perm_repeated : xms g_Perm_repeated := ⟨xmc_Perm_repeated, lw_gm 357 rfl rfl⟩
set_option maxRecDepth 100000 in
theorem xmc_Perm_firstRoot : xmc g_Perm_firstRoot := ⟨lw_gm 28 rfl rfl, lw_gm 443 rfl rfl, by decide +kernel, by decide +kernel, by decide +kernel⟩
set_option maxRecDepth 100000 in
theorem xms_Perm_firstRoot : xms g_Perm_firstRoot := ⟨xmc_Perm_firstRoot, lw_gm 442 rfl rfl⟩
set_option maxRecDepth 100000 in
theorem xmc_Perm_order : xmc g_Perm_order := ⟨lw_gm 28 rfl rfl, lw_gm 300 rfl rfl, by decide +kernel, by decide +kernel, by decide +kernel⟩
set_option maxRecDepth 100000 in
theorem xms_Perm_order : xms g_Perm_order := ⟨xmc_Perm_order, lw_gm 299 rfl rfl⟩
set_option maxRecDepth 100000 in
theorem xmc_Perm_property : xmc g_Perm_property := ⟨lw_gm 28 rfl rfl, lw_gm 312 rfl rfl, by decide +kernel, by decide +kernel, by decide +kernel⟩
set_option maxRecDepth 100000 in
theorem xms_Perm_property : xms g_Perm_property := ⟨xmc_Perm_property, lw_gm 311 rfl rfl⟩
set_option maxRecDepth 100000 in
theorem xmc_Perm_cycleOf : xmc g_Perm_cycleOf := ⟨lw_gm 28 rfl rfl, lw_gm 320 rfl rfl, by decide +kernel, by decide +kernel, by decide +kernel⟩
set_option maxRecDepth 100000 in
theorem xms_Perm_cycleOf : xms g_Perm_cycleOf := ⟨xmc_Perm_cycleOf, lw_gm 319 rfl rfl⟩
set_option maxRecDepth 100000 in
theorem xmc_Perm_cycles : xmc g_Perm_cycles := ⟨lw_gm 28 rfl rfl, lw_gm 317 rfl rfl, by decide +kernel, by decide +kernel, by decide +kernel⟩
set_option maxRecDepth 100000 in
theorem xms_Perm_cycles : xms g_Perm_cycles := ⟨xmc_Perm_cycles, lw_gm 316 rfl rfl⟩
set_option maxRecDepth 100000 in
theorem xmc_Perm_fixedLines : xmc g_Perm_fixedLines := ⟨lw_gm 28 rfl rfl, lw_gm 323 rfl rfl, by decide +kernel, by decide +kernel, by decide +kernel⟩
set_option maxRecDepth 100000 in
theorem xms_Perm_fixedLines : xms g_Perm_fixedLines := ⟨xmc_Perm_fixedLines, lw_gm 322 rfl rfl⟩
set_option maxRecDepth 100000 in
theorem xmc_Perm_longestCycle : xmc g_Perm_longestCycle := ⟨lw_gm 28 rfl rfl, lw_gm 326 rfl rfl, by decide +kernel, by decide +kernel, by decide +kernel⟩
set_option maxRecDepth 100000 in
theorem xms_Perm_longestCycle : xms g_Perm_longestCycle := ⟨xmc_Perm_longestCycle, lw_gm 325 rfl rfl⟩
set_option maxRecDepth 100000 in
theorem xmc_Perm_cycleType : xmc g_Perm_cycleType := ⟨lw_gm 28 rfl rfl, lw_gm 332 rfl rfl, by decide +kernel, by decide +kernel, by decide +kernel⟩
set_option maxRecDepth 100000 in
theorem xms_Perm_cycleType : xms g_Perm_cycleType := ⟨xmc_Perm_cycleType, lw_gm 331 rfl rfl⟩
set_option maxRecDepth 100000 in
theorem xmc_Poem_init : xmc g_Poem_init := ⟨lw_gm 17 rfl rfl, lw_gm 48 rfl rfl, by decide +kernel, by decide +kernel, by decide +kernel⟩
set_option maxRecDepth 100000 in
theorem xmi_Poem_init : xmi g_Poem_init := ⟨xmc_Poem_init, lw_gm 47 rfl rfl, rfl, rfl⟩
set_option maxRecDepth 100000 in
theorem xmc_Poem_empty : xmc g_Poem_empty := ⟨lw_gm 17 rfl rfl, lw_gm 93 rfl rfl, by decide +kernel, by decide +kernel, by decide +kernel⟩
set_option maxRecDepth 100000 in
theorem xmv_Poem_empty : xmv g_Poem_empty := ⟨xmc_Poem_empty, lw_gm 91 rfl rfl, lw_gm 92 rfl rfl, _, _, rfl, rfl, rfl⟩
set_option maxRecDepth 100000 in
theorem xmc_Poem_copyFrom : xmc g_Poem_copyFrom := ⟨lw_gm 17 rfl rfl, lw_gm 262 rfl rfl, by decide +kernel, by decide +kernel, by decide +kernel⟩
set_option maxRecDepth 100000 in
theorem xmv_Poem_copyFrom : xmv g_Poem_copyFrom := ⟨xmc_Poem_copyFrom, lw_gm 260 rfl rfl, lw_gm 261 rfl rfl, _, _, rfl, rfl, rfl⟩
set_option maxRecDepth 100000 in
theorem xmc_Poem_append : xmc g_Poem_append := ⟨lw_gm 17 rfl rfl, lw_gm 458 rfl rfl, by decide +kernel, by decide +kernel, by decide +kernel⟩
set_option maxRecDepth 100000 in
theorem xmv_Poem_append : xmv g_Poem_append := ⟨xmc_Poem_append, lw_gm 456 rfl rfl, lw_gm 457 rfl rfl, _, _, rfl, rfl, rfl⟩
set_option maxRecDepth 100000 in
theorem xmc_Poem_properStanzas : xmc g_Poem_properStanzas := ⟨lw_gm 17 rfl rfl, lw_gm 484 rfl rfl, by decide +kernel, by decide +kernel, by decide +kernel⟩
set_option maxRecDepth 100000 in
theorem xmv_Poem_properStanzas : xmv g_Poem_properStanzas := ⟨xmc_Poem_properStanzas, lw_gm 482 rfl rfl, lw_gm 483 rfl rfl, _, _, rfl, rfl, rfl⟩
set_option maxRecDepth 100000 in
theorem xmc_Poem_lockedPlaces : xmc g_Poem_lockedPlaces := ⟨lw_gm 17 rfl rfl, lw_gm 587 rfl rfl, by decide +kernel, by decide +kernel, by decide +kernel⟩
set_option maxRecDepth 100000 in
theorem xmv_Poem_lockedPlaces : xmv g_Poem_lockedPlaces := ⟨xmc_Poem_lockedPlaces, lw_gm 585 rfl rfl, lw_gm 586 rfl rfl, _, _, rfl, rfl, rfl⟩
set_option maxRecDepth 100000 in
theorem xmc_Poem_turnBehind : xmc g_Poem_turnBehind := ⟨lw_gm 17 rfl rfl, lw_gm 520 rfl rfl, by decide +kernel, by decide +kernel, by decide +kernel⟩
set_option maxRecDepth 100000 in
theorem xmv_Poem_turnBehind : xmv g_Poem_turnBehind := ⟨xmc_Poem_turnBehind, lw_gm 518 rfl rfl, lw_gm 519 rfl rfl, _, _, rfl, rfl, rfl⟩
set_option maxRecDepth 100000 in
theorem xmc_Poem_turnsBy : xmc g_Poem_turnsBy := ⟨lw_gm 17 rfl rfl, lw_gm 480 rfl rfl, by decide +kernel, by decide +kernel, by decide +kernel⟩
set_option maxRecDepth 100000 in
theorem xmv_Poem_turnsBy : xmv g_Poem_turnsBy := ⟨xmc_Poem_turnsBy, lw_gm 478 rfl rfl, lw_gm 479 rfl rfl, _, _, rfl, rfl, rfl⟩
set_option maxRecDepth 100000 in
theorem xmc_Poem_rewrite : xmc g_Poem_rewrite := ⟨lw_gm 17 rfl rfl, lw_gm 575 rfl rfl, by decide +kernel, by decide +kernel, by decide +kernel⟩
set_option maxRecDepth 100000 in
theorem xmv_Poem_rewrite : xmv g_Poem_rewrite := ⟨xmc_Poem_rewrite, lw_gm 573 rfl rfl, lw_gm 574 rfl rfl, _, _, rfl, rfl, rfl⟩
set_option maxRecDepth 100000 in
theorem xmc_PR_init : xmc g_PR_init := ⟨lw_gm 22 rfl rfl, lw_gm 150 rfl rfl, by decide +kernel, by decide +kernel, by decide +kernel⟩
set_option maxRecDepth 100000 in
theorem xmi_PR_init : xmi g_PR_init := ⟨xmc_PR_init, lw_gm 149 rfl rfl, rfl, rfl⟩
set_option maxRecDepth 100000 in
theorem xmc_Row_entry : xmc g_Row_entry := ⟨lw_gm 18 rfl rfl, lw_gm 283 rfl rfl, by decide +kernel, by decide +kernel, by decide +kernel⟩
set_option maxRecDepth 100000 in
theorem xms_Row_entry : xms g_Row_entry := ⟨xmc_Row_entry, lw_gm 282 rfl rfl⟩
set_option maxRecDepth 100000 in
theorem xmc_Row_with : xmc g_Row_with := ⟨lw_gm 18 rfl rfl, lw_gm 82 rfl rfl, by decide +kernel, by decide +kernel, by decide +kernel⟩
set_option maxRecDepth 100000 in
theorem xms_Row_with : xms g_Row_with := ⟨xmc_Row_with, lw_gm 81 rfl rfl⟩
set_option maxRecDepth 100000 in
theorem xmc_Row_ascending : xmc g_Row_ascending := ⟨lw_gm 18 rfl rfl, lw_gm 85 rfl rfl, by decide +kernel, by decide +kernel, by decide +kernel⟩
set_option maxRecDepth 100000 in
theorem xms_Row_ascending : xms g_Row_ascending := ⟨xmc_Row_ascending, lw_gm 84 rfl rfl⟩
set_option maxRecDepth 100000 in
theorem xmc_Row_turned : xmc g_Row_turned := ⟨lw_gm 18 rfl rfl, lw_gm 304 rfl rfl, by decide +kernel, by decide +kernel, by decide +kernel⟩
set_option maxRecDepth 100000 in
theorem xms_Row_turned : xms g_Row_turned := ⟨xmc_Row_turned, lw_gm 303 rfl rfl⟩
set_option maxRecDepth 100000 in
theorem xmc_Row_entries : xmc g_Row_entries := ⟨lw_gm 18 rfl rfl, lw_gm 472 rfl rfl, by decide +kernel, by decide +kernel, by decide +kernel⟩
set_option maxRecDepth 100000 in
theorem xms_Row_entries : xms g_Row_entries := ⟨xmc_Row_entries, lw_gm 471 rfl rfl⟩
set_option maxRecDepth 100000 in
theorem xmc_Row_hasEach : xmc g_Row_hasEach := ⟨lw_gm 18 rfl rfl, lw_gm 469 rfl rfl, by decide +kernel, by decide +kernel, by decide +kernel⟩
set_option maxRecDepth 100000 in
theorem xms_Row_hasEach : xms g_Row_hasEach := ⟨xmc_Row_hasEach, lw_gm 468 rfl rfl⟩
set_option maxRecDepth 100000 in
theorem xmc_Sea_init : xmc g_Sea_init := ⟨lw_gm 24 rfl rfl, lw_gm 178 rfl rfl, by decide +kernel, by decide +kernel, by decide +kernel⟩
set_option maxRecDepth 100000 in
theorem xmi_Sea_init : xmi g_Sea_init := ⟨xmc_Sea_init, lw_gm 177 rfl rfl, rfl, rfl⟩
set_option maxRecDepth 100000 in
theorem xmc_Sea_spread : xmc g_Sea_spread := ⟨lw_gm 24 rfl rfl, lw_gm 369 rfl rfl, by decide +kernel, by decide +kernel, by decide +kernel⟩
set_option maxRecDepth 100000 in
theorem xmv_Sea_spread : xmv g_Sea_spread := ⟨xmc_Sea_spread, lw_gm 367 rfl rfl, lw_gm 368 rfl rfl, _, _, rfl, rfl, rfl⟩
set_option maxRecDepth 100000 in
theorem xmc_Sea_depthOf : xmc g_Sea_depthOf := ⟨lw_gm 24 rfl rfl, lw_gm 381 rfl rfl, by decide +kernel, by decide +kernel, by decide +kernel⟩
set_option maxRecDepth 100000 in
theorem xmv_Sea_depthOf : xmv g_Sea_depthOf := ⟨xmc_Sea_depthOf, lw_gm 379 rfl rfl, lw_gm 380 rfl rfl, _, _, rfl, rfl, rfl⟩
set_option maxRecDepth 100000 in
theorem xmc_Sea_factorAt : xmc g_Sea_factorAt := ⟨lw_gm 24 rfl rfl, lw_gm 407 rfl rfl, by decide +kernel, by decide +kernel, by decide +kernel⟩
set_option maxRecDepth 100000 in
theorem xmv_Sea_factorAt : xmv g_Sea_factorAt := ⟨xmc_Sea_factorAt, lw_gm 405 rfl rfl, lw_gm 406 rfl rfl, _, _, rfl, rfl, rfl⟩
set_option maxRecDepth 100000 in
theorem xmc_Sea_note : xmc g_Sea_note := ⟨lw_gm 24 rfl rfl, lw_gm 376 rfl rfl, by decide +kernel, by decide +kernel, by decide +kernel⟩
set_option maxRecDepth 100000 in
theorem xmv_Sea_note : xmv g_Sea_note := ⟨xmc_Sea_note, lw_gm 375 rfl rfl, lw_gm 1 rfl rfl, _, _, rfl, rfl, rfl⟩
set_option maxRecDepth 100000 in
theorem xmc_Sea_isFactor : xmc g_Sea_isFactor := ⟨lw_gm 24 rfl rfl, lw_gm 385 rfl rfl, by decide +kernel, by decide +kernel, by decide +kernel⟩
set_option maxRecDepth 100000 in
theorem xmv_Sea_isFactor : xmv g_Sea_isFactor := ⟨xmc_Sea_isFactor, lw_gm 384 rfl rfl, lw_gm 2 rfl rfl, _, _, rfl, rfl, rfl⟩
set_option maxRecDepth 100000 in
theorem xmc_Sea_firstFactor : xmc g_Sea_firstFactor := ⟨lw_gm 24 rfl rfl, lw_gm 411 rfl rfl, by decide +kernel, by decide +kernel, by decide +kernel⟩
set_option maxRecDepth 100000 in
theorem xmv_Sea_firstFactor : xmv g_Sea_firstFactor := ⟨xmc_Sea_firstFactor, lw_gm 410 rfl rfl, lw_gm 3 rfl rfl, _, _, rfl, rfl, rfl⟩
set_option maxRecDepth 100000 in
theorem xmc_Sea_without : xmc g_Sea_without := ⟨lw_gm 24 rfl rfl, lw_gm 415 rfl rfl, by decide +kernel, by decide +kernel, by decide +kernel⟩
set_option maxRecDepth 100000 in
theorem xmv_Sea_without : xmv g_Sea_without := ⟨xmc_Sea_without, lw_gm 414 rfl rfl, lw_gm 4 rfl rfl, _, _, rfl, rfl, rfl⟩
set_option maxRecDepth 100000 in
theorem xmc_Sta_init : xmc g_Sta_init := ⟨lw_gm 16 rfl rfl, lw_gm 42 rfl rfl, by decide +kernel, by decide +kernel, by decide +kernel⟩
set_option maxRecDepth 100000 in
theorem xmi_Sta_init : xmi g_Sta_init := ⟨xmc_Sta_init, lw_gm 41 rfl rfl, rfl, rfl⟩
set_option maxRecDepth 100000 in
theorem xmc_Sta_startWith : xmc g_Sta_startWith := ⟨lw_gm 16 rfl rfl, lw_gm 79 rfl rfl, by decide +kernel, by decide +kernel, by decide +kernel⟩
set_option maxRecDepth 100000 in
theorem xmv_Sta_startWith : xmv g_Sta_startWith := ⟨xmc_Sta_startWith, lw_gm 77 rfl rfl, lw_gm 78 rfl rfl, _, _, rfl, rfl, rfl⟩
set_option maxRecDepth 100000 in
theorem xmc_Sta_copyFrom : xmc g_Sta_copyFrom := ⟨lw_gm 16 rfl rfl, lw_gm 255 rfl rfl, by decide +kernel, by decide +kernel, by decide +kernel⟩
set_option maxRecDepth 100000 in
theorem xmv_Sta_copyFrom : xmv g_Sta_copyFrom := ⟨xmc_Sta_copyFrom, lw_gm 253 rfl rfl, lw_gm 254 rfl rfl, _, _, rfl, rfl, rfl⟩
set_option maxRecDepth 100000 in
theorem xmc_Txt_init : xmc g_Txt_init := ⟨lw_gm 21 rfl rfl, lw_gm 136 rfl rfl, by decide +kernel, by decide +kernel, by decide +kernel⟩
set_option maxRecDepth 100000 in
theorem xmi_Txt_init : xmi g_Txt_init := ⟨xmc_Txt_init, lw_gm 135 rfl rfl, rfl, rfl⟩
set_option maxRecDepth 100000 in
theorem xmc_TR_init : xmc g_TR_init := ⟨lw_gm 23 rfl rfl, lw_gm 168 rfl rfl, by decide +kernel, by decide +kernel, by decide +kernel⟩
set_option maxRecDepth 100000 in
theorem xmi_TR_init : xmi g_TR_init := ⟨xmc_TR_init, lw_gm 167 rfl rfl, rfl, rfl⟩
set_option maxRecDepth 100000 in
theorem xmc_TV_init : xmc g_TV_init := ⟨lw_gm 15 rfl rfl, lw_gm 34 rfl rfl, by decide +kernel, by decide +kernel, by decide +kernel⟩
set_option maxRecDepth 100000 in
theorem xmi_TV_init : xmi g_TV_init := ⟨xmc_TV_init, lw_gm 33 rfl rfl, rfl, rfl⟩
set_option maxRecDepth 100000 in
theorem xmc_TV_setWords : xmc g_TV_setWords := ⟨lw_gm 15 rfl rfl, lw_gm 247 rfl rfl, by decide +kernel, by decide +kernel, by decide +kernel⟩
set_option maxRecDepth 100000 in
theorem xmv_TV_setWords : xmv g_TV_setWords := ⟨xmc_TV_setWords, lw_gm 245 rfl rfl, lw_gm 246 rfl rfl, _, _, rfl, rfl, rfl⟩
set_option maxRecDepth 100000 in
theorem xmc_TV_make : xmc g_TV_make := ⟨lw_gm 15 rfl rfl, lw_gm 420 rfl rfl, by decide +kernel, by decide +kernel, by decide +kernel⟩
set_option maxRecDepth 100000 in
theorem xmv_TV_make : xmv g_TV_make := ⟨xmc_TV_make, lw_gm 418 rfl rfl, lw_gm 419 rfl rfl, _, _, rfl, rfl, rfl⟩
set_option maxRecDepth 100000 in
theorem xmc_TV_product : xmc g_TV_product := ⟨lw_gm 15 rfl rfl, lw_gm 390 rfl rfl, by decide +kernel, by decide +kernel, by decide +kernel⟩
set_option maxRecDepth 100000 in
theorem xmv_TV_product : xmv g_TV_product := ⟨xmc_TV_product, lw_gm 388 rfl rfl, lw_gm 389 rfl rfl, _, _, rfl, rfl, rfl⟩
set_option maxRecDepth 100000 in
theorem xmc_TV_power : xmc g_TV_power := ⟨lw_gm 15 rfl rfl, lw_gm 347 rfl rfl, by decide +kernel, by decide +kernel, by decide +kernel⟩
set_option maxRecDepth 100000 in
theorem xmv_TV_power : xmv g_TV_power := ⟨xmc_TV_power, lw_gm 345 rfl rfl, lw_gm 346 rfl rfl, _, _, rfl, rfl, rfl⟩
set_option maxRecDepth 100000 in
theorem xmc_TV_unrank : xmc g_TV_unrank := ⟨lw_gm 15 rfl rfl, lw_gm 271 rfl rfl, by decide +kernel, by decide +kernel, by decide +kernel⟩
set_option maxRecDepth 100000 in
theorem xmv_TV_unrank : xmv g_TV_unrank := ⟨xmc_TV_unrank, lw_gm 269 rfl rfl, lw_gm 270 rfl rfl, _, _, rfl, rfl, rfl⟩
set_option maxRecDepth 100000 in
theorem xmc_TV_root : xmc g_TV_root := ⟨lw_gm 15 rfl rfl, lw_gm 440 rfl rfl, by decide +kernel, by decide +kernel, by decide +kernel⟩
set_option maxRecDepth 100000 in
theorem xmv_TV_root : xmv g_TV_root := ⟨xmc_TV_root, lw_gm 438 rfl rfl, lw_gm 439 rfl rfl, _, _, rfl, rfl, rfl⟩
set_option maxRecDepth 100000 in
theorem xmc_TV_turn : xmc g_TV_turn := ⟨lw_gm 15 rfl rfl, lw_gm 309 rfl rfl, by decide +kernel, by decide +kernel, by decide +kernel⟩
set_option maxRecDepth 100000 in
theorem xmv_TV_turn : xmv g_TV_turn := ⟨xmc_TV_turn, lw_gm 307 rfl rfl, lw_gm 308 rfl rfl, _, _, rfl, rfl, rfl⟩
set_option maxRecDepth 100000 in
theorem xmc_TV_generated : xmc g_TV_generated := ⟨lw_gm 15 rfl rfl, lw_gm 362 rfl rfl, by decide +kernel, by decide +kernel, by decide +kernel⟩
set_option maxRecDepth 100000 in
theorem xmv_TV_generated : xmv g_TV_generated := ⟨xmc_TV_generated, lw_gm 360 rfl rfl, lw_gm 361 rfl rfl, _, _, rfl, rfl, rfl⟩
set_option maxRecDepth 100000 in
theorem xmc_TV_reach : xmc g_TV_reach := ⟨lw_gm 15 rfl rfl, lw_gm 398 rfl rfl, by decide +kernel, by decide +kernel, by decide +kernel⟩
set_option maxRecDepth 100000 in
theorem xmv_TV_reach : xmv g_TV_reach := ⟨xmc_TV_reach, lw_gm 396 rfl rfl, lw_gm 397 rfl rfl, _, _, rfl, rfl, rfl⟩
set_option maxRecDepth 100000 in
theorem xmc_TV_factor : xmc g_TV_factor := ⟨lw_gm 15 rfl rfl, lw_gm 403 rfl rfl, by decide +kernel, by decide +kernel, by decide +kernel⟩
set_option maxRecDepth 100000 in
theorem xmv_TV_factor : xmv g_TV_factor := ⟨xmc_TV_factor, lw_gm 401 rfl rfl, lw_gm 402 rfl rfl, _, _, rfl, rfl, rfl⟩
set_option maxRecDepth 100000 in
theorem xmc_TV_add : xmc g_TV_add := ⟨lw_gm 15 rfl rfl, lw_gm 453 rfl rfl, by decide +kernel, by decide +kernel, by decide +kernel⟩
set_option maxRecDepth 100000 in
theorem xmv_TV_add : xmv g_TV_add := ⟨xmc_TV_add, lw_gm 451 rfl rfl, lw_gm 452 rfl rfl, _, _, rfl, rfl, rfl⟩
set_option maxRecDepth 100000 in
theorem xmc_TV_drop : xmc g_TV_drop := ⟨lw_gm 15 rfl rfl, lw_gm 604 rfl rfl, by decide +kernel, by decide +kernel, by decide +kernel⟩
set_option maxRecDepth 100000 in
theorem xmv_TV_drop : xmv g_TV_drop := ⟨xmc_TV_drop, lw_gm 602 rfl rfl, lw_gm 603 rfl rfl, _, _, rfl, rfl, rfl⟩
set_option maxRecDepth 100000 in
theorem xmc_TV_put : xmc g_TV_put := ⟨lw_gm 15 rfl rfl, lw_gm 525 rfl rfl, by decide +kernel, by decide +kernel, by decide +kernel⟩
set_option maxRecDepth 100000 in
theorem xmv_TV_put : xmv g_TV_put := ⟨xmc_TV_put, lw_gm 523 rfl rfl, lw_gm 524 rfl rfl, _, _, rfl, rfl, rfl⟩
set_option maxRecDepth 100000 in
theorem xmc_TV_lock : xmc g_TV_lock := ⟨lw_gm 15 rfl rfl, lw_gm 558 rfl rfl, by decide +kernel, by decide +kernel, by decide +kernel⟩
set_option maxRecDepth 100000 in
theorem xmv_TV_lock : xmv g_TV_lock := ⟨xmc_TV_lock, lw_gm 556 rfl rfl, lw_gm 557 rfl rfl, _, _, rfl, rfl, rfl⟩
set_option maxRecDepth 100000 in
theorem xmc_TV_word : xmc g_TV_word := ⟨lw_gm 15 rfl rfl, lw_gm 554 rfl rfl, by decide +kernel, by decide +kernel, by decide +kernel⟩
set_option maxRecDepth 100000 in
theorem xmv_TV_word : xmv g_TV_word := ⟨xmc_TV_word, lw_gm 552 rfl rfl, lw_gm 553 rfl rfl, _, _, rfl, rfl, rfl⟩
set_option maxRecDepth 100000 in
theorem xmc_TV_proper : xmc g_TV_proper := ⟨lw_gm 15 rfl rfl, lw_gm 462 rfl rfl, by decide +kernel, by decide +kernel, by decide +kernel⟩
set_option maxRecDepth 100000 in
theorem xmv_TV_proper : xmv g_TV_proper := ⟨xmc_TV_proper, lw_gm 460 rfl rfl, lw_gm 461 rfl rfl, _, _, rfl, rfl, rfl⟩
set_option maxRecDepth 100000 in
theorem xmc_TV_turning : xmc g_TV_turning := ⟨lw_gm 15 rfl rfl, lw_gm 600 rfl rfl, by decide +kernel, by decide +kernel, by decide +kernel⟩
set_option maxRecDepth 100000 in
theorem xmv_TV_turning : xmv g_TV_turning := ⟨xmc_TV_turning, lw_gm 598 rfl rfl, lw_gm 599 rfl rfl, _, _, rfl, rfl, rfl⟩
set_option maxRecDepth 100000 in
theorem xmc_TV_common : xmc g_TV_common := ⟨lw_gm 15 rfl rfl, lw_gm 516 rfl rfl, by decide +kernel, by decide +kernel, by decide +kernel⟩
set_option maxRecDepth 100000 in
theorem xmv_TV_common : xmv g_TV_common := ⟨xmc_TV_common, lw_gm 514 rfl rfl, lw_gm 515 rfl rfl, _, _, rfl, rfl, rfl⟩
set_option maxRecDepth 100000 in
theorem xmc_TV_follows : xmc g_TV_follows := ⟨lw_gm 15 rfl rfl, lw_gm 476 rfl rfl, by decide +kernel, by decide +kernel, by decide +kernel⟩
set_option maxRecDepth 100000 in
theorem xmv_TV_follows : xmv g_TV_follows := ⟨xmc_TV_follows, lw_gm 474 rfl rfl, lw_gm 475 rfl rfl, _, _, rfl, rfl, rfl⟩
set_option maxRecDepth 100000 in
theorem xmc_TV_cost : xmc g_TV_cost := ⟨lw_gm 15 rfl rfl, lw_gm 490 rfl rfl, by decide +kernel, by decide +kernel, by decide +kernel⟩
set_option maxRecDepth 100000 in
theorem xmv_TV_cost : xmv g_TV_cost := ⟨xmc_TV_cost, lw_gm 488 rfl rfl, lw_gm 489 rfl rfl, _, _, rfl, rfl, rfl⟩
set_option maxRecDepth 100000 in
theorem xmc_TV_mend : xmc g_TV_mend := ⟨lw_gm 15 rfl rfl, lw_gm 562 rfl rfl, by decide +kernel, by decide +kernel, by decide +kernel⟩
set_option maxRecDepth 100000 in
theorem xmv_TV_mend : xmv g_TV_mend := ⟨xmc_TV_mend, lw_gm 560 rfl rfl, lw_gm 561 rfl rfl, _, _, rfl, rfl, rfl⟩
set_option maxRecDepth 100000 in
theorem xmc_TV_best : xmc g_TV_best := ⟨lw_gm 15 rfl rfl, lw_gm 531 rfl rfl, by decide +kernel, by decide +kernel, by decide +kernel⟩
set_option maxRecDepth 100000 in
theorem xmv_TV_best : xmv g_TV_best := ⟨xmc_TV_best, lw_gm 529 rfl rfl, lw_gm 530 rfl rfl, _, _, rfl, rfl, rfl⟩
set_option maxRecDepth 100000 in
theorem xmc_TV_told : xmc g_TV_told := ⟨lw_gm 15 rfl rfl, lw_gm 582 rfl rfl, by decide +kernel, by decide +kernel, by decide +kernel⟩
set_option maxRecDepth 100000 in
theorem xmv_TV_told : xmv g_TV_told := ⟨xmc_TV_told, lw_gm 580 rfl rfl, lw_gm 581 rfl rfl, _, _, rfl, rfl, rfl⟩
set_option maxRecDepth 100000 in
theorem xmc_TV_undo : xmc g_TV_undo := ⟨lw_gm 15 rfl rfl, lw_gm 592 rfl rfl, by decide +kernel, by decide +kernel, by decide +kernel⟩
set_option maxRecDepth 100000 in
theorem xmv_TV_undo : xmv g_TV_undo := ⟨xmc_TV_undo, lw_gm 590 rfl rfl, lw_gm 591 rfl rfl, _, _, rfl, rfl, rfl⟩
set_option maxRecDepth 100000 in
theorem xmc_TV_isRegister : xmc g_TV_isRegister := ⟨lw_gm 15 rfl rfl, lw_gm 274 rfl rfl, by decide +kernel, by decide +kernel, by decide +kernel⟩
set_option maxRecDepth 100000 in
theorem xms_TV_isRegister : xms g_TV_isRegister := ⟨xmc_TV_isRegister, lw_gm 273 rfl rfl⟩
set_option maxRecDepth 100000 in
theorem xmc_TV_isSetOfRegisters : xmc g_TV_isSetOfRegisters := ⟨lw_gm 15 rfl rfl, lw_gm 365 rfl rfl, by decide +kernel, by decide +kernel, by decide +kernel⟩
set_option maxRecDepth 100000 in
theorem xms_TV_isSetOfRegisters : xms g_TV_isSetOfRegisters := ⟨xmc_TV_isSetOfRegisters, lw_gm 364 rfl rfl⟩
set_option maxRecDepth 100000 in
theorem xmc_TV_isLine : xmc g_TV_isLine := ⟨lw_gm 15 rfl rfl, lw_gm 424 rfl rfl, by decide +kernel, by decide +kernel, by decide +kernel⟩
set_option maxRecDepth 100000 in
theorem xmv_TV_isLine : xmv g_TV_isLine := ⟨xmc_TV_isLine, lw_gm 423 rfl rfl, lw_gm 5 rfl rfl, _, _, rfl, rfl, rfl⟩
set_option maxRecDepth 100000 in
theorem xmc_TV_isStanza : xmc g_TV_isStanza := ⟨lw_gm 15 rfl rfl, lw_gm 466 rfl rfl, by decide +kernel, by decide +kernel, by decide +kernel⟩
set_option maxRecDepth 100000 in
theorem xmv_TV_isStanza : xmv g_TV_isStanza := ⟨xmc_TV_isStanza, lw_gm 465 rfl rfl, lw_gm 6 rfl rfl, _, _, rfl, rfl, rfl⟩
set_option maxRecDepth 100000 in
theorem xmc_TV_store : xmc g_TV_store := ⟨lw_gm 15 rfl rfl, lw_gm 288 rfl rfl, by decide +kernel, by decide +kernel, by decide +kernel⟩
set_option maxRecDepth 100000 in
theorem xmv_TV_store : xmv g_TV_store := ⟨xmc_TV_store, lw_gm 287 rfl rfl, lw_gm 0 rfl rfl, _, _, rfl, rfl, rfl⟩
set_option maxRecDepth 100000 in
theorem xmc_JI_bitCount : xmc g_JI_bitCount := ⟨lw_gm 29 rfl rfl, lw_gm 294 rfl rfl, by decide +kernel, by decide +kernel, by decide +kernel⟩
set_option maxRecDepth 100000 in
theorem xms_JI_bitCount : xms g_JI_bitCount := ⟨xmc_JI_bitCount, lw_gm 293 rfl rfl⟩
set_option maxRecDepth 100000 in
theorem xmc_JA_fill : xmc g_JA_fill := ⟨lw_gm 19 rfl rfl, lw_gm 89 rfl rfl, by decide +kernel, by decide +kernel, by decide +kernel⟩
set_option maxRecDepth 100000 in
theorem xms_JA_fill : xms g_JA_fill := ⟨xmc_JA_fill, lw_gm 88 rfl rfl⟩
set_option maxRecDepth 100000 in
theorem xmc_Law_cell : xmc g_Law_cell := ⟨lw_gm 14 rfl rfl, lw_gm 335 rfl rfl, by decide +kernel, by decide +kernel, by decide +kernel⟩
set_option maxRecDepth 100000 in
theorem xms_Law_cell : xms g_Law_cell := ⟨xmc_Law_cell, lw_gm 334 rfl rfl⟩
set_option maxRecDepth 100000 in
theorem xmc_Law_all : xmc g_Law_all := ⟨lw_gm 14 rfl rfl, lw_gm 340 rfl rfl, by decide +kernel, by decide +kernel, by decide +kernel⟩
set_option maxRecDepth 100000 in
theorem xms_Law_all : xms g_Law_all := ⟨xmc_Law_all, lw_gm 339 rfl rfl⟩
set_option maxRecDepth 100000 in
theorem xmc_Law_powers : xmc g_Law_powers := ⟨lw_gm 14 rfl rfl, lw_gm 343 rfl rfl, by decide +kernel, by decide +kernel, by decide +kernel⟩
set_option maxRecDepth 100000 in
theorem xms_Law_powers : xms g_Law_powers := ⟨xmc_Law_powers, lw_gm 342 rfl rfl⟩
set_option maxRecDepth 100000 in
theorem xmc_Law_products : xmc g_Law_products := ⟨lw_gm 14 rfl rfl, lw_gm 394 rfl rfl, by decide +kernel, by decide +kernel, by decide +kernel⟩
set_option maxRecDepth 100000 in
theorem xms_Law_products : xms g_Law_products := ⟨xmc_Law_products, lw_gm 393 rfl rfl⟩
set_option maxRecDepth 100000 in
theorem xmc_Law_roots : xmc g_Law_roots := ⟨lw_gm 14 rfl rfl, lw_gm 436 rfl rfl, by decide +kernel, by decide +kernel, by decide +kernel⟩
set_option maxRecDepth 100000 in
theorem xms_Law_roots : xms g_Law_roots := ⟨xmc_Law_roots, lw_gm 435 rfl rfl⟩
set_option maxRecDepth 100000 in
theorem xmc_Law_differences : xmc g_Law_differences := ⟨lw_gm 14 rfl rfl, lw_gm 578 rfl rfl, by decide +kernel, by decide +kernel, by decide +kernel⟩
set_option maxRecDepth 100000 in
theorem xms_Law_differences : xms g_Law_differences := ⟨xmc_Law_differences, lw_gm 577 rfl rfl⟩
set_option maxRecDepth 100000 in
theorem xmc_Law_mends : xmc g_Law_mends := ⟨lw_gm 14 rfl rfl, lw_gm 449 rfl rfl, by decide +kernel, by decide +kernel, by decide +kernel⟩
set_option maxRecDepth 100000 in
theorem xms_Law_mends : xms g_Law_mends := ⟨xmc_Law_mends, lw_gm 448 rfl rfl⟩
set_option maxRecDepth 100000 in
theorem fl_Fit_9 : xfl "TurningVerse$Fit" 9 0 0 := ⟨_, rfl, by decide, lw_gm 206 rfl rfl⟩
set_option maxRecDepth 100000 in
theorem nf_0_0 (g : xSig) : xfp g 0 0 := fun r hr hf => by cases hr; cases hf
set_option maxRecDepth 100000 in
theorem fl_Fit_15 : xfl "TurningVerse$Fit" 15 0 1 := ⟨_, rfl, by decide, lw_gm 207 rfl rfl⟩
set_option maxRecDepth 100000 in
theorem fl_Fit_19 : xfl "TurningVerse$Fit" 19 0 2 := ⟨_, rfl, by decide, lw_gm 208 rfl rfl⟩
set_option maxRecDepth 100000 in
theorem fl_Fit_22 : xfl "TurningVerse$Fit" 22 0 3 := ⟨_, rfl, by decide, lw_gm 209 rfl rfl⟩
set_option maxRecDepth 100000 in
theorem ml_Row_7 : Cond.methodLink "TurningVerse$Row" 7 (sgN g_Row_with) ∈ lw_g := lw_gm 86 rfl rfl
set_option maxRecDepth 100000 in
theorem ml_Row_13 : Cond.methodLink "TurningVerse$Row" 13 (sgN g_Row_entry) ∈ lw_g := lw_gm 305 rfl rfl
set_option maxRecDepth 100000 in
theorem ml_Fit_59 : Cond.methodLink "TurningVerse$Fit" 59 (sgN g_JA_fill) ∈ lw_g := lw_gm 499 rfl rfl
set_option maxRecDepth 100000 in
theorem ml_Fit_65 : Cond.methodLink "TurningVerse$Fit" 65 (sgN g_Row_ascending) ∈ lw_g := lw_gm 500 rfl rfl
set_option maxRecDepth 100000 in
theorem fl_Fit_33 : xfl "TurningVerse$Fit" 33 2 0 := ⟨_, rfl, by decide, lw_gm 51 rfl rfl⟩
set_option maxRecDepth 100000 in
theorem ml_Fit_68 : Cond.methodLink "TurningVerse$Fit" 68 (sgN g_Row_entry) ∈ lw_g := lw_gm 501 rfl rfl
set_option maxRecDepth 100000 in
theorem fl_Fit_71 : xfl "TurningVerse$Fit" 71 2 2 := ⟨_, rfl, by decide, lw_gm 55 rfl rfl⟩
set_option maxRecDepth 100000 in
theorem fl_Fit_74 : xfl "TurningVerse$Fit" 74 2 3 := ⟨_, rfl, by decide, lw_gm 58 rfl rfl⟩
set_option maxRecDepth 100000 in
theorem ml_Fit_77 : Cond.methodLink "TurningVerse$Fit" 77 (sgN g_Row_turned) ∈ lw_g := lw_gm 502 rfl rfl
set_option maxRecDepth 100000 in
theorem ml_Fit_80 : Cond.methodLink "TurningVerse$Fit" 80 (sgN g_JI_bitCount) ∈ lw_g := lw_gm 507 rfl rfl
set_option maxRecDepth 100000 in
theorem ml_Fit_85 : Cond.methodLink "TurningVerse$Fit" 85 (sgN g_Fit_keptWith) ∈ lw_g := lw_gm 508 rfl rfl
set_option maxRecDepth 100000 in
theorem ml_Fit_25 : Cond.methodLink "TurningVerse$Fit" 25 (sgN g_Fit_compare) ∈ lw_g := lw_gm 495 rfl rfl
set_option maxRecDepth 100000 in
theorem ml_Fit_29 : Cond.methodLink "TurningVerse$Fit" 29 (sgN g_Fit_mostKept) ∈ lw_g := lw_gm 503 rfl rfl
set_option maxRecDepth 100000 in
theorem ml_Fit_38 : Cond.methodLink "TurningVerse$Fit" 38 (sgN g_Fit_firstWord) ∈ lw_g := lw_gm 567 rfl rfl
set_option maxRecDepth 100000 in
theorem ml_Fit_42 : Cond.methodLink "TurningVerse$Fit" 42 (sgN g_Row_with) ∈ lw_g := lw_gm 571 rfl rfl
set_option maxRecDepth 100000 in
theorem ml_Perm_9 : Cond.methodLink "TurningVerse$Permutation" 9 (sgN g_Row_entry) ∈ lw_g := lw_gm 281 rfl rfl
set_option maxRecDepth 100000 in
theorem ml_Perm_21 : Cond.methodLink "TurningVerse$Permutation" 21 (sgN g_Row_with) ∈ lw_g := lw_gm 284 rfl rfl
set_option maxRecDepth 100000 in
theorem ml_Fit_93 : Cond.methodLink "TurningVerse$Fit" 93 (sgN g_Fit_mostOfLine) ∈ lw_g := lw_gm 542 rfl rfl
set_option maxRecDepth 100000 in
theorem ml_Fit_96 : Cond.methodLink "TurningVerse$Fit" 96 (sgN g_Fit_mostOfWord) ∈ lw_g := lw_gm 546 rfl rfl
set_option maxRecDepth 100000 in
theorem ml_Fit_48 : Cond.methodLink "TurningVerse$Fit" 48 (sgN g_Perm_count) ∈ lw_g := lw_gm 536 rfl rfl
set_option maxRecDepth 100000 in
theorem ml_Fit_53 : Cond.methodLink "TurningVerse$Fit" 53 (sgN g_Perm_numbered) ∈ lw_g := lw_gm 537 rfl rfl
set_option maxRecDepth 100000 in
theorem ml_Fit_56 : Cond.methodLink "TurningVerse$Fit" 56 (sgN g_Fit_atMostKept) ∈ lw_g := lw_gm 538 rfl rfl
set_option maxRecDepth 100000 in
theorem fl_Poem_9 : xfl "TurningVerse$Poem" 9 2 0 := ⟨_, rfl, by decide, lw_gm 50 rfl rfl⟩
set_option maxRecDepth 100000 in
theorem nf_2_0 (g : xSig) : xfp g 2 0 := fun r hr hf => by cases hr; cases hf
set_option maxRecDepth 100000 in
theorem fl_Poem_15 : xfl "TurningVerse$Poem" 15 2 1 := ⟨_, rfl, by decide, lw_gm 53 rfl rfl⟩
set_option maxRecDepth 100000 in
theorem nf_2_1 (g : xSig) : xfp g 2 1 := fun r hr hf => by cases hr; cases hf
set_option maxRecDepth 100000 in
theorem fl_Poem_18 : xfl "TurningVerse$Poem" 18 2 2 := ⟨_, rfl, by decide, lw_gm 54 rfl rfl⟩
set_option maxRecDepth 100000 in
theorem fl_Poem_22 : xfl "TurningVerse$Poem" 22 2 3 := ⟨_, rfl, by decide, lw_gm 57 rfl rfl⟩
set_option maxRecDepth 100000 in
theorem fl_Poem_25 : xfl "TurningVerse$Poem" 25 2 4 := ⟨_, rfl, by decide, lw_gm 60 rfl rfl⟩
set_option maxRecDepth 100000 in
theorem fl_Poem_28 : xfl "TurningVerse$Poem" 28 2 5 := ⟨_, rfl, by decide, lw_gm 61 rfl rfl⟩
set_option maxRecDepth 100000 in
theorem fl_Sta_26 : xfl "TurningVerse$State" 26 5 0 := ⟨_, rfl, by decide, lw_gm 94 rfl rfl⟩
set_option maxRecDepth 100000 in
theorem nf_5_0 (g : xSig) : xfp g 5 0 := fun r hr hf => by cases hr; cases hf
set_option maxRecDepth 100000 in
theorem fl_Sta_30 : xfl "TurningVerse$State" 30 5 1 := ⟨_, rfl, by decide, lw_gm 97 rfl rfl⟩
set_option maxRecDepth 100000 in
theorem nf_5_1 (g : xSig) : xfp g 5 1 := fun r hr hf => by cases hr; cases hf
set_option maxRecDepth 100000 in
theorem ml_Sta_33 : Cond.methodLink "TurningVerse$State" 33 (sgN g_Row_with) ∈ lw_g := lw_gm 80 rfl rfl
set_option maxRecDepth 100000 in
theorem fl_Sta_9 : xfl "TurningVerse$State" 9 5 2 := ⟨_, rfl, by decide, lw_gm 98 rfl rfl⟩
set_option maxRecDepth 100000 in
theorem ml_Sta_39 : Cond.methodLink "TurningVerse$State" 39 (sgN g_Row_ascending) ∈ lw_g := lw_gm 83 rfl rfl
set_option maxRecDepth 100000 in
theorem ml_Sta_43 : Cond.methodLink "TurningVerse$State" 43 (sgN g_JA_fill) ∈ lw_g := lw_gm 87 rfl rfl
set_option maxRecDepth 100000 in
theorem fl_Sta_18 : xfl "TurningVerse$State" 18 5 3 := ⟨_, rfl, by decide, lw_gm 101 rfl rfl⟩
set_option maxRecDepth 100000 in
theorem ml_Sta_49 : Cond.methodLink "TurningVerse$State" 49 (sgN g_Poem_empty) ∈ lw_g := lw_gm 90 rfl rfl
set_option maxRecDepth 100000 in
theorem ml_Sta_17 : Cond.methodLink "TurningVerse$State" 17 (sgN g_Poem_init) ∈ lw_g := lw_gm 46 rfl rfl
set_option maxRecDepth 100000 in
theorem ml_Sta_22 : Cond.methodLink "TurningVerse$State" 22 (sgN g_Sta_startWith) ∈ lw_g := lw_gm 76 rfl rfl
set_option maxRecDepth 100000 in
theorem fl_Hist_9 : xfl "TurningVerse$History" 9 1 0 := ⟨_, rfl, by decide, lw_gm 121 rfl rfl⟩
set_option maxRecDepth 100000 in
theorem nf_1_0 (g : xSig) : xfp g 1 0 := fun r hr hf => by cases hr; cases hf
set_option maxRecDepth 100000 in
theorem fl_Hist_15 : xfl "TurningVerse$History" 15 1 1 := ⟨_, rfl, by decide, lw_gm 123 rfl rfl⟩
set_option maxRecDepth 100000 in
theorem nf_1_1 (g : xSig) : xfp g 1 1 := fun r hr hf => by cases hr; cases hf
set_option maxRecDepth 100000 in
theorem fl_Hist_20 : xfl "TurningVerse$History" 20 1 2 := ⟨_, rfl, by decide, lw_gm 124 rfl rfl⟩
set_option maxRecDepth 100000 in
theorem ml_Hist_24 : Cond.methodLink "TurningVerse$History" 24 (sgN g_Sta_init) ∈ lw_g := lw_gm 120 rfl rfl
set_option maxRecDepth 100000 in
theorem ml_Sta_58 : Cond.methodLink "TurningVerse$State" 58 (sgN g_Poem_copyFrom) ∈ lw_g := lw_gm 259 rfl rfl
set_option maxRecDepth 100000 in
theorem ml_Hist_25 : Cond.methodLink "TurningVerse$History" 25 (sgN g_Sta_copyFrom) ∈ lw_g := lw_gm 252 rfl rfl
set_option maxRecDepth 100000 in
theorem ml_Perm_15 : Cond.methodLink "TurningVerse$Permutation" 15 (sgN g_JI_bitCount) ∈ lw_g := lw_gm 292 rfl rfl
set_option maxRecDepth 100000 in
theorem ml_Perm_31 : Cond.methodLink "TurningVerse$Permutation" 31 (sgN g_Perm_lineOfWeave) ∈ lw_g := lw_gm 431 rfl rfl
set_option maxRecDepth 100000 in
theorem ml_Perm_25 : Cond.methodLink "TurningVerse$Permutation" 25 (sgN g_Perm_lineOfKind) ∈ lw_g := lw_gm 428 rfl rfl
set_option maxRecDepth 100000 in
theorem ml_Perm_34 : Cond.methodLink "TurningVerse$Permutation" 34 (sgN g_Row_ascending) ∈ lw_g := lw_gm 301 rfl rfl
set_option maxRecDepth 100000 in
theorem ml_Perm_37 : Cond.methodLink "TurningVerse$Permutation" 37 (sgN g_Row_turned) ∈ lw_g := lw_gm 302 rfl rfl
set_option maxRecDepth 100000 in
theorem ml_Perm_40 : Cond.methodLink "TurningVerse$Permutation" 40 (sgN g_Perm_count) ∈ lw_g := lw_gm 444 rfl rfl
set_option maxRecDepth 100000 in
theorem ml_Perm_43 : Cond.methodLink "TurningVerse$Permutation" 43 (sgN g_Perm_numbered) ∈ lw_g := lw_gm 445 rfl rfl
set_option maxRecDepth 100000 in
theorem ml_Perm_46 : Cond.methodLink "TurningVerse$Permutation" 46 (sgN g_Perm_repeated) ∈ lw_g := lw_gm 446 rfl rfl
set_option maxRecDepth 100000 in
theorem ml_Perm_67 : Cond.methodLink "TurningVerse$Permutation" 67 (sgN g_Perm_cycleOf) ∈ lw_g := lw_gm 318 rfl rfl
set_option maxRecDepth 100000 in
theorem ml_Perm_49 : Cond.methodLink "TurningVerse$Permutation" 49 (sgN g_Perm_number) ∈ lw_g := lw_gm 313 rfl rfl
set_option maxRecDepth 100000 in
theorem ml_Perm_52 : Cond.methodLink "TurningVerse$Permutation" 52 (sgN g_Perm_order) ∈ lw_g := lw_gm 314 rfl rfl
set_option maxRecDepth 100000 in
theorem ml_Perm_55 : Cond.methodLink "TurningVerse$Permutation" 55 (sgN g_Perm_cycles) ∈ lw_g := lw_gm 315 rfl rfl
set_option maxRecDepth 100000 in
theorem ml_Perm_58 : Cond.methodLink "TurningVerse$Permutation" 58 (sgN g_Perm_fixedLines) ∈ lw_g := lw_gm 321 rfl rfl
set_option maxRecDepth 100000 in
theorem ml_Perm_61 : Cond.methodLink "TurningVerse$Permutation" 61 (sgN g_Perm_longestCycle) ∈ lw_g := lw_gm 324 rfl rfl
set_option maxRecDepth 100000 in
theorem ml_Perm_64 : Cond.methodLink "TurningVerse$Permutation" 64 (sgN g_Perm_cycleType) ∈ lw_g := lw_gm 330 rfl rfl
set_option maxRecDepth 100000 in
theorem ml_Row_17 : Cond.methodLink "TurningVerse$Row" 17 (sgN g_Row_entries) ∈ lw_g := lw_gm 470 rfl rfl
set_option maxRecDepth 100000 in
theorem ml_Poem_37 : Cond.methodLink "TurningVerse$Poem" 37 (sgN g_Row_hasEach) ∈ lw_g := lw_gm 485 rfl rfl
set_option maxRecDepth 100000 in
theorem ml_Poem_43 : Cond.methodLink "TurningVerse$Poem" 43 (sgN g_JI_bitCount) ∈ lw_g := lw_gm 588 rfl rfl
set_option maxRecDepth 100000 in
theorem ml_Poem_49 : Cond.methodLink "TurningVerse$Poem" 49 (sgN g_Perm_inverse) ∈ lw_g := lw_gm 521 rfl rfl
set_option maxRecDepth 100000 in
theorem ml_Poem_55 : Cond.methodLink "TurningVerse$Poem" 55 (sgN g_Row_turned) ∈ lw_g := lw_gm 486 rfl rfl
set_option maxRecDepth 100000 in
theorem ml_Poem_59 : Cond.methodLink "TurningVerse$Poem" 59 (sgN g_Poem_properStanzas) ∈ lw_g := lw_gm 481 rfl rfl
set_option maxRecDepth 100000 in
theorem ml_PR_11 : Cond.methodLink "TurningVerse$PoemReader" 11 (sgN g_Poem_init) ∈ lw_g := lw_gm 153 rfl rfl
set_option maxRecDepth 100000 in
theorem fl_PR_12 : xfl "TurningVerse$PoemReader" 12 3 1 := ⟨_, rfl, by decide, lw_gm 155 rfl rfl⟩
set_option maxRecDepth 100000 in
theorem fl_PR_18 : xfl "TurningVerse$PoemReader" 18 3 0 := ⟨_, rfl, by decide, lw_gm 154 rfl rfl⟩
set_option maxRecDepth 100000 in
theorem nf_3_0 (g : xSig) : xfp g 3 0 := fun r hr hf => by cases hr; cases hf
set_option maxRecDepth 100000 in
theorem fl_PR_22 : xfl "TurningVerse$PoemReader" 22 3 2 := ⟨_, rfl, by decide, lw_gm 156 rfl rfl⟩
set_option maxRecDepth 100000 in
theorem nf_3_2 (g : xSig) : xfp g 3 2 := fun r hr hf => by cases hr; cases hf
set_option maxRecDepth 100000 in
theorem fl_Sea_9 : xfl "TurningVerse$Search" 9 4 0 := ⟨_, rfl, by decide, lw_gm 180 rfl rfl⟩
set_option maxRecDepth 100000 in
theorem nf_4_0 (g : xSig) : xfp g 4 0 := fun r hr hf => by cases hr; cases hf
set_option maxRecDepth 100000 in
theorem fl_Sea_15 : xfl "TurningVerse$Search" 15 4 1 := ⟨_, rfl, by decide, lw_gm 182 rfl rfl⟩
set_option maxRecDepth 100000 in
theorem nf_4_1 (g : xSig) : xfp g 4 1 := fun r hr hf => by cases hr; cases hf
set_option maxRecDepth 100000 in
theorem fl_Sea_18 : xfl "TurningVerse$Search" 18 4 2 := ⟨_, rfl, by decide, lw_gm 183 rfl rfl⟩
set_option maxRecDepth 100000 in
theorem nf_4_2 (g : xSig) : xfp g 4 2 := fun r hr hf => by cases hr; cases hf
set_option maxRecDepth 100000 in
theorem fl_Sea_21 : xfl "TurningVerse$Search" 21 4 3 := ⟨_, rfl, by decide, lw_gm 184 rfl rfl⟩
set_option maxRecDepth 100000 in
theorem fl_Sea_25 : xfl "TurningVerse$Search" 25 4 4 := ⟨_, rfl, by decide, lw_gm 185 rfl rfl⟩
set_option maxRecDepth 100000 in
theorem fl_Sea_28 : xfl "TurningVerse$Search" 28 4 5 := ⟨_, rfl, by decide, lw_gm 186 rfl rfl⟩
set_option maxRecDepth 100000 in
theorem ml_Sea_70 : Cond.methodLink "TurningVerse$Search" 70 (sgN g_Perm_number) ∈ lw_g := lw_gm 377 rfl rfl
set_option maxRecDepth 100000 in
theorem fl_Sea_31 : xfl "TurningVerse$Search" 31 5 0 := ⟨_, rfl, by decide, lw_gm 95 rfl rfl⟩
set_option maxRecDepth 100000 in
theorem fl_Sea_34 : xfl "TurningVerse$Search" 34 5 2 := ⟨_, rfl, by decide, lw_gm 99 rfl rfl⟩
set_option maxRecDepth 100000 in
theorem ml_Sea_43 : Cond.methodLink "TurningVerse$Search" 43 (sgN g_JA_fill) ∈ lw_g := lw_gm 371 rfl rfl
set_option maxRecDepth 100000 in
theorem ml_Sea_49 : Cond.methodLink "TurningVerse$Search" 49 (sgN g_Row_ascending) ∈ lw_g := lw_gm 372 rfl rfl
set_option maxRecDepth 100000 in
theorem ml_Sea_55 : Cond.methodLink "TurningVerse$Search" 55 (sgN g_Sea_note) ∈ lw_g := lw_gm 373 rfl rfl
set_option maxRecDepth 100000 in
theorem ml_Sea_59 : Cond.methodLink "TurningVerse$Search" 59 (sgN g_Sea_depthOf) ∈ lw_g := lw_gm 378 rfl rfl
set_option maxRecDepth 100000 in
theorem ml_Sea_62 : Cond.methodLink "TurningVerse$Search" 62 (sgN g_Sea_isFactor) ∈ lw_g := lw_gm 382 rfl rfl
set_option maxRecDepth 100000 in
theorem ml_Sea_66 : Cond.methodLink "TurningVerse$Search" 66 (sgN g_Row_turned) ∈ lw_g := lw_gm 386 rfl rfl
set_option maxRecDepth 100000 in
theorem ml_Sea_82 : Cond.methodLink "TurningVerse$Search" 82 (sgN g_Perm_inverse) ∈ lw_g := lw_gm 416 rfl rfl
set_option maxRecDepth 100000 in
theorem ml_Sea_79 : Cond.methodLink "TurningVerse$Search" 79 (sgN g_Sea_without) ∈ lw_g := lw_gm 412 rfl rfl
set_option maxRecDepth 100000 in
theorem ml_Sea_76 : Cond.methodLink "TurningVerse$Search" 76 (sgN g_Sea_firstFactor) ∈ lw_g := lw_gm 408 rfl rfl
set_option maxRecDepth 100000 in
theorem fl_Txt_9 : xfl "TurningVerse$Text" 9 6 0 := ⟨_, rfl, by decide, lw_gm 138 rfl rfl⟩
set_option maxRecDepth 100000 in
theorem nf_6_0 (g : xSig) : xfp g 6 0 := fun r hr hf => by cases hr; cases hf
set_option maxRecDepth 100000 in
theorem fl_Txt_15 : xfl "TurningVerse$Text" 15 6 1 := ⟨_, rfl, by decide, lw_gm 140 rfl rfl⟩
set_option maxRecDepth 100000 in
theorem fl_TR_9 : xfl "TurningVerse$TurnReader" 9 7 0 := ⟨_, rfl, by decide, lw_gm 170 rfl rfl⟩
set_option maxRecDepth 100000 in
theorem nf_7_0 (g : xSig) : xfp g 7 0 := fun r hr hf => by cases hr; cases hf
set_option maxRecDepth 100000 in
theorem ml_TV_11 : Cond.methodLink "TurningVerse" 11 (sgN g_Sta_init) ∈ lw_g := lw_gm 40 rfl rfl
set_option maxRecDepth 100000 in
theorem fl_TV_12 : xfl "TurningVerse" 12 8 0 := ⟨_, rfl, by decide, lw_gm 219 rfl rfl⟩
set_option maxRecDepth 100000 in
theorem ml_TV_18 : Cond.methodLink "TurningVerse" 18 (sgN g_Hist_init) ∈ lw_g := lw_gm 114 rfl rfl
set_option maxRecDepth 100000 in
theorem fl_TV_19 : xfl "TurningVerse" 19 8 1 := ⟨_, rfl, by decide, lw_gm 220 rfl rfl⟩
set_option maxRecDepth 100000 in
theorem ml_TV_25 : Cond.methodLink "TurningVerse" 25 (sgN g_Txt_init) ∈ lw_g := lw_gm 134 rfl rfl
set_option maxRecDepth 100000 in
theorem fl_TV_26 : xfl "TurningVerse" 26 8 2 := ⟨_, rfl, by decide, lw_gm 221 rfl rfl⟩
set_option maxRecDepth 100000 in
theorem ml_TV_32 : Cond.methodLink "TurningVerse" 32 (sgN g_PR_init) ∈ lw_g := lw_gm 148 rfl rfl
set_option maxRecDepth 100000 in
theorem fl_TV_33 : xfl "TurningVerse" 33 8 3 := ⟨_, rfl, by decide, lw_gm 222 rfl rfl⟩
set_option maxRecDepth 100000 in
theorem ml_TV_39 : Cond.methodLink "TurningVerse" 39 (sgN g_TR_init) ∈ lw_g := lw_gm 166 rfl rfl
set_option maxRecDepth 100000 in
theorem fl_TV_40 : xfl "TurningVerse" 40 8 4 := ⟨_, rfl, by decide, lw_gm 223 rfl rfl⟩
set_option maxRecDepth 100000 in
theorem ml_TV_46 : Cond.methodLink "TurningVerse" 46 (sgN g_Sea_init) ∈ lw_g := lw_gm 176 rfl rfl
set_option maxRecDepth 100000 in
theorem fl_TV_47 : xfl "TurningVerse" 47 8 5 := ⟨_, rfl, by decide, lw_gm 224 rfl rfl⟩
set_option maxRecDepth 100000 in
theorem ml_TV_53 : Cond.methodLink "TurningVerse" 53 (sgN g_Fit_init) ∈ lw_g := lw_gm 202 rfl rfl
set_option maxRecDepth 100000 in
theorem fl_TV_54 : xfl "TurningVerse" 54 8 6 := ⟨_, rfl, by decide, lw_gm 225 rfl rfl⟩
set_option maxRecDepth 100000 in
theorem fl_TV_58 : xfl "TurningVerse" 58 8 7 := ⟨_, rfl, by decide, lw_gm 226 rfl rfl⟩
set_option maxRecDepth 100000 in
theorem ml_TV_62 : Cond.methodLink "TurningVerse" 62 (sgN g_Hist_remember) ∈ lw_g := lw_gm 248 rfl rfl
set_option maxRecDepth 100000 in
theorem fl_TV_66 : xfl "TurningVerse" 66 5 0 := ⟨_, rfl, by decide, lw_gm 96 rfl rfl⟩
set_option maxRecDepth 100000 in
theorem ml_TV_70 : Cond.methodLink "TurningVerse" 70 (sgN g_Sta_startWith) ∈ lw_g := lw_gm 267 rfl rfl
set_option maxRecDepth 100000 in
theorem fl_TV_133 : xfl "TurningVerse" 133 5 2 := ⟨_, rfl, by decide, lw_gm 100 rfl rfl⟩
set_option maxRecDepth 100000 in
theorem ml_TV_201 : Cond.methodLink "TurningVerse" 201 (sgN g_Perm_number) ∈ lw_g := lw_gm 289 rfl rfl
set_option maxRecDepth 100000 in
theorem ml_TV_116 : Cond.methodLink "TurningVerse" 116 (sgN g_TV_isRegister) ∈ lw_g := lw_gm 272 rfl rfl
set_option maxRecDepth 100000 in
theorem ml_TV_74 : Cond.methodLink "TurningVerse" 74 (sgN g_TV_isLine) ∈ lw_g := lw_gm 421 rfl rfl
set_option maxRecDepth 100000 in
theorem ml_TV_128 : Cond.methodLink "TurningVerse" 128 (sgN g_Perm_ofKind) ∈ lw_g := lw_gm 425 rfl rfl
set_option maxRecDepth 100000 in
theorem ml_TV_125 : Cond.methodLink "TurningVerse" 125 (sgN g_TV_store) ∈ lw_g := lw_gm 285 rfl rfl
set_option maxRecDepth 100000 in
theorem ml_TV_136 : Cond.methodLink "TurningVerse" 136 (sgN g_Row_turned) ∈ lw_g := lw_gm 391 rfl rfl
set_option maxRecDepth 100000 in
theorem ml_TV_141 : Cond.methodLink "TurningVerse" 141 (sgN g_Perm_inverse) ∈ lw_g := lw_gm 350 rfl rfl
set_option maxRecDepth 100000 in
theorem ml_TV_150 : Cond.methodLink "TurningVerse" 150 (sgN g_Perm_repeated) ∈ lw_g := lw_gm 356 rfl rfl
set_option maxRecDepth 100000 in
theorem ml_TV_153 : Cond.methodLink "TurningVerse" 153 (sgN g_Perm_count) ∈ lw_g := lw_gm 275 rfl rfl
set_option maxRecDepth 100000 in
theorem ml_TV_155 : Cond.methodLink "TurningVerse" 155 (sgN g_Perm_numbered) ∈ lw_g := lw_gm 278 rfl rfl
set_option maxRecDepth 100000 in
theorem ml_TV_158 : Cond.methodLink "TurningVerse" 158 (sgN g_Perm_order) ∈ lw_g := lw_gm 298 rfl rfl
set_option maxRecDepth 100000 in
theorem ml_TV_161 : Cond.methodLink "TurningVerse" 161 (sgN g_Perm_firstRoot) ∈ lw_g := lw_gm 441 rfl rfl
set_option maxRecDepth 100000 in
theorem ml_TV_164 : Cond.methodLink "TurningVerse" 164 (sgN g_Perm_property) ∈ lw_g := lw_gm 310 rfl rfl
set_option maxRecDepth 100000 in
theorem ml_TV_167 : Cond.methodLink "TurningVerse" 167 (sgN g_TV_isSetOfRegisters) ∈ lw_g := lw_gm 363 rfl rfl
set_option maxRecDepth 100000 in
theorem ml_TV_170 : Cond.methodLink "TurningVerse" 170 (sgN g_Sea_spread) ∈ lw_g := lw_gm 366 rfl rfl
set_option maxRecDepth 100000 in
theorem fl_TV_174 : xfl "TurningVerse" 174 4 0 := ⟨_, rfl, by decide, lw_gm 181 rfl rfl⟩
set_option maxRecDepth 100000 in
theorem ml_TV_175 : Cond.methodLink "TurningVerse" 175 (sgN g_Sea_depthOf) ∈ lw_g := lw_gm 399 rfl rfl
set_option maxRecDepth 100000 in
theorem ml_TV_178 : Cond.methodLink "TurningVerse" 178 (sgN g_Sea_factorAt) ∈ lw_g := lw_gm 404 rfl rfl
set_option maxRecDepth 100000 in
theorem fl_TV_102 : xfl "TurningVerse" 102 5 3 := ⟨_, rfl, by decide, lw_gm 102 rfl rfl⟩
set_option maxRecDepth 100000 in
theorem fl_TV_113 : xfl "TurningVerse" 113 2 0 := ⟨_, rfl, by decide, lw_gm 52 rfl rfl⟩
set_option maxRecDepth 100000 in
theorem ml_TV_181 : Cond.methodLink "TurningVerse" 181 (sgN g_Row_ascending) ∈ lw_g := lw_gm 454 rfl rfl
set_option maxRecDepth 100000 in
theorem ml_TV_184 : Cond.methodLink "TurningVerse" 184 (sgN g_Poem_append) ∈ lw_g := lw_gm 455 rfl rfl
set_option maxRecDepth 100000 in
theorem fl_TV_185 : xfl "TurningVerse" 185 2 2 := ⟨_, rfl, by decide, lw_gm 56 rfl rfl⟩
set_option maxRecDepth 100000 in
theorem ml_TV_188 : Cond.methodLink "TurningVerse" 188 (sgN g_TV_isStanza) ∈ lw_g := lw_gm 463 rfl rfl
set_option maxRecDepth 100000 in
theorem ml_TV_87 : Cond.methodLink "TurningVerse" 87 (sgN g_Row_with) ∈ lw_g := lw_gm 526 rfl rfl
set_option maxRecDepth 100000 in
theorem ml_TV_81 : Cond.methodLink "TurningVerse" 81 (sgN g_Row_entry) ∈ lw_g := lw_gm 527 rfl rfl
set_option maxRecDepth 100000 in
theorem fl_TV_191 : xfl "TurningVerse" 191 2 3 := ⟨_, rfl, by decide, lw_gm 59 rfl rfl⟩
set_option maxRecDepth 100000 in
theorem ml_TV_194 : Cond.methodLink "TurningVerse" 194 (sgN g_Row_hasEach) ∈ lw_g := lw_gm 467 rfl rfl
set_option maxRecDepth 100000 in
theorem ml_TV_198 : Cond.methodLink "TurningVerse" 198 (sgN g_Poem_turnBehind) ∈ lw_g := lw_gm 517 rfl rfl
set_option maxRecDepth 100000 in
theorem ml_TV_204 : Cond.methodLink "TurningVerse" 204 (sgN g_Poem_turnsBy) ∈ lw_g := lw_gm 477 rfl rfl
set_option maxRecDepth 100000 in
theorem ml_TV_207 : Cond.methodLink "TurningVerse" 207 (sgN g_Fit_changes) ∈ lw_g := lw_gm 491 rfl rfl
set_option maxRecDepth 100000 in
theorem ml_TV_211 : Cond.methodLink "TurningVerse" 211 (sgN g_Fit_firstRow) ∈ lw_g := lw_gm 563 rfl rfl
set_option maxRecDepth 100000 in
theorem ml_TV_215 : Cond.methodLink "TurningVerse" 215 (sgN g_Poem_rewrite) ∈ lw_g := lw_gm 572 rfl rfl
set_option maxRecDepth 100000 in
theorem ml_TV_219 : Cond.methodLink "TurningVerse" 219 (sgN g_Fit_bestPermutation) ∈ lw_g := lw_gm 532 rfl rfl
set_option maxRecDepth 100000 in
theorem ml_TV_258 : Cond.methodLink "TurningVerse" 258 (sgN g_Poem_properStanzas) ∈ lw_g := lw_gm 583 rfl rfl
set_option maxRecDepth 100000 in
theorem ml_TV_261 : Cond.methodLink "TurningVerse" 261 (sgN g_Poem_lockedPlaces) ∈ lw_g := lw_gm 584 rfl rfl
set_option maxRecDepth 100000 in
theorem fl_TV_91 : xfl "TurningVerse" 91 6 0 := ⟨_, rfl, by decide, lw_gm 139 rfl rfl⟩
set_option maxRecDepth 100000 in
theorem fl_TV_264 : xfl "TurningVerse" 264 1 0 := ⟨_, rfl, by decide, lw_gm 122 rfl rfl⟩
set_option maxRecDepth 100000 in
theorem ml_TV_265 : Cond.methodLink "TurningVerse" 265 (sgN g_Hist_restore) ∈ lw_g := lw_gm 593 rfl rfl
set_option maxRecDepth 100000 in
theorem ml_Law_15 : Cond.methodLink "TurningVerseLaw" 15 (sgN g_TV_turn) ∈ lw_g := lw_gm 306 rfl rfl
set_option maxRecDepth 100000 in
theorem ml_Law_21 : Cond.methodLink "TurningVerseLaw" 21 (sgN g_TV_power) ∈ lw_g := lw_gm 344 rfl rfl
set_option maxRecDepth 100000 in
theorem ml_Law_25 : Cond.methodLink "TurningVerseLaw" 25 (sgN g_TV_generated) ∈ lw_g := lw_gm 359 rfl rfl
set_option maxRecDepth 100000 in
theorem ml_Law_28 : Cond.methodLink "TurningVerseLaw" 28 (sgN g_TV_product) ∈ lw_g := lw_gm 387 rfl rfl
set_option maxRecDepth 100000 in
theorem ml_Law_9 : Cond.methodLink "TurningVerseLaw" 9 (sgN g_Law_all) ∈ lw_g := lw_gm 338 rfl rfl
set_option maxRecDepth 100000 in
theorem ml_Law_31 : Cond.methodLink "TurningVerseLaw" 31 (sgN g_TV_unrank) ∈ lw_g := lw_gm 268 rfl rfl
set_option maxRecDepth 100000 in
theorem ml_Law_34 : Cond.methodLink "TurningVerseLaw" 34 (sgN g_TV_reach) ∈ lw_g := lw_gm 395 rfl rfl
set_option maxRecDepth 100000 in
theorem ml_Law_37 : Cond.methodLink "TurningVerseLaw" 37 (sgN g_TV_factor) ∈ lw_g := lw_gm 400 rfl rfl
set_option maxRecDepth 100000 in
theorem ml_Law_40 : Cond.methodLink "TurningVerseLaw" 40 (sgN g_TV_make) ∈ lw_g := lw_gm 417 rfl rfl
set_option maxRecDepth 100000 in
theorem ml_Law_43 : Cond.methodLink "TurningVerseLaw" 43 (sgN g_TV_root) ∈ lw_g := lw_gm 437 rfl rfl
set_option maxRecDepth 100000 in
theorem ml_Law_46 : Cond.methodLink "TurningVerseLaw" 46 (sgN g_TV_told) ∈ lw_g := lw_gm 579 rfl rfl
set_option maxRecDepth 100000 in
theorem ml_Law_49 : Cond.methodLink "TurningVerseLaw" 49 (sgN g_TV_word) ∈ lw_g := lw_gm 551 rfl rfl
set_option maxRecDepth 100000 in
theorem ml_Law_52 : Cond.methodLink "TurningVerseLaw" 52 (sgN g_Law_cell) ∈ lw_g := lw_gm 333 rfl rfl
set_option maxRecDepth 100000 in
theorem ml_Law_56 : Cond.methodLink "TurningVerseLaw" 56 (sgN g_TV_add) ∈ lw_g := lw_gm 450 rfl rfl
set_option maxRecDepth 100000 in
theorem ml_Law_59 : Cond.methodLink "TurningVerseLaw" 59 (sgN g_TV_proper) ∈ lw_g := lw_gm 459 rfl rfl
set_option maxRecDepth 100000 in
theorem ml_Law_62 : Cond.methodLink "TurningVerseLaw" 62 (sgN g_TV_follows) ∈ lw_g := lw_gm 473 rfl rfl
set_option maxRecDepth 100000 in
theorem ml_Law_65 : Cond.methodLink "TurningVerseLaw" 65 (sgN g_TV_cost) ∈ lw_g := lw_gm 487 rfl rfl
set_option maxRecDepth 100000 in
theorem ml_Law_68 : Cond.methodLink "TurningVerseLaw" 68 (sgN g_TV_common) ∈ lw_g := lw_gm 513 rfl rfl
set_option maxRecDepth 100000 in
theorem ml_Law_71 : Cond.methodLink "TurningVerseLaw" 71 (sgN g_TV_put) ∈ lw_g := lw_gm 522 rfl rfl
set_option maxRecDepth 100000 in
theorem ml_Law_74 : Cond.methodLink "TurningVerseLaw" 74 (sgN g_TV_best) ∈ lw_g := lw_gm 528 rfl rfl
set_option maxRecDepth 100000 in
theorem ml_Law_77 : Cond.methodLink "TurningVerseLaw" 77 (sgN g_TV_lock) ∈ lw_g := lw_gm 555 rfl rfl
set_option maxRecDepth 100000 in
theorem ml_Law_81 : Cond.methodLink "TurningVerseLaw" 81 (sgN g_TV_mend) ∈ lw_g := lw_gm 559 rfl rfl
set_option maxRecDepth 100000 in
theorem ml_Law_84 : Cond.methodLink "TurningVerseLaw" 84 (sgN g_Law_differences) ∈ lw_g := lw_gm 576 rfl rfl
set_option maxRecDepth 100000 in
theorem ml_Law_88 : Cond.methodLink "TurningVerseLaw" 88 (sgN g_TV_undo) ∈ lw_g := lw_gm 589 rfl rfl
set_option maxRecDepth 100000 in
theorem ml_Law_92 : Cond.methodLink "TurningVerseLaw" 92 (sgN g_TV_turning) ∈ lw_g := lw_gm 597 rfl rfl
set_option maxRecDepth 100000 in
theorem ml_Law_95 : Cond.methodLink "TurningVerseLaw" 95 (sgN g_TV_drop) ∈ lw_g := lw_gm 601 rfl rfl
set_option maxRecDepth 100000 in
theorem ml_Law_98 : Cond.methodLink "TurningVerseLaw" 98 (sgN g_TV_init) ∈ lw_g := lw_gm 32 rfl rfl
set_option maxRecDepth 100000 in
theorem ml_Law_99 : Cond.methodLink "TurningVerseLaw" 99 (sgN g_TV_setWords) ∈ lw_g := lw_gm 244 rfl rfl
set_option maxRecDepth 100000 in
theorem ml_Law_102 : Cond.methodLink "TurningVerseLaw" 102 (sgN g_Law_powers) ∈ lw_g := lw_gm 341 rfl rfl
set_option maxRecDepth 100000 in
theorem ml_Law_106 : Cond.methodLink "TurningVerseLaw" 106 (sgN g_Law_products) ∈ lw_g := lw_gm 392 rfl rfl
set_option maxRecDepth 100000 in
theorem ml_Law_110 : Cond.methodLink "TurningVerseLaw" 110 (sgN g_Law_roots) ∈ lw_g := lw_gm 434 rfl rfl
set_option maxRecDepth 100000 in
theorem ml_Law_114 : Cond.methodLink "TurningVerseLaw" 114 (sgN g_Law_mends) ∈ lw_g := lw_gm 447 rfl rfl
