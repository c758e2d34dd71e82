/-! SIGNATURES, and what the tables say of each -/
def g_Fit_init : xSig := (⟨"TurningVerse$Fit", "<init>", "()V"⟩, prog_2_method_1_code, 1, none, 1, 20, 0, none)
def g_Fit_changes : xSig := (⟨"TurningVerse$Fit", "changes", "(LTurningVerse$Poem;II)I"⟩, prog_2_method_2_code, 5, some .int, 3, 74, 3, some 0)
def g_Fit_firstRow : xSig := (⟨"TurningVerse$Fit", "firstRow", "()I"⟩, prog_2_method_3_code, 5, some .int, 2, 47, 0, some 0)
def g_Fit_bestPermutation : xSig := (⟨"TurningVerse$Fit", "bestPermutation", "(LTurningVerse$Poem;I)I"⟩, prog_2_method_4_code, 9, some .int, 3, 74, 2, some 0)
def g_Fit_compare : xSig := (⟨"TurningVerse$Fit", "compare", "(LTurningVerse$Poem;II)V"⟩, prog_2_method_5_code, 9, none, 2, 46, 3, some 0)
def g_Fit_mostKept : xSig := (⟨"TurningVerse$Fit", "mostKept", "()I"⟩, prog_2_method_6_code, 6, some .int, 1, 26, 0, some 0)
def g_Fit_keptWith : xSig := (⟨"TurningVerse$Fit", "keptWith", "(III)I"⟩, prog_2_method_7_code, 5, some .int, 0, 0, 3, some 0)
def g_Fit_firstWord : xSig := (⟨"TurningVerse$Fit", "firstWord", "(II)I"⟩, prog_2_method_8_code, 4, some .int, 1, 24, 2, some 0)
def g_Fit_atMostKept : xSig := (⟨"TurningVerse$Fit", "atMostKept", "()I"⟩, prog_2_method_9_code, 4, some .int, 2, 49, 0, some 0)
def g_Fit_mostOfLine : xSig := (⟨"TurningVerse$Fit", "mostOfLine", "(I)I"⟩, prog_2_method_10_code, 4, some .int, 1, 26, 1, some 0)
def g_Fit_mostOfWord : xSig := (⟨"TurningVerse$Fit", "mostOfWord", "(I)I"⟩, prog_2_method_11_code, 4, some .int, 1, 26, 1, some 0)
def g_Hist_init : xSig := (⟨"TurningVerse$History", "<init>", "()V"⟩, prog_3_method_1_code, 2, none, 4, 86, 0, none)
def g_Hist_remember : xSig := (⟨"TurningVerse$History", "remember", "(LTurningVerse$State;)V"⟩, prog_3_method_2_code, 2, none, 3, 68, 1, some 1)
def g_Hist_restore : xSig := (⟨"TurningVerse$History", "restore", "(LTurningVerse$State;)V"⟩, prog_3_method_3_code, 2, none, 3, 68, 1, some 1)
def g_Perm_count : xSig := (⟨"TurningVerse$Permutation", "count", "(I)I"⟩, prog_4_method_2_code, 3, some .int, 0, 0, 1, none)
def g_Perm_number : xSig := (⟨"TurningVerse$Permutation", "number", "(II)I"⟩, prog_4_method_3_code, 6, some .int, 1, 21, 2, none)
def g_Perm_numbered : xSig := (⟨"TurningVerse$Permutation", "numbered", "(II)I"⟩, prog_4_method_4_code, 9, some .int, 1, 22, 2, none)
def g_Perm_ofKind : xSig := (⟨"TurningVerse$Permutation", "ofKind", "(III)I"⟩, prog_4_method_5_code, 5, some .int, 2, 45, 3, none)
def g_Perm_lineOfKind : xSig := (⟨"TurningVerse$Permutation", "lineOfKind", "(IIII)I"⟩, prog_4_method_6_code, 4, some .int, 1, 22, 4, none)
def g_Perm_lineOfWeave : xSig := (⟨"TurningVerse$Permutation", "lineOfWeave", "(II)I"⟩, prog_4_method_7_code, 3, some .int, 0, 0, 2, none)
def g_Perm_inverse : xSig := (⟨"TurningVerse$Permutation", "inverse", "(II)I"⟩, prog_4_method_8_code, 4, some .int, 1, 22, 2, none)
def g_Perm_repeated : xSig := (⟨"TurningVerse$Permutation", "repeated", "(III)I"⟩, prog_4_method_9_code, 6, some .int, 2, 46, 3, none)
def g_Perm_firstRoot : xSig := (⟨"TurningVerse$Permutation", "firstRoot", "(III)I"⟩, prog_4_method_10_code, 6, some .int, 3, 71, 3, none)
def g_Perm_order : xSig := (⟨"TurningVerse$Permutation", "order", "(II)I"⟩, prog_4_method_11_code, 5, some .int, 2, 46, 2, none)
def g_Perm_property : xSig := (⟨"TurningVerse$Permutation", "property", "(III)I"⟩, prog_4_method_12_code, 3, some .int, 3, 70, 3, none)
def g_Perm_cycleOf : xSig := (⟨"TurningVerse$Permutation", "cycleOf", "(III)I"⟩, prog_4_method_13_code, 5, some .int, 1, 21, 3, none)
def g_Perm_cycles : xSig := (⟨"TurningVerse$Permutation", "cycles", "(II)I"⟩, prog_4_method_14_code, 4, some .int, 2, 45, 2, none)
def g_Perm_fixedLines : xSig := (⟨"TurningVerse$Permutation", "fixedLines", "(II)I"⟩, prog_4_method_15_code, 4, some .int, 1, 21, 2, none)
def g_Perm_longestCycle : xSig := (⟨"TurningVerse$Permutation", "longestCycle", "(II)I"⟩, prog_4_method_16_code, 4, some .int, 2, 45, 2, none)
def g_Perm_cycleType : xSig := (⟨"TurningVerse$Permutation", "cycleType", "(II)I"⟩, prog_4_method_17_code, 5, some .int, 2, 45, 2, none)
def g_Poem_init : xSig := (⟨"TurningVerse$Poem", "<init>", "()V"⟩, prog_5_method_1_code, 1, none, 1, 20, 0, none)
def g_Poem_empty : xSig := (⟨"TurningVerse$Poem", "empty", "()V"⟩, prog_5_method_2_code, 1, none, 0, 0, 0, some 2)
def g_Poem_copyFrom : xSig := (⟨"TurningVerse$Poem", "copyFrom", "(LTurningVerse$Poem;)V"⟩, prog_5_method_3_code, 2, none, 1, 26, 1, some 2)
def g_Poem_append : xSig := (⟨"TurningVerse$Poem", "append", "(I)V"⟩, prog_5_method_4_code, 2, none, 0, 0, 1, some 2)
def g_Poem_appendTailLine : xSig := (⟨"TurningVerse$Poem", "appendTailLine", "(II)V"⟩, prog_5_method_5_code, 3, none, 0, 0, 2, some 2)
def g_Poem_properStanzas : xSig := (⟨"TurningVerse$Poem", "properStanzas", "(I)I"⟩, prog_5_method_6_code, 4, some .int, 3, 65, 1, some 2)
def g_Poem_lockedPlaces : xSig := (⟨"TurningVerse$Poem", "lockedPlaces", "()I"⟩, prog_5_method_7_code, 3, some .int, 1, 20, 0, some 2)
def g_Poem_turnBehind : xSig := (⟨"TurningVerse$Poem", "turnBehind", "(II)I"⟩, prog_5_method_8_code, 3, some .int, 3, 65, 2, some 2)
def g_Poem_turnsBy : xSig := (⟨"TurningVerse$Poem", "turnsBy", "(II)Z"⟩, prog_5_method_9_code, 4, some .boolean, 4, 88, 2, some 2)
def g_Poem_rewrite : xSig := (⟨"TurningVerse$Poem", "rewrite", "(III)V"⟩, prog_5_method_10_code, 6, none, 2, 46, 3, some 2)
def g_Poem_lengthOfTail : xSig := (⟨"TurningVerse$Poem", "lengthOfTail", "()I"⟩, prog_5_method_11_code, 3, some .int, 0, 0, 0, some 2)
def g_Poem_wordsOfTail : xSig := (⟨"TurningVerse$Poem", "wordsOfTail", "()I"⟩, prog_5_method_12_code, 3, some .int, 2, 44, 0, some 2)
def g_PR_init : xSig := (⟨"TurningVerse$PoemReader", "<init>", "()V"⟩, prog_6_method_1_code, 1, none, 2, 40, 0, none)
def g_PR_readText : xSig := (⟨"TurningVerse$PoemReader", "readText", "(LTurningVerse$Text;)I"⟩, prog_6_method_2_code, 4, some .int, 4, 90, 1, some 3)
def g_PR_readFirstStanza : xSig := (⟨"TurningVerse$PoemReader", "readFirstStanza", "(LTurningVerse$Text;)I"⟩, prog_6_method_3_code, 5, some .int, 2, 44, 1, some 3)
def g_PR_readStanza : xSig := (⟨"TurningVerse$PoemReader", "readStanza", "(LTurningVerse$Text;)I"⟩, prog_6_method_4_code, 5, some .int, 2, 44, 1, some 3)
def g_PR_readTail : xSig := (⟨"TurningVerse$PoemReader", "readTail", "(LTurningVerse$Text;)I"⟩, prog_6_method_5_code, 4, some .int, 3, 67, 1, some 3)
def g_PR_readTailLine : xSig := (⟨"TurningVerse$PoemReader", "readTailLine", "(LTurningVerse$Text;)I"⟩, prog_6_method_6_code, 4, some .int, 2, 44, 1, some 3)
def g_PR_wordBelow : xSig := (⟨"TurningVerse$PoemReader", "wordBelow", "(LTurningVerse$Text;I)I"⟩, prog_6_method_7_code, 4, some .int, 1, 21, 2, some 3)
def g_PR_isStanzaOver : xSig := (⟨"TurningVerse$PoemReader", "isStanzaOver", "(LTurningVerse$Text;)Z"⟩, prog_6_method_8_code, 3, some .boolean, 1, 21, 1, some 3)
def g_Rhy_pattern : xSig := (⟨"TurningVerse$Rhymes", "pattern", "(II)I"⟩, prog_7_method_2_code, 4, some .int, 2, 43, 2, none)
def g_Rhy_firstRhyme : xSig := (⟨"TurningVerse$Rhymes", "firstRhyme", "(II)I"⟩, prog_7_method_3_code, 3, some .int, 1, 21, 2, none)
def g_Rhy_differentPatterns : xSig := (⟨"TurningVerse$Rhymes", "differentPatterns", "(III[I)I"⟩, prog_7_method_4_code, 9, some .int, 3, 70, 4, none)
def g_Rhy_isAmong : xSig := (⟨"TurningVerse$Rhymes", "isAmong", "(I[II)Z"⟩, prog_7_method_5_code, 4, some .boolean, 0, 0, 3, none)
def g_Rhy_mostNeighborly : xSig := (⟨"TurningVerse$Rhymes", "mostNeighborly", "(II)I"⟩, prog_7_method_6_code, 7, some .int, 2, 50, 2, none)
def g_Rhy_neighbors : xSig := (⟨"TurningVerse$Rhymes", "neighbors", "(II)I"⟩, prog_7_method_7_code, 4, some .int, 1, 21, 2, none)
def g_Row_entry : xSig := (⟨"TurningVerse$Row", "entry", "(II)I"⟩, prog_8_method_2_code, 2, some .int, 0, 0, 2, none)
def g_Row_with : xSig := (⟨"TurningVerse$Row", "with", "(III)I"⟩, prog_8_method_3_code, 3, some .int, 0, 0, 3, none)
def g_Row_ascending : xSig := (⟨"TurningVerse$Row", "ascending", "(I)I"⟩, prog_8_method_4_code, 3, some .int, 1, 22, 1, none)
def g_Row_turned : xSig := (⟨"TurningVerse$Row", "turned", "(III)I"⟩, prog_8_method_5_code, 5, some .int, 1, 22, 3, none)
def g_Row_entries : xSig := (⟨"TurningVerse$Row", "entries", "(II)I"⟩, prog_8_method_6_code, 4, some .int, 1, 21, 2, none)
def g_Row_hasEach : xSig := (⟨"TurningVerse$Row", "hasEach", "(II)Z"⟩, prog_8_method_7_code, 2, some .boolean, 2, 44, 2, none)
def g_Sea_init : xSig := (⟨"TurningVerse$Search", "<init>", "()V"⟩, prog_9_method_1_code, 1, none, 1, 20, 0, none)
def g_Sea_spread : xSig := (⟨"TurningVerse$Search", "spread", "(LTurningVerse$State;I)V"⟩, prog_9_method_2_code, 6, none, 3, 69, 2, some 4)
def g_Sea_depthOf : xSig := (⟨"TurningVerse$Search", "depthOf", "(I)I"⟩, prog_9_method_3_code, 3, some .int, 2, 46, 1, some 4)
def g_Sea_factorAt : xSig := (⟨"TurningVerse$Search", "factorAt", "(II)I"⟩, prog_9_method_4_code, 5, some .int, 4, 91, 2, some 4)
def g_Sea_note : xSig := (⟨"TurningVerse$Search", "note", "(II)V"⟩, prog_9_method_5_code, 4, none, 2, 46, 2, some 4)
def g_Sea_isFactor : xSig := (⟨"TurningVerse$Search", "isFactor", "(I)Z"⟩, prog_9_method_6_code, 2, some .boolean, 0, 0, 1, some 4)
def g_Sea_firstFactor : xSig := (⟨"TurningVerse$Search", "firstFactor", "(I)I"⟩, prog_9_method_7_code, 4, some .int, 3, 68, 1, some 4)
def g_Sea_without : xSig := (⟨"TurningVerse$Search", "without", "(II)I"⟩, prog_9_method_8_code, 3, some .int, 2, 46, 2, some 4)
def g_Sta_init : xSig := (⟨"TurningVerse$State", "<init>", "()V"⟩, prog_10_method_1_code, 1, none, 3, 66, 0, none)
def g_Sta_startWith : xSig := (⟨"TurningVerse$State", "startWith", "(I)V"⟩, prog_10_method_2_code, 3, none, 2, 44, 1, some 5)
def g_Sta_copyFrom : xSig := (⟨"TurningVerse$State", "copyFrom", "(LTurningVerse$State;)V"⟩, prog_10_method_3_code, 2, none, 2, 47, 1, some 5)
def g_Txt_init : xSig := (⟨"TurningVerse$Text", "<init>", "()V"⟩, prog_11_method_1_code, 1, none, 1, 20, 0, none)
def g_Txt_append : xSig := (⟨"TurningVerse$Text", "append", "(I)V"⟩, prog_11_method_2_code, 2, none, 0, 0, 1, some 6)
def g_Txt_byteAt : xSig := (⟨"TurningVerse$Text", "byteAt", "(I)I"⟩, prog_11_method_3_code, 2, some .int, 0, 0, 1, some 6)
def g_TR_init : xSig := (⟨"TurningVerse$TurnReader", "<init>", "()V"⟩, prog_12_method_1_code, 1, none, 1, 20, 0, none)
def g_TR_readText : xSig := (⟨"TurningVerse$TurnReader", "readText", "(LTurningVerse$Text;I)I"⟩, prog_12_method_2_code, 10, some .int, 2, 44, 2, some 7)
def g_TV_init : xSig := (⟨"TurningVerse", "<init>", "()V"⟩, prog_1_method_1_code, 1, none, 5, 107, 0, none)
def g_TV_setWords : xSig := (⟨"TurningVerse", "setWords", "(I)I"⟩, prog_1_method_2_code, 3, some .int, 4, 89, 1, some 8)
def g_TV_setSound : xSig := (⟨"TurningVerse", "setSound", "(II)I"⟩, prog_1_method_3_code, 4, some .int, 4, 89, 2, some 8)
def g_TV_type : xSig := (⟨"TurningVerse", "type", "(I)I"⟩, prog_1_method_4_code, 2, some .int, 1, 21, 1, some 8)
def g_TV_clear : xSig := (⟨"TurningVerse", "clear", "()I"⟩, prog_1_method_5_code, 2, some .int, 0, 0, 0, some 8)
def g_TV_loadPoem : xSig := (⟨"TurningVerse", "loadPoem", "()I"⟩, prog_1_method_6_code, 2, some .int, 5, 113, 0, some 8)
def g_TV_loadTurn : xSig := (⟨"TurningVerse", "loadTurn", "(I)I"⟩, prog_1_method_7_code, 3, some .int, 5, 111, 1, some 8)
def g_TV_make : xSig := (⟨"TurningVerse", "make", "(III)I"⟩, prog_1_method_8_code, 4, some .int, 5, 111, 3, some 8)
def g_TV_product : xSig := (⟨"TurningVerse", "product", "(III)I"⟩, prog_1_method_9_code, 4, some .int, 5, 111, 3, some 8)
def g_TV_power : xSig := (⟨"TurningVerse", "power", "(III)I"⟩, prog_1_method_10_code, 6, some .int, 5, 111, 3, some 8)
def g_TV_unrank : xSig := (⟨"TurningVerse", "unrank", "(II)I"⟩, prog_1_method_11_code, 4, some .int, 5, 111, 2, some 8)
def g_TV_root : xSig := (⟨"TurningVerse", "root", "(III)I"⟩, prog_1_method_12_code, 5, some .int, 5, 111, 3, some 8)
def g_TV_at : xSig := (⟨"TurningVerse", "at", "(II)I"⟩, prog_1_method_13_code, 3, some .int, 1, 21, 2, some 8)
def g_TV_turn : xSig := (⟨"TurningVerse", "turn", "(II)I"⟩, prog_1_method_14_code, 3, some .int, 4, 92, 2, some 8)
def g_TV_places : xSig := (⟨"TurningVerse", "places", "(III)I"⟩, prog_1_method_15_code, 8, some .int, 2, 45, 3, some 8)
def g_TV_generated : xSig := (⟨"TurningVerse", "generated", "(I)I"⟩, prog_1_method_16_code, 2, some .int, 4, 94, 1, some 8)
def g_TV_reach : xSig := (⟨"TurningVerse", "reach", "(II)I"⟩, prog_1_method_17_code, 4, some .int, 4, 94, 2, some 8)
def g_TV_factor : xSig := (⟨"TurningVerse", "factor", "(III)I"⟩, prog_1_method_18_code, 5, some .int, 5, 115, 3, some 8)
def g_TV_add : xSig := (⟨"TurningVerse", "add", "(I)I"⟩, prog_1_method_19_code, 3, some .int, 4, 89, 1, some 8)
def g_TV_drop : xSig := (⟨"TurningVerse", "drop", "()I"⟩, prog_1_method_20_code, 1, some .int, 4, 89, 0, some 8)
def g_TV_put : xSig := (⟨"TurningVerse", "put", "(III)I"⟩, prog_1_method_21_code, 5, some .int, 4, 89, 3, some 8)
def g_TV_lock : xSig := (⟨"TurningVerse", "lock", "(IIZ)I"⟩, prog_1_method_22_code, 6, some .int, 4, 89, 3, some 8)
def g_TV_word : xSig := (⟨"TurningVerse", "word", "(II)I"⟩, prog_1_method_23_code, 3, some .int, 1, 21, 2, some 8)
def g_TV_proper : xSig := (⟨"TurningVerse", "proper", "(I)I"⟩, prog_1_method_24_code, 2, some .int, 3, 65, 1, some 8)
def g_TV_turning : xSig := (⟨"TurningVerse", "turning", "(I)I"⟩, prog_1_method_25_code, 3, some .int, 4, 87, 1, some 8)
def g_TV_common : xSig := (⟨"TurningVerse", "common", "(I)I"⟩, prog_1_method_26_code, 3, some .int, 5, 111, 1, some 8)
def g_TV_follows : xSig := (⟨"TurningVerse", "follows", "(I)I"⟩, prog_1_method_27_code, 2, some .int, 5, 111, 1, some 8)
def g_TV_cost : xSig := (⟨"TurningVerse", "cost", "(I)I"⟩, prog_1_method_28_code, 2, some .int, 4, 98, 1, some 8)
def g_TV_mend : xSig := (⟨"TurningVerse", "mend", "(I)I"⟩, prog_1_method_29_code, 4, some .int, 4, 98, 1, some 8)
def g_TV_best : xSig := (⟨"TurningVerse", "best", "(I)I"⟩, prog_1_method_30_code, 3, some .int, 4, 102, 1, some 8)
def g_TV_tail : xSig := (⟨"TurningVerse", "tail", "(I)I"⟩, prog_1_method_31_code, 4, some .int, 3, 66, 1, some 8)
def g_TV_tailWord : xSig := (⟨"TurningVerse", "tailWord", "(II)I"⟩, prog_1_method_32_code, 3, some .int, 1, 21, 2, some 8)
def g_TV_scheme : xSig := (⟨"TurningVerse", "scheme", "(I)I"⟩, prog_1_method_33_code, 2, some .int, 3, 67, 1, some 8)
def g_TV_schemes : xSig := (⟨"TurningVerse", "schemes", "(II)I"⟩, prog_1_method_34_code, 4, some .int, 4, 98, 2, some 8)
def g_TV_coupled : xSig := (⟨"TurningVerse", "coupled", "(I)I"⟩, prog_1_method_35_code, 2, some .int, 3, 76, 1, some 8)
def g_TV_told : xSig := (⟨"TurningVerse", "told", "(I)I"⟩, prog_1_method_36_code, 2, some .int, 4, 88, 1, some 8)
def g_TV_undo : xSig := (⟨"TurningVerse", "undo", "()I"⟩, prog_1_method_37_code, 1, some .int, 4, 89, 0, some 8)
def g_TV_digest : xSig := (⟨"TurningVerse", "digest", "()J"⟩, prog_1_method_38_code, 5, some .long, 6, 135, 0, some 8)
def g_TV_withStanza : xSig := (⟨"TurningVerse", "withStanza", "(JI)J"⟩, prog_1_method_39_code, 7, some .long, 5, 109, 2, some 8)
def g_TV_withTail : xSig := (⟨"TurningVerse", "withTail", "(J)J"⟩, prog_1_method_40_code, 7, some .long, 4, 89, 1, some 8)
def g_TV_mixed : xSig := (⟨"TurningVerse", "mixed", "(JJ)J"⟩, prog_1_method_41_code, 4, some .long, 0, 0, 2, none)
def g_TV_isRegister : xSig := (⟨"TurningVerse", "isRegister", "(I)Z"⟩, prog_1_method_42_code, 1, some .boolean, 0, 0, 1, none)
def g_TV_isSetOfRegisters : xSig := (⟨"TurningVerse", "isSetOfRegisters", "(I)Z"⟩, prog_1_method_43_code, 1, some .boolean, 0, 0, 1, none)
def g_TV_isLine : xSig := (⟨"TurningVerse", "isLine", "(I)Z"⟩, prog_1_method_44_code, 2, some .boolean, 0, 0, 1, some 8)
def g_TV_isStanza : xSig := (⟨"TurningVerse", "isStanza", "(I)Z"⟩, prog_1_method_45_code, 2, some .boolean, 0, 0, 1, some 8)
def g_TV_soundsOf : xSig := (⟨"TurningVerse", "soundsOf", "(I)I"⟩, prog_1_method_46_code, 2, some .int, 2, 46, 1, some 8)
def g_TV_store : xSig := (⟨"TurningVerse", "store", "(II)I"⟩, prog_1_method_47_code, 3, some .int, 4, 89, 2, some 8)
def g_Mo_init : xSig := (⟨"TurningVerseModel", "<init>", "()V"⟩, prog_14_method_1_code, 1, none, 1, 22, 0, none)
def g_Mo_in : xSig := (⟨"TurningVerseModel", "in", "(III)Z"⟩, prog_14_method_3_code, 3, some .boolean, 0, 0, 3, none)
def g_Mo_size : xSig := (⟨"TurningVerseModel", "size", "()I"⟩, prog_14_method_4_code, 1, some .int, 0, 0, 0, some 9)
def g_Mo_resets : xSig := (⟨"TurningVerseModel", "resets", "(I)V"⟩, prog_14_method_5_code, 3, none, 0, 0, 1, some 9)
def g_Mo_records : xSig := (⟨"TurningVerseModel", "records", "()V"⟩, prog_14_method_6_code, 2, none, 0, 0, 0, some 9)
def g_Mo_empties : xSig := (⟨"TurningVerseModel", "empties", "()V"⟩, prog_14_method_7_code, 2, none, 0, 0, 0, some 9)
def g_Mo_setWords : xSig := (⟨"TurningVerseModel", "setWords", "(I)I"⟩, prog_14_method_8_code, 3, some .int, 1, 22, 1, some 9)
def g_Mo_isLine : xSig := (⟨"TurningVerseModel", "isLine", "(I)Z"⟩, prog_14_method_9_code, 2, some .boolean, 1, 22, 1, some 9)
def g_Mo_setSound : xSig := (⟨"TurningVerseModel", "setSound", "(II)I"⟩, prog_14_method_10_code, 4, some .int, 2, 43, 2, some 9)
def g_Mo_isRegister : xSig := (⟨"TurningVerseModel", "isRegister", "(I)Z"⟩, prog_14_method_11_code, 1, some .boolean, 1, 22, 1, none)
def g_Mo_takes : xSig := (⟨"TurningVerseModel", "takes", "(I[I)V"⟩, prog_14_method_12_code, 4, none, 1, 20, 2, some 9)
def g_Mo_puts : xSig := (⟨"TurningVerseModel", "puts", "([II)V"⟩, prog_14_method_13_code, 4, none, 1, 20, 2, some 9)
def g_Mo_factorial : xSig := (⟨"TurningVerseModel", "factorial", "()I"⟩, prog_14_method_14_code, 3, some .int, 1, 20, 0, some 9)
def g_Mo_rank : xSig := (⟨"TurningVerseModel", "rank", "([I)I"⟩, prog_14_method_15_code, 6, some .int, 1, 20, 1, some 9)
def g_Mo_unranks : xSig := (⟨"TurningVerseModel", "unranks", "(I[I)V"⟩, prog_14_method_16_code, 6, none, 1, 20, 2, some 9)
def g_Mo_multiplies : xSig := (⟨"TurningVerseModel", "multiplies", "([I[I[I)V"⟩, prog_14_method_17_code, 5, none, 1, 20, 3, some 9)
def g_Mo_identity : xSig := (⟨"TurningVerseModel", "identity", "([I)V"⟩, prog_14_method_18_code, 3, none, 0, 0, 1, some 9)
def g_Mo_cycleOf : xSig := (⟨"TurningVerseModel", "cycleOf", "([II)I"⟩, prog_14_method_19_code, 5, some .int, 0, 0, 2, some 9)
def g_Mo_isFirst : xSig := (⟨"TurningVerseModel", "isFirst", "([II)Z"⟩, prog_14_method_20_code, 5, some .boolean, 0, 0, 2, some 9)
def g_Mo_orderOf : xSig := (⟨"TurningVerseModel", "orderOf", "([I)I"⟩, prog_14_method_21_code, 5, some .int, 1, 24, 1, some 9)
def g_Mo_raises : xSig := (⟨"TurningVerseModel", "raises", "([II[I)V"⟩, prog_14_method_22_code, 7, none, 1, 20, 3, some 9)
def g_Mo_isSame : xSig := (⟨"TurningVerseModel", "isSame", "([I[I)Z"⟩, prog_14_method_23_code, 5, some .boolean, 1, 20, 2, some 9)
def g_Mo_make : xSig := (⟨"TurningVerseModel", "make", "(III)I"⟩, prog_14_method_24_code, 6, some .int, 2, 45, 3, some 9)
def g_Mo_product : xSig := (⟨"TurningVerseModel", "product", "(III)I"⟩, prog_14_method_25_code, 4, some .int, 2, 45, 3, some 9)
def g_Mo_power : xSig := (⟨"TurningVerseModel", "power", "(III)I"⟩, prog_14_method_26_code, 5, some .int, 2, 48, 3, some 9)
def g_Mo_unrank : xSig := (⟨"TurningVerseModel", "unrank", "(II)I"⟩, prog_14_method_27_code, 3, some .int, 2, 48, 2, some 9)
def g_Mo_root : xSig := (⟨"TurningVerseModel", "root", "(III)I"⟩, prog_14_method_28_code, 5, some .int, 2, 46, 3, some 9)
def g_Mo_at : xSig := (⟨"TurningVerseModel", "at", "(II)I"⟩, prog_14_method_29_code, 3, some .int, 2, 43, 2, some 9)
def g_Mo_turnOf : xSig := (⟨"TurningVerseModel", "turnOf", "(II)I"⟩, prog_14_method_30_code, 11, some .int, 2, 48, 2, some 9)
def g_Mo_turn : xSig := (⟨"TurningVerseModel", "turn", "(II)I"⟩, prog_14_method_31_code, 3, some .int, 3, 78, 2, some 9)
def g_Mo_places : xSig := (⟨"TurningVerseModel", "places", "(III)I"⟩, prog_14_method_32_code, 8, some .int, 2, 43, 3, some 9)
def g_Mo_walks : xSig := (⟨"TurningVerseModel", "walks", "(I)V"⟩, prog_14_method_33_code, 5, none, 2, 45, 1, some 9)
def g_Mo_isSet : xSig := (⟨"TurningVerseModel", "isSet", "(I)Z"⟩, prog_14_method_34_code, 1, some .boolean, 1, 22, 1, none)
def g_Mo_generated : xSig := (⟨"TurningVerseModel", "generated", "(I)I"⟩, prog_14_method_35_code, 2, some .int, 3, 69, 1, some 9)
def g_Mo_reach : xSig := (⟨"TurningVerseModel", "reach", "(II)I"⟩, prog_14_method_36_code, 3, some .int, 3, 69, 2, some 9)
def g_Mo_rests : xSig := (⟨"TurningVerseModel", "rests", "(I)V"⟩, prog_14_method_37_code, 4, none, 2, 43, 1, some 9)
def g_Mo_factor : xSig := (⟨"TurningVerseModel", "factor", "(III)I"⟩, prog_14_method_38_code, 8, some .int, 3, 69, 3, some 9)
def g_Mo_type : xSig := (⟨"TurningVerseModel", "type", "(I)I"⟩, prog_14_method_39_code, 2, some .int, 1, 22, 1, some 9)
def g_Mo_clear : xSig := (⟨"TurningVerseModel", "clear", "()I"⟩, prog_14_method_40_code, 2, some .int, 0, 0, 0, some 9)
def g_Mo_byteAt : xSig := (⟨"TurningVerseModel", "byteAt", "(I)I"⟩, prog_14_method_41_code, 2, some .int, 0, 0, 1, some 9)
def g_Mo_isLetter : xSig := (⟨"TurningVerseModel", "isLetter", "(II)Z"⟩, prog_14_method_42_code, 3, some .boolean, 1, 22, 2, some 9)
def g_Mo_readsFirst : xSig := (⟨"TurningVerseModel", "readsFirst", "()Z"⟩, prog_14_method_43_code, 3, some .boolean, 2, 44, 0, some 9)
def g_Mo_readsStanza : xSig := (⟨"TurningVerseModel", "readsStanza", "()Z"⟩, prog_14_method_44_code, 2, some .boolean, 2, 44, 0, some 9)
def g_Mo_readsTail : xSig := (⟨"TurningVerseModel", "readsTail", "()Z"⟩, prog_14_method_45_code, 3, some .boolean, 2, 44, 0, some 9)
def g_Mo_reads : xSig := (⟨"TurningVerseModel", "reads", "()Z"⟩, prog_14_method_46_code, 2, some .boolean, 3, 66, 0, some 9)
def g_Mo_loadPoem : xSig := (⟨"TurningVerseModel", "loadPoem", "()I"⟩, prog_14_method_47_code, 2, some .int, 4, 87, 0, some 9)
def g_Mo_readsTurn : xSig := (⟨"TurningVerseModel", "readsTurn", "()Z"⟩, prog_14_method_48_code, 5, some .boolean, 1, 22, 0, some 9)
def g_Mo_loadTurn : xSig := (⟨"TurningVerseModel", "loadTurn", "(I)I"⟩, prog_14_method_49_code, 2, some .int, 2, 46, 1, some 9)
def g_Mo_isStanza : xSig := (⟨"TurningVerseModel", "isStanza", "(I)Z"⟩, prog_14_method_50_code, 2, some .boolean, 1, 22, 1, some 9)
def g_Mo_placeOf : xSig := (⟨"TurningVerseModel", "placeOf", "(II)I"⟩, prog_14_method_51_code, 3, some .int, 0, 0, 2, some 9)
def g_Mo_add : xSig := (⟨"TurningVerseModel", "add", "(I)I"⟩, prog_14_method_52_code, 4, some .int, 2, 43, 1, some 9)
def g_Mo_drop : xSig := (⟨"TurningVerseModel", "drop", "()I"⟩, prog_14_method_53_code, 1, some .int, 1, 21, 0, some 9)
def g_Mo_put : xSig := (⟨"TurningVerseModel", "put", "(III)I"⟩, prog_14_method_54_code, 5, some .int, 2, 43, 3, some 9)
def g_Mo_lock : xSig := (⟨"TurningVerseModel", "lock", "(IIZ)I"⟩, prog_14_method_55_code, 5, some .int, 2, 43, 3, some 9)
def g_Mo_word : xSig := (⟨"TurningVerseModel", "word", "(II)I"⟩, prog_14_method_56_code, 3, some .int, 2, 43, 2, some 9)
def g_Mo_isProper : xSig := (⟨"TurningVerseModel", "isProper", "(I)Z"⟩, prog_14_method_57_code, 4, some .boolean, 1, 22, 1, some 9)
def g_Mo_proper : xSig := (⟨"TurningVerseModel", "proper", "(I)I"⟩, prog_14_method_58_code, 2, some .int, 2, 45, 1, some 9)
def g_Mo_turns : xSig := (⟨"TurningVerseModel", "turns", "(I)V"⟩, prog_14_method_59_code, 4, none, 1, 22, 1, some 9)
def g_Mo_turningOf : xSig := (⟨"TurningVerseModel", "turningOf", "(I)I"⟩, prog_14_method_60_code, 2, some .int, 2, 45, 1, some 9)
def g_Mo_turning : xSig := (⟨"TurningVerseModel", "turning", "(I)I"⟩, prog_14_method_61_code, 2, some .int, 3, 66, 1, some 9)
def g_Mo_followed : xSig := (⟨"TurningVerseModel", "followed", "()I"⟩, prog_14_method_62_code, 3, some .int, 3, 66, 0, some 9)
def g_Mo_common : xSig := (⟨"TurningVerseModel", "common", "(I)I"⟩, prog_14_method_63_code, 3, some .int, 4, 88, 1, some 9)
def g_Mo_isFollowed : xSig := (⟨"TurningVerseModel", "isFollowed", "(I)Z"⟩, prog_14_method_64_code, 2, some .boolean, 4, 88, 1, some 9)
def g_Mo_follows : xSig := (⟨"TurningVerseModel", "follows", "(I)I"⟩, prog_14_method_65_code, 2, some .int, 5, 109, 1, some 9)
def g_Mo_costOf : xSig := (⟨"TurningVerseModel", "costOf", "([I)I"⟩, prog_14_method_66_code, 8, some .int, 1, 22, 1, some 9)
def g_Mo_wrong : xSig := (⟨"TurningVerseModel", "wrong", "(I)I"⟩, prog_14_method_67_code, 2, some .int, 2, 42, 1, some 9)
def g_Mo_cost : xSig := (⟨"TurningVerseModel", "cost", "(I)I"⟩, prog_14_method_68_code, 3, some .int, 3, 63, 1, some 9)
def g_Mo_mend : xSig := (⟨"TurningVerseModel", "mend", "(I)I"⟩, prog_14_method_69_code, 7, some .int, 3, 63, 1, some 9)
def g_Mo_best : xSig := (⟨"TurningVerseModel", "best", "(I)I"⟩, prog_14_method_70_code, 7, some .int, 3, 63, 1, some 9)
def g_Mo_tailWords : xSig := (⟨"TurningVerseModel", "tailWords", "()I"⟩, prog_14_method_71_code, 3, some .int, 0, 0, 0, some 9)
def g_Mo_missing : xSig := (⟨"TurningVerseModel", "missing", "()I"⟩, prog_14_method_72_code, 4, some .int, 1, 20, 0, some 9)
def g_Mo_tail : xSig := (⟨"TurningVerseModel", "tail", "(I)I"⟩, prog_14_method_73_code, 4, some .int, 2, 43, 1, some 9)
def g_Mo_tailWord : xSig := (⟨"TurningVerseModel", "tailWord", "(II)I"⟩, prog_14_method_74_code, 3, some .int, 1, 22, 2, some 9)
def g_Mo_takesVerse : xSig := (⟨"TurningVerseModel", "takesVerse", "(I)V"⟩, prog_14_method_75_code, 3, none, 1, 22, 1, some 9)
def g_Mo_soundAt : xSig := (⟨"TurningVerseModel", "soundAt", "(I)I"⟩, prog_14_method_76_code, 2, some .int, 0, 0, 1, some 9)
def g_Mo_schemeOfVerse : xSig := (⟨"TurningVerseModel", "schemeOfVerse", "()I"⟩, prog_14_method_77_code, 4, some .int, 1, 21, 0, some 9)
def g_Mo_scheme : xSig := (⟨"TurningVerseModel", "scheme", "(I)I"⟩, prog_14_method_78_code, 2, some .int, 2, 44, 1, some 9)
def g_Mo_schemes : xSig := (⟨"TurningVerseModel", "schemes", "(II)I"⟩, prog_14_method_79_code, 9, some .int, 2, 48, 2, some 9)
def g_Mo_coupled : xSig := (⟨"TurningVerseModel", "coupled", "(I)I"⟩, prog_14_method_80_code, 7, some .int, 2, 45, 1, some 9)
def g_Mo_locked : xSig := (⟨"TurningVerseModel", "locked", "()I"⟩, prog_14_method_81_code, 4, some .int, 1, 22, 0, some 9)
def g_Mo_properMany : xSig := (⟨"TurningVerseModel", "properMany", "()I"⟩, prog_14_method_82_code, 3, some .int, 2, 45, 0, some 9)
def g_Mo_told : xSig := (⟨"TurningVerseModel", "told", "(I)I"⟩, prog_14_method_83_code, 2, some .int, 3, 67, 1, some 9)
def g_Mo_undo : xSig := (⟨"TurningVerseModel", "undo", "()I"⟩, prog_14_method_84_code, 2, some .int, 0, 0, 0, some 9)
def g_Mo_mixedStanza : xSig := (⟨"TurningVerseModel", "mixedStanza", "(JI)J"⟩, prog_14_method_85_code, 7, some .long, 3, 66, 2, some 9)
def g_Mo_mixedTail : xSig := (⟨"TurningVerseModel", "mixedTail", "(J)J"⟩, prog_14_method_86_code, 7, some .long, 3, 66, 1, some 9)
def g_Mo_digest : xSig := (⟨"TurningVerseModel", "digest", "()J"⟩, prog_14_method_87_code, 5, some .long, 5, 109, 0, some 9)
def g_JI_bitCount : xSig := (⟨"java/lang/Integer", "bitCount", "(I)I"⟩, prog_15_method_49_code, 1, some .int, 0, 0, 1, none)
def g_JA_fill : xSig := (⟨"java/util/Arrays", "fill", "([II)V"⟩, prog_18_method_103_code, 4, none, 0, 0, 2, none)
set_option maxRecDepth 100000 in
theorem xmc_Fit_init : xmc g_Fit_init := ⟨lw_gm 79 rfl rfl, lw_gm 269 rfl rfl, by decide +kernel, by decide +kernel, by decide +kernel⟩
set_option maxRecDepth 100000 in
theorem xmi_Fit_init : xmi g_Fit_init := ⟨xmc_Fit_init, lw_gm 268 rfl rfl, rfl, rfl⟩
set_option maxRecDepth 100000 in
theorem xmc_Fit_changes : xmc g_Fit_changes := ⟨lw_gm 79 rfl rfl, lw_gm 650 rfl rfl, by decide +kernel, by decide +kernel, by decide +kernel⟩
set_option maxRecDepth 100000 in
theorem xmv_Fit_changes : xmv g_Fit_changes := ⟨xmc_Fit_changes, lw_gm 648 rfl rfl, lw_gm 649 rfl rfl, _, _, rfl, rfl, rfl⟩
set_option maxRecDepth 100000 in
theorem xmc_Fit_firstRow : xmc g_Fit_firstRow := ⟨lw_gm 79 rfl rfl, lw_gm 676 rfl rfl, by decide +kernel, by decide +kernel, by decide +kernel⟩
set_option maxRecDepth 100000 in
theorem xmv_Fit_firstRow : xmv g_Fit_firstRow := ⟨xmc_Fit_firstRow, lw_gm 674 rfl rfl, lw_gm 675 rfl rfl, _, _, rfl, rfl, rfl⟩
set_option maxRecDepth 100000 in
theorem xmc_Fit_bestPermutation : xmc g_Fit_bestPermutation := ⟨lw_gm 79 rfl rfl, lw_gm 693 rfl rfl, by decide +kernel, by decide +kernel, by decide +kernel⟩
set_option maxRecDepth 100000 in
theorem xmv_Fit_bestPermutation : xmv g_Fit_bestPermutation := ⟨xmc_Fit_bestPermutation, lw_gm 691 rfl rfl, lw_gm 692 rfl rfl, _, _, rfl, rfl, rfl⟩
set_option maxRecDepth 100000 in
theorem xmc_Fit_compare : xmc g_Fit_compare := ⟨lw_gm 79 rfl rfl, lw_gm 654 rfl rfl, by decide +kernel, by decide +kernel, by decide +kernel⟩
set_option maxRecDepth 100000 in
theorem xmv_Fit_compare : xmv g_Fit_compare := ⟨xmc_Fit_compare, lw_gm 653 rfl rfl, lw_gm 13 rfl rfl, _, _, rfl, rfl, rfl⟩
set_option maxRecDepth 100000 in
theorem xmc_Fit_mostKept : xmc g_Fit_mostKept := ⟨lw_gm 79 rfl rfl, lw_gm 662 rfl rfl, by decide +kernel, by decide +kernel, by decide +kernel⟩
set_option maxRecDepth 100000 in
theorem xmv_Fit_mostKept : xmv g_Fit_mostKept := ⟨xmc_Fit_mostKept, lw_gm 661 rfl rfl, lw_gm 14 rfl rfl, _, _, rfl, rfl, rfl⟩
set_option maxRecDepth 100000 in
theorem xmc_Fit_keptWith : xmc g_Fit_keptWith := ⟨lw_gm 79 rfl rfl, lw_gm 667 rfl rfl, by decide +kernel, by decide +kernel, by decide +kernel⟩
set_option maxRecDepth 100000 in
theorem xmv_Fit_keptWith : xmv g_Fit_keptWith := ⟨xmc_Fit_keptWith, lw_gm 666 rfl rfl, lw_gm 15 rfl rfl, _, _, rfl, rfl, rfl⟩
set_option maxRecDepth 100000 in
theorem xmc_Fit_firstWord : xmc g_Fit_firstWord := ⟨lw_gm 79 rfl rfl, lw_gm 680 rfl rfl, by decide +kernel, by decide +kernel, by decide +kernel⟩
set_option maxRecDepth 100000 in
theorem xmv_Fit_firstWord : xmv g_Fit_firstWord := ⟨xmc_Fit_firstWord, lw_gm 679 rfl rfl, lw_gm 16 rfl rfl, _, _, rfl, rfl, rfl⟩
set_option maxRecDepth 100000 in
theorem xmc_Fit_atMostKept : xmc g_Fit_atMostKept := ⟨lw_gm 79 rfl rfl, lw_gm 699 rfl rfl, by decide +kernel, by decide +kernel, by decide +kernel⟩
set_option maxRecDepth 100000 in
theorem xmv_Fit_atMostKept : xmv g_Fit_atMostKept := ⟨xmc_Fit_atMostKept, lw_gm 698 rfl rfl, lw_gm 17 rfl rfl, _, _, rfl, rfl, rfl⟩
set_option maxRecDepth 100000 in
theorem xmc_Fit_mostOfLine : xmc g_Fit_mostOfLine := ⟨lw_gm 79 rfl rfl, lw_gm 703 rfl rfl, by decide +kernel, by decide +kernel, by decide +kernel⟩
set_option maxRecDepth 100000 in
theorem xmv_Fit_mostOfLine : xmv g_Fit_mostOfLine := ⟨xmc_Fit_mostOfLine, lw_gm 702 rfl rfl, lw_gm 18 rfl rfl, _, _, rfl, rfl, rfl⟩
set_option maxRecDepth 100000 in
theorem xmc_Fit_mostOfWord : xmc g_Fit_mostOfWord := ⟨lw_gm 79 rfl rfl, lw_gm 707 rfl rfl, by decide +kernel, by decide +kernel, by decide +kernel⟩
set_option maxRecDepth 100000 in
theorem xmv_Fit_mostOfWord : xmv g_Fit_mostOfWord := ⟨xmc_Fit_mostOfWord, lw_gm 706 rfl rfl, lw_gm 19 rfl rfl, _, _, rfl, rfl, rfl⟩
set_option maxRecDepth 100000 in
theorem xmc_Hist_init : xmc g_Hist_init := ⟨lw_gm 74 rfl rfl, lw_gm 176 rfl rfl, by decide +kernel, by decide +kernel, by decide +kernel⟩
set_option maxRecDepth 100000 in
theorem xmi_Hist_init : xmi g_Hist_init := ⟨xmc_Hist_init, lw_gm 175 rfl rfl, rfl, rfl⟩
set_option maxRecDepth 100000 in
theorem xmc_Hist_remember : xmc g_Hist_remember := ⟨lw_gm 74 rfl rfl, lw_gm 316 rfl rfl, by decide +kernel, by decide +kernel, by decide +kernel⟩
set_option maxRecDepth 100000 in
theorem xmv_Hist_remember : xmv g_Hist_remember := ⟨xmc_Hist_remember, lw_gm 314 rfl rfl, lw_gm 315 rfl rfl, _, _, rfl, rfl, rfl⟩
set_option maxRecDepth 100000 in
theorem xmc_Hist_restore : xmc g_Hist_restore := ⟨lw_gm 74 rfl rfl, lw_gm 784 rfl rfl, by decide +kernel, by decide +kernel, by decide +kernel⟩
set_option maxRecDepth 100000 in
theorem xmv_Hist_restore : xmv g_Hist_restore := ⟨xmc_Hist_restore, lw_gm 782 rfl rfl, lw_gm 783 rfl rfl, _, _, rfl, rfl, rfl⟩
set_option maxRecDepth 100000 in
theorem xmc_Perm_count : xmc g_Perm_count := ⟨lw_gm 83 rfl rfl, lw_gm 478 rfl rfl, by decide +kernel, by decide +kernel, by decide +kernel⟩
set_option maxRecDepth 100000 in
theorem xms_Perm_count : xms g_Perm_count := ⟨xmc_Perm_count, lw_gm 477 rfl rfl⟩
set_option maxRecDepth 100000 in
theorem xmc_Perm_number : xmc g_Perm_number := ⟨lw_gm 83 rfl rfl, lw_gm 425 rfl rfl, by decide +kernel, by decide +kernel, by decide +kernel⟩
set_option maxRecDepth 100000 in
theorem xms_Perm_number : xms g_Perm_number := ⟨xmc_Perm_number, lw_gm 424 rfl rfl⟩
set_option maxRecDepth 100000 in
theorem xmc_Perm_numbered : xmc g_Perm_numbered := ⟨lw_gm 83 rfl rfl, lw_gm 481 rfl rfl, by decide +kernel, by decide +kernel, by decide +kernel⟩
set_option maxRecDepth 100000 in
theorem xms_Perm_numbered : xms g_Perm_numbered := ⟨xmc_Perm_numbered, lw_gm 480 rfl rfl⟩
set_option maxRecDepth 100000 in
theorem xmc_Perm_ofKind : xmc g_Perm_ofKind := ⟨lw_gm 83 rfl rfl, lw_gm 439 rfl rfl, by decide +kernel, by decide +kernel, by decide +kernel⟩
set_option maxRecDepth 100000 in
theorem xms_Perm_ofKind : xms g_Perm_ofKind := ⟨xmc_Perm_ofKind, lw_gm 438 rfl rfl⟩
set_option maxRecDepth 100000 in
theorem xmc_Perm_lineOfKind : xmc g_Perm_lineOfKind := ⟨lw_gm 83 rfl rfl, lw_gm 442 rfl rfl, by decide +kernel, by decide +kernel, by decide +kernel⟩
set_option maxRecDepth 100000 in
theorem xms_Perm_lineOfKind : xms g_Perm_lineOfKind := ⟨xmc_Perm_lineOfKind, lw_gm 441 rfl rfl⟩
set_option maxRecDepth 100000 in
theorem xmc_Perm_lineOfWeave : xmc g_Perm_lineOfWeave := ⟨lw_gm 83 rfl rfl, lw_gm 445 rfl rfl, by decide +kernel, by decide +kernel, by decide +kernel⟩
set_option maxRecDepth 100000 in
theorem xms_Perm_lineOfWeave : xms g_Perm_lineOfWeave := ⟨xmc_Perm_lineOfWeave, lw_gm 444 rfl rfl⟩
set_option maxRecDepth 100000 in
theorem xmc_Perm_inverse : xmc g_Perm_inverse := ⟨lw_gm 83 rfl rfl, lw_gm 463 rfl rfl, by decide +kernel, by decide +kernel, by decide +kernel⟩
set_option maxRecDepth 100000 in
theorem xms_Perm_inverse : xms g_Perm_inverse := ⟨xmc_Perm_inverse, lw_gm 462 rfl rfl⟩
set_option maxRecDepth 100000 in
theorem xmc_Perm_repeated : xmc g_Perm_repeated := ⟨lw_gm 83 rfl rfl, lw_gm 469 rfl rfl, by decide +kernel, by decide +kernel, by decide +kernel⟩
set_option maxRecDepth 100000 in
theorem xms_Perm_repeated : xms g_Perm_repeated := ⟨xmc_Perm_repeated, lw_gm 468 rfl rfl⟩
set_option maxRecDepth 100000 in
theorem xmc_Perm_firstRoot : xmc g_Perm_firstRoot := ⟨lw_gm 83 rfl rfl, lw_gm 491 rfl rfl, by decide +kernel, by decide +kernel, by decide +kernel⟩
set_option maxRecDepth 100000 in
theorem xms_Perm_firstRoot : xms g_Perm_firstRoot := ⟨xmc_Perm_firstRoot, lw_gm 490 rfl rfl⟩
set_option maxRecDepth 100000 in
theorem xmc_Perm_order : xmc g_Perm_order := ⟨lw_gm 83 rfl rfl, lw_gm 484 rfl rfl, by decide +kernel, by decide +kernel, by decide +kernel⟩
set_option maxRecDepth 100000 in
theorem xms_Perm_order : xms g_Perm_order := ⟨xmc_Perm_order, lw_gm 483 rfl rfl⟩
set_option maxRecDepth 100000 in
theorem xmc_Perm_property : xmc g_Perm_property := ⟨lw_gm 83 rfl rfl, lw_gm 505 rfl rfl, by decide +kernel, by decide +kernel, by decide +kernel⟩
set_option maxRecDepth 100000 in
theorem xms_Perm_property : xms g_Perm_property := ⟨xmc_Perm_property, lw_gm 504 rfl rfl⟩
set_option maxRecDepth 100000 in
theorem xmc_Perm_cycleOf : xmc g_Perm_cycleOf := ⟨lw_gm 83 rfl rfl, lw_gm 513 rfl rfl, by decide +kernel, by decide +kernel, by decide +kernel⟩
set_option maxRecDepth 100000 in
theorem xms_Perm_cycleOf : xms g_Perm_cycleOf := ⟨xmc_Perm_cycleOf, lw_gm 512 rfl rfl⟩
set_option maxRecDepth 100000 in
theorem xmc_Perm_cycles : xmc g_Perm_cycles := ⟨lw_gm 83 rfl rfl, lw_gm 510 rfl rfl, by decide +kernel, by decide +kernel, by decide +kernel⟩
set_option maxRecDepth 100000 in
theorem xms_Perm_cycles : xms g_Perm_cycles := ⟨xmc_Perm_cycles, lw_gm 509 rfl rfl⟩
set_option maxRecDepth 100000 in
theorem xmc_Perm_fixedLines : xmc g_Perm_fixedLines := ⟨lw_gm 83 rfl rfl, lw_gm 516 rfl rfl, by decide +kernel, by decide +kernel, by decide +kernel⟩
set_option maxRecDepth 100000 in
theorem xms_Perm_fixedLines : xms g_Perm_fixedLines := ⟨xmc_Perm_fixedLines, lw_gm 515 rfl rfl⟩
set_option maxRecDepth 100000 in
theorem xmc_Perm_longestCycle : xmc g_Perm_longestCycle := ⟨lw_gm 83 rfl rfl, lw_gm 519 rfl rfl, by decide +kernel, by decide +kernel, by decide +kernel⟩
set_option maxRecDepth 100000 in
theorem xms_Perm_longestCycle : xms g_Perm_longestCycle := ⟨xmc_Perm_longestCycle, lw_gm 518 rfl rfl⟩
set_option maxRecDepth 100000 in
theorem xmc_Perm_cycleType : xmc g_Perm_cycleType := ⟨lw_gm 83 rfl rfl, lw_gm 525 rfl rfl, by decide +kernel, by decide +kernel, by decide +kernel⟩
set_option maxRecDepth 100000 in
theorem xms_Perm_cycleType : xms g_Perm_cycleType := ⟨xmc_Perm_cycleType, lw_gm 524 rfl rfl⟩
set_option maxRecDepth 100000 in
theorem xmc_Poem_init : xmc g_Poem_init := ⟨lw_gm 71 rfl rfl, lw_gm 104 rfl rfl, by decide +kernel, by decide +kernel, by decide +kernel⟩
set_option maxRecDepth 100000 in
theorem xmi_Poem_init : xmi g_Poem_init := ⟨xmc_Poem_init, lw_gm 103 rfl rfl, rfl, rfl⟩
set_option maxRecDepth 100000 in
theorem xmc_Poem_empty : xmc g_Poem_empty := ⟨lw_gm 71 rfl rfl, lw_gm 152 rfl rfl, by decide +kernel, by decide +kernel, by decide +kernel⟩
set_option maxRecDepth 100000 in
theorem xmv_Poem_empty : xmv g_Poem_empty := ⟨xmc_Poem_empty, lw_gm 150 rfl rfl, lw_gm 151 rfl rfl, _, _, rfl, rfl, rfl⟩
set_option maxRecDepth 100000 in
theorem xmc_Poem_copyFrom : xmc g_Poem_copyFrom := ⟨lw_gm 71 rfl rfl, lw_gm 327 rfl rfl, by decide +kernel, by decide +kernel, by decide +kernel⟩
set_option maxRecDepth 100000 in
theorem xmv_Poem_copyFrom : xmv g_Poem_copyFrom := ⟨xmc_Poem_copyFrom, lw_gm 325 rfl rfl, lw_gm 326 rfl rfl, _, _, rfl, rfl, rfl⟩
set_option maxRecDepth 100000 in
theorem xmc_Poem_append : xmc g_Poem_append := ⟨lw_gm 71 rfl rfl, lw_gm 387 rfl rfl, by decide +kernel, by decide +kernel, by decide +kernel⟩
set_option maxRecDepth 100000 in
theorem xmv_Poem_append : xmv g_Poem_append := ⟨xmc_Poem_append, lw_gm 385 rfl rfl, lw_gm 386 rfl rfl, _, _, rfl, rfl, rfl⟩
set_option maxRecDepth 100000 in
theorem xmc_Poem_appendTailLine : xmc g_Poem_appendTailLine := ⟨lw_gm 71 rfl rfl, lw_gm 403 rfl rfl, by decide +kernel, by decide +kernel, by decide +kernel⟩
set_option maxRecDepth 100000 in
theorem xmv_Poem_appendTailLine : xmv g_Poem_appendTailLine := ⟨xmc_Poem_appendTailLine, lw_gm 401 rfl rfl, lw_gm 402 rfl rfl, _, _, rfl, rfl, rfl⟩
set_option maxRecDepth 100000 in
theorem xmc_Poem_properStanzas : xmc g_Poem_properStanzas := ⟨lw_gm 71 rfl rfl, lw_gm 638 rfl rfl, by decide +kernel, by decide +kernel, by decide +kernel⟩
set_option maxRecDepth 100000 in
theorem xmv_Poem_properStanzas : xmv g_Poem_properStanzas := ⟨xmc_Poem_properStanzas, lw_gm 636 rfl rfl, lw_gm 637 rfl rfl, _, _, rfl, rfl, rfl⟩
set_option maxRecDepth 100000 in
theorem xmc_Poem_lockedPlaces : xmc g_Poem_lockedPlaces := ⟨lw_gm 71 rfl rfl, lw_gm 775 rfl rfl, by decide +kernel, by decide +kernel, by decide +kernel⟩
set_option maxRecDepth 100000 in
theorem xmv_Poem_lockedPlaces : xmv g_Poem_lockedPlaces := ⟨xmc_Poem_lockedPlaces, lw_gm 773 rfl rfl, lw_gm 774 rfl rfl, _, _, rfl, rfl, rfl⟩
set_option maxRecDepth 100000 in
theorem xmc_Poem_turnBehind : xmc g_Poem_turnBehind := ⟨lw_gm 71 rfl rfl, lw_gm 623 rfl rfl, by decide +kernel, by decide +kernel, by decide +kernel⟩
set_option maxRecDepth 100000 in
theorem xmv_Poem_turnBehind : xmv g_Poem_turnBehind := ⟨xmc_Poem_turnBehind, lw_gm 621 rfl rfl, lw_gm 622 rfl rfl, _, _, rfl, rfl, rfl⟩
set_option maxRecDepth 100000 in
theorem xmc_Poem_turnsBy : xmc g_Poem_turnsBy := ⟨lw_gm 71 rfl rfl, lw_gm 634 rfl rfl, by decide +kernel, by decide +kernel, by decide +kernel⟩
set_option maxRecDepth 100000 in
theorem xmv_Poem_turnsBy : xmv g_Poem_turnsBy := ⟨xmc_Poem_turnsBy, lw_gm 632 rfl rfl, lw_gm 633 rfl rfl, _, _, rfl, rfl, rfl⟩
set_option maxRecDepth 100000 in
theorem xmc_Poem_rewrite : xmc g_Poem_rewrite := ⟨lw_gm 71 rfl rfl, lw_gm 685 rfl rfl, by decide +kernel, by decide +kernel, by decide +kernel⟩
set_option maxRecDepth 100000 in
theorem xmv_Poem_rewrite : xmv g_Poem_rewrite := ⟨xmc_Poem_rewrite, lw_gm 683 rfl rfl, lw_gm 684 rfl rfl, _, _, rfl, rfl, rfl⟩
set_option maxRecDepth 100000 in
theorem xmc_Poem_lengthOfTail : xmc g_Poem_lengthOfTail := ⟨lw_gm 71 rfl rfl, lw_gm 721 rfl rfl, by decide +kernel, by decide +kernel, by decide +kernel⟩
set_option maxRecDepth 100000 in
theorem xmv_Poem_lengthOfTail : xmv g_Poem_lengthOfTail := ⟨xmc_Poem_lengthOfTail, lw_gm 719 rfl rfl, lw_gm 720 rfl rfl, _, _, rfl, rfl, rfl⟩
set_option maxRecDepth 100000 in
theorem xmc_Poem_wordsOfTail : xmc g_Poem_wordsOfTail := ⟨lw_gm 71 rfl rfl, lw_gm 716 rfl rfl, by decide +kernel, by decide +kernel, by decide +kernel⟩
set_option maxRecDepth 100000 in
theorem xmv_Poem_wordsOfTail : xmv g_Poem_wordsOfTail := ⟨xmc_Poem_wordsOfTail, lw_gm 714 rfl rfl, lw_gm 715 rfl rfl, _, _, rfl, rfl, rfl⟩
set_option maxRecDepth 100000 in
theorem xmc_PR_init : xmc g_PR_init := ⟨lw_gm 76 rfl rfl, lw_gm 212 rfl rfl, by decide +kernel, by decide +kernel, by decide +kernel⟩
set_option maxRecDepth 100000 in
theorem xmi_PR_init : xmi g_PR_init := ⟨xmc_PR_init, lw_gm 211 rfl rfl, rfl, rfl⟩
set_option maxRecDepth 100000 in
theorem xmc_PR_readText : xmc g_PR_readText := ⟨lw_gm 76 rfl rfl, lw_gm 364 rfl rfl, by decide +kernel, by decide +kernel, by decide +kernel⟩
set_option maxRecDepth 100000 in
theorem xmv_PR_readText : xmv g_PR_readText := ⟨xmc_PR_readText, lw_gm 362 rfl rfl, lw_gm 363 rfl rfl, _, _, rfl, rfl, rfl⟩
set_option maxRecDepth 100000 in
theorem xmc_PR_readFirstStanza : xmc g_PR_readFirstStanza := ⟨lw_gm 76 rfl rfl, lw_gm 369 rfl rfl, by decide +kernel, by decide +kernel, by decide +kernel⟩
set_option maxRecDepth 100000 in
theorem xmv_PR_readFirstStanza : xmv g_PR_readFirstStanza := ⟨xmc_PR_readFirstStanza, lw_gm 368 rfl rfl, lw_gm 1 rfl rfl, _, _, rfl, rfl, rfl⟩
set_option maxRecDepth 100000 in
theorem xmc_PR_readStanza : xmc g_PR_readStanza := ⟨lw_gm 76 rfl rfl, lw_gm 391 rfl rfl, by decide +kernel, by decide +kernel, by decide +kernel⟩
set_option maxRecDepth 100000 in
theorem xmv_PR_readStanza : xmv g_PR_readStanza := ⟨xmc_PR_readStanza, lw_gm 390 rfl rfl, lw_gm 4 rfl rfl, _, _, rfl, rfl, rfl⟩
set_option maxRecDepth 100000 in
theorem xmc_PR_readTail : xmc g_PR_readTail := ⟨lw_gm 76 rfl rfl, lw_gm 395 rfl rfl, by decide +kernel, by decide +kernel, by decide +kernel⟩
set_option maxRecDepth 100000 in
theorem xmv_PR_readTail : xmv g_PR_readTail := ⟨xmc_PR_readTail, lw_gm 394 rfl rfl, lw_gm 5 rfl rfl, _, _, rfl, rfl, rfl⟩
set_option maxRecDepth 100000 in
theorem xmc_PR_readTailLine : xmc g_PR_readTailLine := ⟨lw_gm 76 rfl rfl, lw_gm 399 rfl rfl, by decide +kernel, by decide +kernel, by decide +kernel⟩
set_option maxRecDepth 100000 in
theorem xmv_PR_readTailLine : xmv g_PR_readTailLine := ⟨xmc_PR_readTailLine, lw_gm 398 rfl rfl, lw_gm 6 rfl rfl, _, _, rfl, rfl, rfl⟩
set_option maxRecDepth 100000 in
theorem xmc_PR_wordBelow : xmc g_PR_wordBelow := ⟨lw_gm 76 rfl rfl, lw_gm 373 rfl rfl, by decide +kernel, by decide +kernel, by decide +kernel⟩
set_option maxRecDepth 100000 in
theorem xmv_PR_wordBelow : xmv g_PR_wordBelow := ⟨xmc_PR_wordBelow, lw_gm 372 rfl rfl, lw_gm 2 rfl rfl, _, _, rfl, rfl, rfl⟩
set_option maxRecDepth 100000 in
theorem xmc_PR_isStanzaOver : xmc g_PR_isStanzaOver := ⟨lw_gm 76 rfl rfl, lw_gm 382 rfl rfl, by decide +kernel, by decide +kernel, by decide +kernel⟩
set_option maxRecDepth 100000 in
theorem xmv_PR_isStanzaOver : xmv g_PR_isStanzaOver := ⟨xmc_PR_isStanzaOver, lw_gm 381 rfl rfl, lw_gm 3 rfl rfl, _, _, rfl, rfl, rfl⟩
set_option maxRecDepth 100000 in
theorem xmc_Rhy_pattern : xmc g_Rhy_pattern := ⟨lw_gm 85 rfl rfl, lw_gm 737 rfl rfl, by decide +kernel, by decide +kernel, by decide +kernel⟩
set_option maxRecDepth 100000 in
theorem xms_Rhy_pattern : xms g_Rhy_pattern := ⟨xmc_Rhy_pattern, lw_gm 736 rfl rfl⟩
set_option maxRecDepth 100000 in
theorem xmc_Rhy_firstRhyme : xmc g_Rhy_firstRhyme := ⟨lw_gm 85 rfl rfl, lw_gm 740 rfl rfl, by decide +kernel, by decide +kernel, by decide +kernel⟩
set_option maxRecDepth 100000 in
theorem xms_Rhy_firstRhyme : xms g_Rhy_firstRhyme := ⟨xmc_Rhy_firstRhyme, lw_gm 739 rfl rfl⟩
set_option maxRecDepth 100000 in
theorem xmc_Rhy_differentPatterns : xmc g_Rhy_differentPatterns := ⟨lw_gm 85 rfl rfl, lw_gm 748 rfl rfl, by decide +kernel, by decide +kernel, by decide +kernel⟩
set_option maxRecDepth 100000 in
theorem xms_Rhy_differentPatterns : xms g_Rhy_differentPatterns := ⟨xmc_Rhy_differentPatterns, lw_gm 747 rfl rfl⟩
set_option maxRecDepth 100000 in
theorem xmc_Rhy_isAmong : xmc g_Rhy_isAmong := ⟨lw_gm 85 rfl rfl, lw_gm 753 rfl rfl, by decide +kernel, by decide +kernel, by decide +kernel⟩
set_option maxRecDepth 100000 in
theorem xms_Rhy_isAmong : xms g_Rhy_isAmong := ⟨xmc_Rhy_isAmong, lw_gm 752 rfl rfl⟩
set_option maxRecDepth 100000 in
theorem xmc_Rhy_mostNeighborly : xmc g_Rhy_mostNeighborly := ⟨lw_gm 85 rfl rfl, lw_gm 761 rfl rfl, by decide +kernel, by decide +kernel, by decide +kernel⟩
set_option maxRecDepth 100000 in
theorem xms_Rhy_mostNeighborly : xms g_Rhy_mostNeighborly := ⟨xmc_Rhy_mostNeighborly, lw_gm 760 rfl rfl⟩
set_option maxRecDepth 100000 in
theorem xmc_Rhy_neighbors : xmc g_Rhy_neighbors := ⟨lw_gm 85 rfl rfl, lw_gm 766 rfl rfl, by decide +kernel, by decide +kernel, by decide +kernel⟩
set_option maxRecDepth 100000 in
theorem xms_Rhy_neighbors : xms g_Rhy_neighbors := ⟨xmc_Rhy_neighbors, lw_gm 765 rfl rfl⟩
set_option maxRecDepth 100000 in
theorem xmc_Row_entry : xmc g_Row_entry := ⟨lw_gm 72 rfl rfl, lw_gm 343 rfl rfl, by decide +kernel, by decide +kernel, by decide +kernel⟩
set_option maxRecDepth 100000 in
theorem xms_Row_entry : xms g_Row_entry := ⟨xmc_Row_entry, lw_gm 342 rfl rfl⟩
set_option maxRecDepth 100000 in
theorem xmc_Row_with : xmc g_Row_with := ⟨lw_gm 72 rfl rfl, lw_gm 141 rfl rfl, by decide +kernel, by decide +kernel, by decide +kernel⟩
set_option maxRecDepth 100000 in
theorem xms_Row_with : xms g_Row_with := ⟨xmc_Row_with, lw_gm 140 rfl rfl⟩
set_option maxRecDepth 100000 in
theorem xmc_Row_ascending : xmc g_Row_ascending := ⟨lw_gm 72 rfl rfl, lw_gm 144 rfl rfl, by decide +kernel, by decide +kernel, by decide +kernel⟩
set_option maxRecDepth 100000 in
theorem xms_Row_ascending : xms g_Row_ascending := ⟨xmc_Row_ascending, lw_gm 143 rfl rfl⟩
set_option maxRecDepth 100000 in
theorem xmc_Row_turned : xmc g_Row_turned := ⟨lw_gm 72 rfl rfl, lw_gm 453 rfl rfl, by decide +kernel, by decide +kernel, by decide +kernel⟩
set_option maxRecDepth 100000 in
theorem xms_Row_turned : xms g_Row_turned := ⟨xmc_Row_turned, lw_gm 452 rfl rfl⟩
set_option maxRecDepth 100000 in
theorem xmc_Row_entries : xmc g_Row_entries := ⟨lw_gm 72 rfl rfl, lw_gm 615 rfl rfl, by decide +kernel, by decide +kernel, by decide +kernel⟩
set_option maxRecDepth 100000 in
theorem xms_Row_entries : xms g_Row_entries := ⟨xmc_Row_entries, lw_gm 614 rfl rfl⟩
set_option maxRecDepth 100000 in
theorem xmc_Row_hasEach : xmc g_Row_hasEach := ⟨lw_gm 72 rfl rfl, lw_gm 612 rfl rfl, by decide +kernel, by decide +kernel, by decide +kernel⟩
set_option maxRecDepth 100000 in
theorem xms_Row_hasEach : xms g_Row_hasEach := ⟨xmc_Row_hasEach, lw_gm 611 rfl rfl⟩
set_option maxRecDepth 100000 in
theorem xmc_Sea_init : xmc g_Sea_init := ⟨lw_gm 78 rfl rfl, lw_gm 243 rfl rfl, by decide +kernel, by decide +kernel, by decide +kernel⟩
set_option maxRecDepth 100000 in
theorem xmi_Sea_init : xmi g_Sea_init := ⟨xmc_Sea_init, lw_gm 242 rfl rfl, rfl, rfl⟩
set_option maxRecDepth 100000 in
theorem xmc_Sea_spread : xmc g_Sea_spread := ⟨lw_gm 78 rfl rfl, lw_gm 540 rfl rfl, by decide +kernel, by decide +kernel, by decide +kernel⟩
set_option maxRecDepth 100000 in
theorem xmv_Sea_spread : xmv g_Sea_spread := ⟨xmc_Sea_spread, lw_gm 538 rfl rfl, lw_gm 539 rfl rfl, _, _, rfl, rfl, rfl⟩
set_option maxRecDepth 100000 in
theorem xmc_Sea_depthOf : xmc g_Sea_depthOf := ⟨lw_gm 78 rfl rfl, lw_gm 552 rfl rfl, by decide +kernel, by decide +kernel, by decide +kernel⟩
set_option maxRecDepth 100000 in
theorem xmv_Sea_depthOf : xmv g_Sea_depthOf := ⟨xmc_Sea_depthOf, lw_gm 550 rfl rfl, lw_gm 551 rfl rfl, _, _, rfl, rfl, rfl⟩
set_option maxRecDepth 100000 in
theorem xmc_Sea_factorAt : xmc g_Sea_factorAt := ⟨lw_gm 78 rfl rfl, lw_gm 570 rfl rfl, by decide +kernel, by decide +kernel, by decide +kernel⟩
set_option maxRecDepth 100000 in
theorem xmv_Sea_factorAt : xmv g_Sea_factorAt := ⟨xmc_Sea_factorAt, lw_gm 568 rfl rfl, lw_gm 569 rfl rfl, _, _, rfl, rfl, rfl⟩
set_option maxRecDepth 100000 in
theorem xmc_Sea_note : xmc g_Sea_note := ⟨lw_gm 78 rfl rfl, lw_gm 547 rfl rfl, by decide +kernel, by decide +kernel, by decide +kernel⟩
set_option maxRecDepth 100000 in
theorem xmv_Sea_note : xmv g_Sea_note := ⟨xmc_Sea_note, lw_gm 546 rfl rfl, lw_gm 8 rfl rfl, _, _, rfl, rfl, rfl⟩
set_option maxRecDepth 100000 in
theorem xmc_Sea_isFactor : xmc g_Sea_isFactor := ⟨lw_gm 78 rfl rfl, lw_gm 556 rfl rfl, by decide +kernel, by decide +kernel, by decide +kernel⟩
set_option maxRecDepth 100000 in
theorem xmv_Sea_isFactor : xmv g_Sea_isFactor := ⟨xmc_Sea_isFactor, lw_gm 555 rfl rfl, lw_gm 9 rfl rfl, _, _, rfl, rfl, rfl⟩
set_option maxRecDepth 100000 in
theorem xmc_Sea_firstFactor : xmc g_Sea_firstFactor := ⟨lw_gm 78 rfl rfl, lw_gm 574 rfl rfl, by decide +kernel, by decide +kernel, by decide +kernel⟩
set_option maxRecDepth 100000 in
theorem xmv_Sea_firstFactor : xmv g_Sea_firstFactor := ⟨xmc_Sea_firstFactor, lw_gm 573 rfl rfl, lw_gm 10 rfl rfl, _, _, rfl, rfl, rfl⟩
set_option maxRecDepth 100000 in
theorem xmc_Sea_without : xmc g_Sea_without := ⟨lw_gm 78 rfl rfl, lw_gm 578 rfl rfl, by decide +kernel, by decide +kernel, by decide +kernel⟩
set_option maxRecDepth 100000 in
theorem xmv_Sea_without : xmv g_Sea_without := ⟨xmc_Sea_without, lw_gm 577 rfl rfl, lw_gm 11 rfl rfl, _, _, rfl, rfl, rfl⟩
set_option maxRecDepth 100000 in
theorem xmc_Sta_init : xmc g_Sta_init := ⟨lw_gm 70 rfl rfl, lw_gm 98 rfl rfl, by decide +kernel, by decide +kernel, by decide +kernel⟩
set_option maxRecDepth 100000 in
theorem xmi_Sta_init : xmi g_Sta_init := ⟨xmc_Sta_init, lw_gm 97 rfl rfl, rfl, rfl⟩
set_option maxRecDepth 100000 in
theorem xmc_Sta_startWith : xmc g_Sta_startWith := ⟨lw_gm 70 rfl rfl, lw_gm 138 rfl rfl, by decide +kernel, by decide +kernel, by decide +kernel⟩
set_option maxRecDepth 100000 in
theorem xmv_Sta_startWith : xmv g_Sta_startWith := ⟨xmc_Sta_startWith, lw_gm 136 rfl rfl, lw_gm 137 rfl rfl, _, _, rfl, rfl, rfl⟩
set_option maxRecDepth 100000 in
theorem xmc_Sta_copyFrom : xmc g_Sta_copyFrom := ⟨lw_gm 70 rfl rfl, lw_gm 320 rfl rfl, by decide +kernel, by decide +kernel, by decide +kernel⟩
set_option maxRecDepth 100000 in
theorem xmv_Sta_copyFrom : xmv g_Sta_copyFrom := ⟨xmc_Sta_copyFrom, lw_gm 318 rfl rfl, lw_gm 319 rfl rfl, _, _, rfl, rfl, rfl⟩
set_option maxRecDepth 100000 in
theorem xmc_Txt_init : xmc g_Txt_init := ⟨lw_gm 75 rfl rfl, lw_gm 196 rfl rfl, by decide +kernel, by decide +kernel, by decide +kernel⟩
set_option maxRecDepth 100000 in
theorem xmi_Txt_init : xmi g_Txt_init := ⟨xmc_Txt_init, lw_gm 195 rfl rfl, rfl, rfl⟩
set_option maxRecDepth 100000 in
theorem xmc_Txt_append : xmc g_Txt_append := ⟨lw_gm 75 rfl rfl, lw_gm 352 rfl rfl, by decide +kernel, by decide +kernel, by decide +kernel⟩
set_option maxRecDepth 100000 in
theorem xmv_Txt_append : xmv g_Txt_append := ⟨xmc_Txt_append, lw_gm 350 rfl rfl, lw_gm 351 rfl rfl, _, _, rfl, rfl, rfl⟩
set_option maxRecDepth 100000 in
theorem xmc_Txt_byteAt : xmc g_Txt_byteAt := ⟨lw_gm 75 rfl rfl, lw_gm 377 rfl rfl, by decide +kernel, by decide +kernel, by decide +kernel⟩
set_option maxRecDepth 100000 in
theorem xmv_Txt_byteAt : xmv g_Txt_byteAt := ⟨xmc_Txt_byteAt, lw_gm 375 rfl rfl, lw_gm 376 rfl rfl, _, _, rfl, rfl, rfl⟩
set_option maxRecDepth 100000 in
theorem xmc_TR_init : xmc g_TR_init := ⟨lw_gm 77 rfl rfl, lw_gm 232 rfl rfl, by decide +kernel, by decide +kernel, by decide +kernel⟩
set_option maxRecDepth 100000 in
theorem xmi_TR_init : xmi g_TR_init := ⟨xmc_TR_init, lw_gm 231 rfl rfl, rfl, rfl⟩
set_option maxRecDepth 100000 in
theorem xmc_TR_readText : xmc g_TR_readText := ⟨lw_gm 77 rfl rfl, lw_gm 415 rfl rfl, by decide +kernel, by decide +kernel, by decide +kernel⟩
set_option maxRecDepth 100000 in
theorem xmv_TR_readText : xmv g_TR_readText := ⟨xmc_TR_readText, lw_gm 413 rfl rfl, lw_gm 414 rfl rfl, _, _, rfl, rfl, rfl⟩
set_option maxRecDepth 100000 in
theorem xmc_TV_init : xmc g_TV_init := ⟨lw_gm 69 rfl rfl, lw_gm 90 rfl rfl, by decide +kernel, by decide +kernel, by decide +kernel⟩
set_option maxRecDepth 100000 in
theorem xmi_TV_init : xmi g_TV_init := ⟨xmc_TV_init, lw_gm 89 rfl rfl, rfl, rfl⟩
set_option maxRecDepth 100000 in
theorem xmc_TV_setWords : xmc g_TV_setWords := ⟨lw_gm 69 rfl rfl, lw_gm 312 rfl rfl, by decide +kernel, by decide +kernel, by decide +kernel⟩
set_option maxRecDepth 100000 in
theorem xmv_TV_setWords : xmv g_TV_setWords := ⟨xmc_TV_setWords, lw_gm 310 rfl rfl, lw_gm 311 rfl rfl, _, _, rfl, rfl, rfl⟩
set_option maxRecDepth 100000 in
theorem xmc_TV_setSound : xmc g_TV_setSound := ⟨lw_gm 69 rfl rfl, lw_gm 336 rfl rfl, by decide +kernel, by decide +kernel, by decide +kernel⟩
set_option maxRecDepth 100000 in
theorem xmv_TV_setSound : xmv g_TV_setSound := ⟨xmc_TV_setSound, lw_gm 334 rfl rfl, lw_gm 335 rfl rfl, _, _, rfl, rfl, rfl⟩
set_option maxRecDepth 100000 in
theorem xmc_TV_type : xmc g_TV_type := ⟨lw_gm 69 rfl rfl, lw_gm 348 rfl rfl, by decide +kernel, by decide +kernel, by decide +kernel⟩
set_option maxRecDepth 100000 in
theorem xmv_TV_type : xmv g_TV_type := ⟨xmc_TV_type, lw_gm 346 rfl rfl, lw_gm 347 rfl rfl, _, _, rfl, rfl, rfl⟩
set_option maxRecDepth 100000 in
theorem xmc_TV_clear : xmc g_TV_clear := ⟨lw_gm 69 rfl rfl, lw_gm 356 rfl rfl, by decide +kernel, by decide +kernel, by decide +kernel⟩
set_option maxRecDepth 100000 in
theorem xmv_TV_clear : xmv g_TV_clear := ⟨xmc_TV_clear, lw_gm 354 rfl rfl, lw_gm 355 rfl rfl, _, _, rfl, rfl, rfl⟩
set_option maxRecDepth 100000 in
theorem xmc_TV_loadPoem : xmc g_TV_loadPoem := ⟨lw_gm 69 rfl rfl, lw_gm 360 rfl rfl, by decide +kernel, by decide +kernel, by decide +kernel⟩
set_option maxRecDepth 100000 in
theorem xmv_TV_loadPoem : xmv g_TV_loadPoem := ⟨xmc_TV_loadPoem, lw_gm 358 rfl rfl, lw_gm 359 rfl rfl, _, _, rfl, rfl, rfl⟩
set_option maxRecDepth 100000 in
theorem xmc_TV_loadTurn : xmc g_TV_loadTurn := ⟨lw_gm 69 rfl rfl, lw_gm 408 rfl rfl, by decide +kernel, by decide +kernel, by decide +kernel⟩
set_option maxRecDepth 100000 in
theorem xmv_TV_loadTurn : xmv g_TV_loadTurn := ⟨xmc_TV_loadTurn, lw_gm 406 rfl rfl, lw_gm 407 rfl rfl, _, _, rfl, rfl, rfl⟩
set_option maxRecDepth 100000 in
theorem xmc_TV_make : xmc g_TV_make := ⟨lw_gm 69 rfl rfl, lw_gm 436 rfl rfl, by decide +kernel, by decide +kernel, by decide +kernel⟩
set_option maxRecDepth 100000 in
theorem xmv_TV_make : xmv g_TV_make := ⟨xmc_TV_make, lw_gm 434 rfl rfl, lw_gm 435 rfl rfl, _, _, rfl, rfl, rfl⟩
set_option maxRecDepth 100000 in
theorem xmc_TV_product : xmc g_TV_product := ⟨lw_gm 69 rfl rfl, lw_gm 450 rfl rfl, by decide +kernel, by decide +kernel, by decide +kernel⟩
set_option maxRecDepth 100000 in
theorem xmv_TV_product : xmv g_TV_product := ⟨xmc_TV_product, lw_gm 448 rfl rfl, lw_gm 449 rfl rfl, _, _, rfl, rfl, rfl⟩
set_option maxRecDepth 100000 in
theorem xmc_TV_power : xmc g_TV_power := ⟨lw_gm 69 rfl rfl, lw_gm 458 rfl rfl, by decide +kernel, by decide +kernel, by decide +kernel⟩
set_option maxRecDepth 100000 in
theorem xmv_TV_power : xmv g_TV_power := ⟨xmc_TV_power, lw_gm 456 rfl rfl, lw_gm 457 rfl rfl, _, _, rfl, rfl, rfl⟩
set_option maxRecDepth 100000 in
theorem xmc_TV_unrank : xmc g_TV_unrank := ⟨lw_gm 69 rfl rfl, lw_gm 475 rfl rfl, by decide +kernel, by decide +kernel, by decide +kernel⟩
set_option maxRecDepth 100000 in
theorem xmv_TV_unrank : xmv g_TV_unrank := ⟨xmc_TV_unrank, lw_gm 473 rfl rfl, lw_gm 474 rfl rfl, _, _, rfl, rfl, rfl⟩
set_option maxRecDepth 100000 in
theorem xmc_TV_root : xmc g_TV_root := ⟨lw_gm 69 rfl rfl, lw_gm 488 rfl rfl, by decide +kernel, by decide +kernel, by decide +kernel⟩
set_option maxRecDepth 100000 in
theorem xmv_TV_root : xmv g_TV_root := ⟨xmc_TV_root, lw_gm 486 rfl rfl, lw_gm 487 rfl rfl, _, _, rfl, rfl, rfl⟩
set_option maxRecDepth 100000 in
theorem xmc_TV_at : xmc g_TV_at := ⟨lw_gm 69 rfl rfl, lw_gm 498 rfl rfl, by decide +kernel, by decide +kernel, by decide +kernel⟩
set_option maxRecDepth 100000 in
theorem xmv_TV_at : xmv g_TV_at := ⟨xmc_TV_at, lw_gm 496 rfl rfl, lw_gm 497 rfl rfl, _, _, rfl, rfl, rfl⟩
set_option maxRecDepth 100000 in
theorem xmc_TV_turn : xmc g_TV_turn := ⟨lw_gm 69 rfl rfl, lw_gm 502 rfl rfl, by decide +kernel, by decide +kernel, by decide +kernel⟩
set_option maxRecDepth 100000 in
theorem xmv_TV_turn : xmv g_TV_turn := ⟨xmc_TV_turn, lw_gm 500 rfl rfl, lw_gm 501 rfl rfl, _, _, rfl, rfl, rfl⟩
set_option maxRecDepth 100000 in
theorem xmc_TV_places : xmc g_TV_places := ⟨lw_gm 69 rfl rfl, lw_gm 529 rfl rfl, by decide +kernel, by decide +kernel, by decide +kernel⟩
set_option maxRecDepth 100000 in
theorem xmv_TV_places : xmv g_TV_places := ⟨xmc_TV_places, lw_gm 527 rfl rfl, lw_gm 528 rfl rfl, _, _, rfl, rfl, rfl⟩
set_option maxRecDepth 100000 in
theorem xmc_TV_generated : xmc g_TV_generated := ⟨lw_gm 69 rfl rfl, lw_gm 533 rfl rfl, by decide +kernel, by decide +kernel, by decide +kernel⟩
set_option maxRecDepth 100000 in
theorem xmv_TV_generated : xmv g_TV_generated := ⟨xmc_TV_generated, lw_gm 531 rfl rfl, lw_gm 532 rfl rfl, _, _, rfl, rfl, rfl⟩
set_option maxRecDepth 100000 in
theorem xmc_TV_reach : xmc g_TV_reach := ⟨lw_gm 69 rfl rfl, lw_gm 561 rfl rfl, by decide +kernel, by decide +kernel, by decide +kernel⟩
set_option maxRecDepth 100000 in
theorem xmv_TV_reach : xmv g_TV_reach := ⟨xmc_TV_reach, lw_gm 559 rfl rfl, lw_gm 560 rfl rfl, _, _, rfl, rfl, rfl⟩
set_option maxRecDepth 100000 in
theorem xmc_TV_factor : xmc g_TV_factor := ⟨lw_gm 69 rfl rfl, lw_gm 566 rfl rfl, by decide +kernel, by decide +kernel, by decide +kernel⟩
set_option maxRecDepth 100000 in
theorem xmv_TV_factor : xmv g_TV_factor := ⟨xmc_TV_factor, lw_gm 564 rfl rfl, lw_gm 565 rfl rfl, _, _, rfl, rfl, rfl⟩
set_option maxRecDepth 100000 in
theorem xmc_TV_add : xmc g_TV_add := ⟨lw_gm 69 rfl rfl, lw_gm 583 rfl rfl, by decide +kernel, by decide +kernel, by decide +kernel⟩
set_option maxRecDepth 100000 in
theorem xmv_TV_add : xmv g_TV_add := ⟨xmc_TV_add, lw_gm 581 rfl rfl, lw_gm 582 rfl rfl, _, _, rfl, rfl, rfl⟩
set_option maxRecDepth 100000 in
theorem xmc_TV_drop : xmc g_TV_drop := ⟨lw_gm 69 rfl rfl, lw_gm 589 rfl rfl, by decide +kernel, by decide +kernel, by decide +kernel⟩
set_option maxRecDepth 100000 in
theorem xmv_TV_drop : xmv g_TV_drop := ⟨xmc_TV_drop, lw_gm 587 rfl rfl, lw_gm 588 rfl rfl, _, _, rfl, rfl, rfl⟩
set_option maxRecDepth 100000 in
theorem xmc_TV_put : xmc g_TV_put := ⟨lw_gm 69 rfl rfl, lw_gm 593 rfl rfl, by decide +kernel, by decide +kernel, by decide +kernel⟩
set_option maxRecDepth 100000 in
theorem xmv_TV_put : xmv g_TV_put := ⟨xmc_TV_put, lw_gm 591 rfl rfl, lw_gm 592 rfl rfl, _, _, rfl, rfl, rfl⟩
set_option maxRecDepth 100000 in
theorem xmc_TV_lock : xmc g_TV_lock := ⟨lw_gm 69 rfl rfl, lw_gm 601 rfl rfl, by decide +kernel, by decide +kernel, by decide +kernel⟩
set_option maxRecDepth 100000 in
theorem xmv_TV_lock : xmv g_TV_lock := ⟨xmc_TV_lock, lw_gm 599 rfl rfl, lw_gm 600 rfl rfl, _, _, rfl, rfl, rfl⟩
set_option maxRecDepth 100000 in
theorem xmc_TV_word : xmc g_TV_word := ⟨lw_gm 69 rfl rfl, lw_gm 605 rfl rfl, by decide +kernel, by decide +kernel, by decide +kernel⟩
set_option maxRecDepth 100000 in
theorem xmv_TV_word : xmv g_TV_word := ⟨xmc_TV_word, lw_gm 603 rfl rfl, lw_gm 604 rfl rfl, _, _, rfl, rfl, rfl⟩
set_option maxRecDepth 100000 in
theorem xmc_TV_proper : xmc g_TV_proper := ⟨lw_gm 69 rfl rfl, lw_gm 609 rfl rfl, by decide +kernel, by decide +kernel, by decide +kernel⟩
set_option maxRecDepth 100000 in
theorem xmv_TV_proper : xmv g_TV_proper := ⟨xmc_TV_proper, lw_gm 607 rfl rfl, lw_gm 608 rfl rfl, _, _, rfl, rfl, rfl⟩
set_option maxRecDepth 100000 in
theorem xmc_TV_turning : xmc g_TV_turning := ⟨lw_gm 69 rfl rfl, lw_gm 619 rfl rfl, by decide +kernel, by decide +kernel, by decide +kernel⟩
set_option maxRecDepth 100000 in
theorem xmv_TV_turning : xmv g_TV_turning := ⟨xmc_TV_turning, lw_gm 617 rfl rfl, lw_gm 618 rfl rfl, _, _, rfl, rfl, rfl⟩
set_option maxRecDepth 100000 in
theorem xmc_TV_common : xmc g_TV_common := ⟨lw_gm 69 rfl rfl, lw_gm 630 rfl rfl, by decide +kernel, by decide +kernel, by decide +kernel⟩
set_option maxRecDepth 100000 in
theorem xmv_TV_common : xmv g_TV_common := ⟨xmc_TV_common, lw_gm 628 rfl rfl, lw_gm 629 rfl rfl, _, _, rfl, rfl, rfl⟩
set_option maxRecDepth 100000 in
theorem xmc_TV_follows : xmc g_TV_follows := ⟨lw_gm 69 rfl rfl, lw_gm 642 rfl rfl, by decide +kernel, by decide +kernel, by decide +kernel⟩
set_option maxRecDepth 100000 in
theorem xmv_TV_follows : xmv g_TV_follows := ⟨xmc_TV_follows, lw_gm 640 rfl rfl, lw_gm 641 rfl rfl, _, _, rfl, rfl, rfl⟩
set_option maxRecDepth 100000 in
theorem xmc_TV_cost : xmc g_TV_cost := ⟨lw_gm 69 rfl rfl, lw_gm 646 rfl rfl, by decide +kernel, by decide +kernel, by decide +kernel⟩
set_option maxRecDepth 100000 in
theorem xmv_TV_cost : xmv g_TV_cost := ⟨xmc_TV_cost, lw_gm 644 rfl rfl, lw_gm 645 rfl rfl, _, _, rfl, rfl, rfl⟩
set_option maxRecDepth 100000 in
theorem xmc_TV_mend : xmc g_TV_mend := ⟨lw_gm 69 rfl rfl, lw_gm 672 rfl rfl, by decide +kernel, by decide +kernel, by decide +kernel⟩
set_option maxRecDepth 100000 in
theorem xmv_TV_mend : xmv g_TV_mend := ⟨xmc_TV_mend, lw_gm 670 rfl rfl, lw_gm 671 rfl rfl, _, _, rfl, rfl, rfl⟩
set_option maxRecDepth 100000 in
theorem xmc_TV_best : xmc g_TV_best := ⟨lw_gm 69 rfl rfl, lw_gm 689 rfl rfl, by decide +kernel, by decide +kernel, by decide +kernel⟩
set_option maxRecDepth 100000 in
theorem xmv_TV_best : xmv g_TV_best := ⟨xmc_TV_best, lw_gm 687 rfl rfl, lw_gm 688 rfl rfl, _, _, rfl, rfl, rfl⟩
set_option maxRecDepth 100000 in
theorem xmc_TV_tail : xmc g_TV_tail := ⟨lw_gm 69 rfl rfl, lw_gm 712 rfl rfl, by decide +kernel, by decide +kernel, by decide +kernel⟩
set_option maxRecDepth 100000 in
theorem xmv_TV_tail : xmv g_TV_tail := ⟨xmc_TV_tail, lw_gm 710 rfl rfl, lw_gm 711 rfl rfl, _, _, rfl, rfl, rfl⟩
set_option maxRecDepth 100000 in
theorem xmc_TV_tailWord : xmc g_TV_tailWord := ⟨lw_gm 69 rfl rfl, lw_gm 726 rfl rfl, by decide +kernel, by decide +kernel, by decide +kernel⟩
set_option maxRecDepth 100000 in
theorem xmv_TV_tailWord : xmv g_TV_tailWord := ⟨xmc_TV_tailWord, lw_gm 724 rfl rfl, lw_gm 725 rfl rfl, _, _, rfl, rfl, rfl⟩
set_option maxRecDepth 100000 in
theorem xmc_TV_scheme : xmc g_TV_scheme := ⟨lw_gm 69 rfl rfl, lw_gm 730 rfl rfl, by decide +kernel, by decide +kernel, by decide +kernel⟩
set_option maxRecDepth 100000 in
theorem xmv_TV_scheme : xmv g_TV_scheme := ⟨xmc_TV_scheme, lw_gm 728 rfl rfl, lw_gm 729 rfl rfl, _, _, rfl, rfl, rfl⟩
set_option maxRecDepth 100000 in
theorem xmc_TV_schemes : xmc g_TV_schemes := ⟨lw_gm 69 rfl rfl, lw_gm 745 rfl rfl, by decide +kernel, by decide +kernel, by decide +kernel⟩
set_option maxRecDepth 100000 in
theorem xmv_TV_schemes : xmv g_TV_schemes := ⟨xmc_TV_schemes, lw_gm 743 rfl rfl, lw_gm 744 rfl rfl, _, _, rfl, rfl, rfl⟩
set_option maxRecDepth 100000 in
theorem xmc_TV_coupled : xmc g_TV_coupled := ⟨lw_gm 69 rfl rfl, lw_gm 758 rfl rfl, by decide +kernel, by decide +kernel, by decide +kernel⟩
set_option maxRecDepth 100000 in
theorem xmv_TV_coupled : xmv g_TV_coupled := ⟨xmc_TV_coupled, lw_gm 756 rfl rfl, lw_gm 757 rfl rfl, _, _, rfl, rfl, rfl⟩
set_option maxRecDepth 100000 in
theorem xmc_TV_told : xmc g_TV_told := ⟨lw_gm 69 rfl rfl, lw_gm 770 rfl rfl, by decide +kernel, by decide +kernel, by decide +kernel⟩
set_option maxRecDepth 100000 in
theorem xmv_TV_told : xmv g_TV_told := ⟨xmc_TV_told, lw_gm 768 rfl rfl, lw_gm 769 rfl rfl, _, _, rfl, rfl, rfl⟩
set_option maxRecDepth 100000 in
theorem xmc_TV_undo : xmc g_TV_undo := ⟨lw_gm 69 rfl rfl, lw_gm 780 rfl rfl, by decide +kernel, by decide +kernel, by decide +kernel⟩
set_option maxRecDepth 100000 in
theorem xmv_TV_undo : xmv g_TV_undo := ⟨xmc_TV_undo, lw_gm 778 rfl rfl, lw_gm 779 rfl rfl, _, _, rfl, rfl, rfl⟩
set_option maxRecDepth 100000 in
theorem xmc_TV_digest : xmc g_TV_digest := ⟨lw_gm 69 rfl rfl, lw_gm 788 rfl rfl, by decide +kernel, by decide +kernel, by decide +kernel⟩
set_option maxRecDepth 100000 in
theorem xmv_TV_digest : xmv g_TV_digest := ⟨xmc_TV_digest, lw_gm 786 rfl rfl, lw_gm 787 rfl rfl, _, _, rfl, rfl, rfl⟩
set_option maxRecDepth 100000 in
theorem xmc_TV_withStanza : xmc g_TV_withStanza := ⟨lw_gm 69 rfl rfl, lw_gm 799 rfl rfl, by decide +kernel, by decide +kernel, by decide +kernel⟩
set_option maxRecDepth 100000 in
theorem xmv_TV_withStanza : xmv g_TV_withStanza := ⟨xmc_TV_withStanza, lw_gm 798 rfl rfl, lw_gm 21 rfl rfl, _, _, rfl, rfl, rfl⟩
set_option maxRecDepth 100000 in
theorem xmc_TV_withTail : xmc g_TV_withTail := ⟨lw_gm 69 rfl rfl, lw_gm 807 rfl rfl, by decide +kernel, by decide +kernel, by decide +kernel⟩
set_option maxRecDepth 100000 in
theorem xmv_TV_withTail : xmv g_TV_withTail := ⟨xmc_TV_withTail, lw_gm 806 rfl rfl, lw_gm 22 rfl rfl, _, _, rfl, rfl, rfl⟩
set_option maxRecDepth 100000 in
theorem xmc_TV_mixed : xmc g_TV_mixed := ⟨lw_gm 69 rfl rfl, lw_gm 793 rfl rfl, by decide +kernel, by decide +kernel, by decide +kernel⟩
set_option maxRecDepth 100000 in
theorem xms_TV_mixed : xms g_TV_mixed := ⟨xmc_TV_mixed, lw_gm 792 rfl rfl⟩
set_option maxRecDepth 100000 in
theorem xmc_TV_isRegister : xmc g_TV_isRegister := ⟨lw_gm 69 rfl rfl, lw_gm 411 rfl rfl, by decide +kernel, by decide +kernel, by decide +kernel⟩
set_option maxRecDepth 100000 in
theorem xms_TV_isRegister : xms g_TV_isRegister := ⟨xmc_TV_isRegister, lw_gm 410 rfl rfl⟩
set_option maxRecDepth 100000 in
theorem xmc_TV_isSetOfRegisters : xmc g_TV_isSetOfRegisters := ⟨lw_gm 69 rfl rfl, lw_gm 536 rfl rfl, by decide +kernel, by decide +kernel, by decide +kernel⟩
set_option maxRecDepth 100000 in
theorem xms_TV_isSetOfRegisters : xms g_TV_isSetOfRegisters := ⟨xmc_TV_isSetOfRegisters, lw_gm 535 rfl rfl⟩
set_option maxRecDepth 100000 in
theorem xmc_TV_isLine : xmc g_TV_isLine := ⟨lw_gm 69 rfl rfl, lw_gm 340 rfl rfl, by decide +kernel, by decide +kernel, by decide +kernel⟩
set_option maxRecDepth 100000 in
theorem xmv_TV_isLine : xmv g_TV_isLine := ⟨xmc_TV_isLine, lw_gm 339 rfl rfl, lw_gm 0 rfl rfl, _, _, rfl, rfl, rfl⟩
set_option maxRecDepth 100000 in
theorem xmc_TV_isStanza : xmc g_TV_isStanza := ⟨lw_gm 69 rfl rfl, lw_gm 597 rfl rfl, by decide +kernel, by decide +kernel, by decide +kernel⟩
set_option maxRecDepth 100000 in
theorem xmv_TV_isStanza : xmv g_TV_isStanza := ⟨xmc_TV_isStanza, lw_gm 596 rfl rfl, lw_gm 12 rfl rfl, _, _, rfl, rfl, rfl⟩
set_option maxRecDepth 100000 in
theorem xmc_TV_soundsOf : xmc g_TV_soundsOf := ⟨lw_gm 69 rfl rfl, lw_gm 734 rfl rfl, by decide +kernel, by decide +kernel, by decide +kernel⟩
set_option maxRecDepth 100000 in
theorem xmv_TV_soundsOf : xmv g_TV_soundsOf := ⟨xmc_TV_soundsOf, lw_gm 733 rfl rfl, lw_gm 20 rfl rfl, _, _, rfl, rfl, rfl⟩
set_option maxRecDepth 100000 in
theorem xmc_TV_store : xmc g_TV_store := ⟨lw_gm 69 rfl rfl, lw_gm 422 rfl rfl, by decide +kernel, by decide +kernel, by decide +kernel⟩
set_option maxRecDepth 100000 in
theorem xmv_TV_store : xmv g_TV_store := ⟨xmc_TV_store, lw_gm 421 rfl rfl, lw_gm 7 rfl rfl, _, _, rfl, rfl, rfl⟩
set_option maxRecDepth 100000 in
theorem xmc_Mo_init : xmc g_Mo_init := ⟨lw_gm 80 rfl rfl, lw_gm 814 rfl rfl, by decide +kernel, by decide +kernel, by decide +kernel⟩
set_option maxRecDepth 100000 in
theorem xmi_Mo_init : xmi g_Mo_init := ⟨xmc_Mo_init, lw_gm 813 rfl rfl, rfl, rfl⟩
set_option maxRecDepth 100000 in
theorem xmc_Mo_in : xmc g_Mo_in := ⟨lw_gm 80 rfl rfl, lw_gm 881 rfl rfl, by decide +kernel, by decide +kernel, by decide +kernel⟩
set_option maxRecDepth 100000 in
theorem xms_Mo_in : xms g_Mo_in := ⟨xmc_Mo_in, lw_gm 880 rfl rfl⟩
set_option maxRecDepth 100000 in
theorem xmc_Mo_size : xmc g_Mo_size := ⟨lw_gm 80 rfl rfl, lw_gm 889 rfl rfl, by decide +kernel, by decide +kernel, by decide +kernel⟩
set_option maxRecDepth 100000 in
theorem xmv_Mo_size : xmv g_Mo_size := ⟨xmc_Mo_size, lw_gm 888 rfl rfl, lw_gm 25 rfl rfl, _, _, rfl, rfl, rfl⟩
set_option maxRecDepth 100000 in
theorem xmc_Mo_resets : xmc g_Mo_resets := ⟨lw_gm 80 rfl rfl, lw_gm 819 rfl rfl, by decide +kernel, by decide +kernel, by decide +kernel⟩
set_option maxRecDepth 100000 in
theorem xmv_Mo_resets : xmv g_Mo_resets := ⟨xmc_Mo_resets, lw_gm 818 rfl rfl, lw_gm 23 rfl rfl, _, _, rfl, rfl, rfl⟩
set_option maxRecDepth 100000 in
theorem xmc_Mo_records : xmc g_Mo_records := ⟨lw_gm 80 rfl rfl, lw_gm 885 rfl rfl, by decide +kernel, by decide +kernel, by decide +kernel⟩
set_option maxRecDepth 100000 in
theorem xmv_Mo_records : xmv g_Mo_records := ⟨xmc_Mo_records, lw_gm 884 rfl rfl, lw_gm 24 rfl rfl, _, _, rfl, rfl, rfl⟩
set_option maxRecDepth 100000 in
theorem xmc_Mo_empties : xmc g_Mo_empties := ⟨lw_gm 80 rfl rfl, lw_gm 893 rfl rfl, by decide +kernel, by decide +kernel, by decide +kernel⟩
set_option maxRecDepth 100000 in
theorem xmv_Mo_empties : xmv g_Mo_empties := ⟨xmc_Mo_empties, lw_gm 892 rfl rfl, lw_gm 26 rfl rfl, _, _, rfl, rfl, rfl⟩
set_option maxRecDepth 100000 in
theorem xmc_Mo_setWords : xmc g_Mo_setWords := ⟨lw_gm 80 rfl rfl, lw_gm 878 rfl rfl, by decide +kernel, by decide +kernel, by decide +kernel⟩
set_option maxRecDepth 100000 in
theorem xmv_Mo_setWords : xmv g_Mo_setWords := ⟨xmc_Mo_setWords, lw_gm 876 rfl rfl, lw_gm 877 rfl rfl, _, _, rfl, rfl, rfl⟩
set_option maxRecDepth 100000 in
theorem xmc_Mo_isLine : xmc g_Mo_isLine := ⟨lw_gm 80 rfl rfl, lw_gm 901 rfl rfl, by decide +kernel, by decide +kernel, by decide +kernel⟩
set_option maxRecDepth 100000 in
theorem xmv_Mo_isLine : xmv g_Mo_isLine := ⟨xmc_Mo_isLine, lw_gm 900 rfl rfl, lw_gm 27 rfl rfl, _, _, rfl, rfl, rfl⟩
set_option maxRecDepth 100000 in
theorem xmc_Mo_setSound : xmc g_Mo_setSound := ⟨lw_gm 80 rfl rfl, lw_gm 897 rfl rfl, by decide +kernel, by decide +kernel, by decide +kernel⟩
set_option maxRecDepth 100000 in
theorem xmv_Mo_setSound : xmv g_Mo_setSound := ⟨xmc_Mo_setSound, lw_gm 895 rfl rfl, lw_gm 896 rfl rfl, _, _, rfl, rfl, rfl⟩
set_option maxRecDepth 100000 in
theorem xmc_Mo_isRegister : xmc g_Mo_isRegister := ⟨lw_gm 80 rfl rfl, lw_gm 908 rfl rfl, by decide +kernel, by decide +kernel, by decide +kernel⟩
set_option maxRecDepth 100000 in
theorem xms_Mo_isRegister : xms g_Mo_isRegister := ⟨xmc_Mo_isRegister, lw_gm 907 rfl rfl⟩
set_option maxRecDepth 100000 in
theorem xmc_Mo_takes : xmc g_Mo_takes := ⟨lw_gm 80 rfl rfl, lw_gm 928 rfl rfl, by decide +kernel, by decide +kernel, by decide +kernel⟩
set_option maxRecDepth 100000 in
theorem xmv_Mo_takes : xmv g_Mo_takes := ⟨xmc_Mo_takes, lw_gm 927 rfl rfl, lw_gm 31 rfl rfl, _, _, rfl, rfl, rfl⟩
set_option maxRecDepth 100000 in
theorem xmc_Mo_puts : xmc g_Mo_puts := ⟨lw_gm 80 rfl rfl, lw_gm 916 rfl rfl, by decide +kernel, by decide +kernel, by decide +kernel⟩
set_option maxRecDepth 100000 in
theorem xmv_Mo_puts : xmv g_Mo_puts := ⟨xmc_Mo_puts, lw_gm 915 rfl rfl, lw_gm 29 rfl rfl, _, _, rfl, rfl, rfl⟩
set_option maxRecDepth 100000 in
theorem xmc_Mo_factorial : xmc g_Mo_factorial := ⟨lw_gm 80 rfl rfl, lw_gm 958 rfl rfl, by decide +kernel, by decide +kernel, by decide +kernel⟩
set_option maxRecDepth 100000 in
theorem xmv_Mo_factorial : xmv g_Mo_factorial := ⟨xmc_Mo_factorial, lw_gm 957 rfl rfl, lw_gm 36 rfl rfl, _, _, rfl, rfl, rfl⟩
set_option maxRecDepth 100000 in
theorem xmc_Mo_rank : xmc g_Mo_rank := ⟨lw_gm 80 rfl rfl, lw_gm 920 rfl rfl, by decide +kernel, by decide +kernel, by decide +kernel⟩
set_option maxRecDepth 100000 in
theorem xmv_Mo_rank : xmv g_Mo_rank := ⟨xmc_Mo_rank, lw_gm 919 rfl rfl, lw_gm 30 rfl rfl, _, _, rfl, rfl, rfl⟩
set_option maxRecDepth 100000 in
theorem xmc_Mo_unranks : xmc g_Mo_unranks := ⟨lw_gm 80 rfl rfl, lw_gm 962 rfl rfl, by decide +kernel, by decide +kernel, by decide +kernel⟩
set_option maxRecDepth 100000 in
theorem xmv_Mo_unranks : xmv g_Mo_unranks := ⟨xmc_Mo_unranks, lw_gm 961 rfl rfl, lw_gm 37 rfl rfl, _, _, rfl, rfl, rfl⟩
set_option maxRecDepth 100000 in
theorem xmc_Mo_multiplies : xmc g_Mo_multiplies := ⟨lw_gm 80 rfl rfl, lw_gm 932 rfl rfl, by decide +kernel, by decide +kernel, by decide +kernel⟩
set_option maxRecDepth 100000 in
theorem xmv_Mo_multiplies : xmv g_Mo_multiplies := ⟨xmc_Mo_multiplies, lw_gm 931 rfl rfl, lw_gm 32 rfl rfl, _, _, rfl, rfl, rfl⟩
set_option maxRecDepth 100000 in
theorem xmc_Mo_identity : xmc g_Mo_identity := ⟨lw_gm 80 rfl rfl, lw_gm 912 rfl rfl, by decide +kernel, by decide +kernel, by decide +kernel⟩
set_option maxRecDepth 100000 in
theorem xmv_Mo_identity : xmv g_Mo_identity := ⟨xmc_Mo_identity, lw_gm 911 rfl rfl, lw_gm 28 rfl rfl, _, _, rfl, rfl, rfl⟩
set_option maxRecDepth 100000 in
theorem xmc_Mo_cycleOf : xmc g_Mo_cycleOf := ⟨lw_gm 80 rfl rfl, lw_gm 946 rfl rfl, by decide +kernel, by decide +kernel, by decide +kernel⟩
set_option maxRecDepth 100000 in
theorem xmv_Mo_cycleOf : xmv g_Mo_cycleOf := ⟨xmc_Mo_cycleOf, lw_gm 945 rfl rfl, lw_gm 34 rfl rfl, _, _, rfl, rfl, rfl⟩
set_option maxRecDepth 100000 in
theorem xmc_Mo_isFirst : xmc g_Mo_isFirst := ⟨lw_gm 80 rfl rfl, lw_gm 986 rfl rfl, by decide +kernel, by decide +kernel, by decide +kernel⟩
set_option maxRecDepth 100000 in
theorem xmv_Mo_isFirst : xmv g_Mo_isFirst := ⟨xmc_Mo_isFirst, lw_gm 985 rfl rfl, lw_gm 40 rfl rfl, _, _, rfl, rfl, rfl⟩
set_option maxRecDepth 100000 in
theorem xmc_Mo_orderOf : xmc g_Mo_orderOf := ⟨lw_gm 80 rfl rfl, lw_gm 942 rfl rfl, by decide +kernel, by decide +kernel, by decide +kernel⟩
set_option maxRecDepth 100000 in
theorem xmv_Mo_orderOf : xmv g_Mo_orderOf := ⟨xmc_Mo_orderOf, lw_gm 941 rfl rfl, lw_gm 33 rfl rfl, _, _, rfl, rfl, rfl⟩
set_option maxRecDepth 100000 in
theorem xmc_Mo_raises : xmc g_Mo_raises := ⟨lw_gm 80 rfl rfl, lw_gm 950 rfl rfl, by decide +kernel, by decide +kernel, by decide +kernel⟩
set_option maxRecDepth 100000 in
theorem xmv_Mo_raises : xmv g_Mo_raises := ⟨xmc_Mo_raises, lw_gm 949 rfl rfl, lw_gm 35 rfl rfl, _, _, rfl, rfl, rfl⟩
set_option maxRecDepth 100000 in
theorem xmc_Mo_isSame : xmc g_Mo_isSame := ⟨lw_gm 80 rfl rfl, lw_gm 970 rfl rfl, by decide +kernel, by decide +kernel, by decide +kernel⟩
set_option maxRecDepth 100000 in
theorem xmv_Mo_isSame : xmv g_Mo_isSame := ⟨xmc_Mo_isSame, lw_gm 969 rfl rfl, lw_gm 38 rfl rfl, _, _, rfl, rfl, rfl⟩
set_option maxRecDepth 100000 in
theorem xmc_Mo_make : xmc g_Mo_make := ⟨lw_gm 80 rfl rfl, lw_gm 905 rfl rfl, by decide +kernel, by decide +kernel, by decide +kernel⟩
set_option maxRecDepth 100000 in
theorem xmv_Mo_make : xmv g_Mo_make := ⟨xmc_Mo_make, lw_gm 903 rfl rfl, lw_gm 904 rfl rfl, _, _, rfl, rfl, rfl⟩
set_option maxRecDepth 100000 in
theorem xmc_Mo_product : xmc g_Mo_product := ⟨lw_gm 80 rfl rfl, lw_gm 924 rfl rfl, by decide +kernel, by decide +kernel, by decide +kernel⟩
set_option maxRecDepth 100000 in
theorem xmv_Mo_product : xmv g_Mo_product := ⟨xmc_Mo_product, lw_gm 922 rfl rfl, lw_gm 923 rfl rfl, _, _, rfl, rfl, rfl⟩
set_option maxRecDepth 100000 in
theorem xmc_Mo_power : xmc g_Mo_power := ⟨lw_gm 80 rfl rfl, lw_gm 936 rfl rfl, by decide +kernel, by decide +kernel, by decide +kernel⟩
set_option maxRecDepth 100000 in
theorem xmv_Mo_power : xmv g_Mo_power := ⟨xmc_Mo_power, lw_gm 934 rfl rfl, lw_gm 935 rfl rfl, _, _, rfl, rfl, rfl⟩
set_option maxRecDepth 100000 in
theorem xmc_Mo_unrank : xmc g_Mo_unrank := ⟨lw_gm 80 rfl rfl, lw_gm 954 rfl rfl, by decide +kernel, by decide +kernel, by decide +kernel⟩
set_option maxRecDepth 100000 in
theorem xmv_Mo_unrank : xmv g_Mo_unrank := ⟨xmc_Mo_unrank, lw_gm 952 rfl rfl, lw_gm 953 rfl rfl, _, _, rfl, rfl, rfl⟩
set_option maxRecDepth 100000 in
theorem xmc_Mo_root : xmc g_Mo_root := ⟨lw_gm 80 rfl rfl, lw_gm 966 rfl rfl, by decide +kernel, by decide +kernel, by decide +kernel⟩
set_option maxRecDepth 100000 in
theorem xmv_Mo_root : xmv g_Mo_root := ⟨xmc_Mo_root, lw_gm 964 rfl rfl, lw_gm 965 rfl rfl, _, _, rfl, rfl, rfl⟩
set_option maxRecDepth 100000 in
theorem xmc_Mo_at : xmc g_Mo_at := ⟨lw_gm 80 rfl rfl, lw_gm 974 rfl rfl, by decide +kernel, by decide +kernel, by decide +kernel⟩
set_option maxRecDepth 100000 in
theorem xmv_Mo_at : xmv g_Mo_at := ⟨xmc_Mo_at, lw_gm 972 rfl rfl, lw_gm 973 rfl rfl, _, _, rfl, rfl, rfl⟩
set_option maxRecDepth 100000 in
theorem xmc_Mo_turnOf : xmc g_Mo_turnOf := ⟨lw_gm 80 rfl rfl, lw_gm 982 rfl rfl, by decide +kernel, by decide +kernel, by decide +kernel⟩
set_option maxRecDepth 100000 in
theorem xmv_Mo_turnOf : xmv g_Mo_turnOf := ⟨xmc_Mo_turnOf, lw_gm 981 rfl rfl, lw_gm 39 rfl rfl, _, _, rfl, rfl, rfl⟩
set_option maxRecDepth 100000 in
theorem xmc_Mo_turn : xmc g_Mo_turn := ⟨lw_gm 80 rfl rfl, lw_gm 978 rfl rfl, by decide +kernel, by decide +kernel, by decide +kernel⟩
set_option maxRecDepth 100000 in
theorem xmv_Mo_turn : xmv g_Mo_turn := ⟨xmc_Mo_turn, lw_gm 976 rfl rfl, lw_gm 977 rfl rfl, _, _, rfl, rfl, rfl⟩
set_option maxRecDepth 100000 in
theorem xmc_Mo_places : xmc g_Mo_places := ⟨lw_gm 80 rfl rfl, lw_gm 990 rfl rfl, by decide +kernel, by decide +kernel, by decide +kernel⟩
set_option maxRecDepth 100000 in
theorem xmv_Mo_places : xmv g_Mo_places := ⟨xmc_Mo_places, lw_gm 988 rfl rfl, lw_gm 989 rfl rfl, _, _, rfl, rfl, rfl⟩
set_option maxRecDepth 100000 in
theorem xmc_Mo_walks : xmc g_Mo_walks := ⟨lw_gm 80 rfl rfl, lw_gm 1001 rfl rfl, by decide +kernel, by decide +kernel, by decide +kernel⟩
set_option maxRecDepth 100000 in
theorem xmv_Mo_walks : xmv g_Mo_walks := ⟨xmc_Mo_walks, lw_gm 1000 rfl rfl, lw_gm 41 rfl rfl, _, _, rfl, rfl, rfl⟩
set_option maxRecDepth 100000 in
theorem xmc_Mo_isSet : xmc g_Mo_isSet := ⟨lw_gm 80 rfl rfl, lw_gm 997 rfl rfl, by decide +kernel, by decide +kernel, by decide +kernel⟩
set_option maxRecDepth 100000 in
theorem xms_Mo_isSet : xms g_Mo_isSet := ⟨xmc_Mo_isSet, lw_gm 996 rfl rfl⟩
set_option maxRecDepth 100000 in
theorem xmc_Mo_generated : xmc g_Mo_generated := ⟨lw_gm 80 rfl rfl, lw_gm 994 rfl rfl, by decide +kernel, by decide +kernel, by decide +kernel⟩
set_option maxRecDepth 100000 in
theorem xmv_Mo_generated : xmv g_Mo_generated := ⟨xmc_Mo_generated, lw_gm 992 rfl rfl, lw_gm 993 rfl rfl, _, _, rfl, rfl, rfl⟩
set_option maxRecDepth 100000 in
theorem xmc_Mo_reach : xmc g_Mo_reach := ⟨lw_gm 80 rfl rfl, lw_gm 1005 rfl rfl, by decide +kernel, by decide +kernel, by decide +kernel⟩
set_option maxRecDepth 100000 in
theorem xmv_Mo_reach : xmv g_Mo_reach := ⟨xmc_Mo_reach, lw_gm 1003 rfl rfl, lw_gm 1004 rfl rfl, _, _, rfl, rfl, rfl⟩
set_option maxRecDepth 100000 in
theorem xmc_Mo_rests : xmc g_Mo_rests := ⟨lw_gm 80 rfl rfl, lw_gm 1013 rfl rfl, by decide +kernel, by decide +kernel, by decide +kernel⟩
set_option maxRecDepth 100000 in
theorem xmv_Mo_rests : xmv g_Mo_rests := ⟨xmc_Mo_rests, lw_gm 1012 rfl rfl, lw_gm 42 rfl rfl, _, _, rfl, rfl, rfl⟩
set_option maxRecDepth 100000 in
theorem xmc_Mo_factor : xmc g_Mo_factor := ⟨lw_gm 80 rfl rfl, lw_gm 1009 rfl rfl, by decide +kernel, by decide +kernel, by decide +kernel⟩
set_option maxRecDepth 100000 in
theorem xmv_Mo_factor : xmv g_Mo_factor := ⟨xmc_Mo_factor, lw_gm 1007 rfl rfl, lw_gm 1008 rfl rfl, _, _, rfl, rfl, rfl⟩
set_option maxRecDepth 100000 in
theorem xmc_Mo_type : xmc g_Mo_type := ⟨lw_gm 80 rfl rfl, lw_gm 1017 rfl rfl, by decide +kernel, by decide +kernel, by decide +kernel⟩
set_option maxRecDepth 100000 in
theorem xmv_Mo_type : xmv g_Mo_type := ⟨xmc_Mo_type, lw_gm 1015 rfl rfl, lw_gm 1016 rfl rfl, _, _, rfl, rfl, rfl⟩
set_option maxRecDepth 100000 in
theorem xmc_Mo_clear : xmc g_Mo_clear := ⟨lw_gm 80 rfl rfl, lw_gm 1021 rfl rfl, by decide +kernel, by decide +kernel, by decide +kernel⟩
set_option maxRecDepth 100000 in
theorem xmv_Mo_clear : xmv g_Mo_clear := ⟨xmc_Mo_clear, lw_gm 1019 rfl rfl, lw_gm 1020 rfl rfl, _, _, rfl, rfl, rfl⟩
set_option maxRecDepth 100000 in
theorem xmc_Mo_byteAt : xmc g_Mo_byteAt := ⟨lw_gm 80 rfl rfl, lw_gm 1041 rfl rfl, by decide +kernel, by decide +kernel, by decide +kernel⟩
set_option maxRecDepth 100000 in
theorem xmv_Mo_byteAt : xmv g_Mo_byteAt := ⟨xmc_Mo_byteAt, lw_gm 1040 rfl rfl, lw_gm 46 rfl rfl, _, _, rfl, rfl, rfl⟩
set_option maxRecDepth 100000 in
theorem xmc_Mo_isLetter : xmc g_Mo_isLetter := ⟨lw_gm 80 rfl rfl, lw_gm 1037 rfl rfl, by decide +kernel, by decide +kernel, by decide +kernel⟩
set_option maxRecDepth 100000 in
theorem xmv_Mo_isLetter : xmv g_Mo_isLetter := ⟨xmc_Mo_isLetter, lw_gm 1036 rfl rfl, lw_gm 45 rfl rfl, _, _, rfl, rfl, rfl⟩
set_option maxRecDepth 100000 in
theorem xmc_Mo_readsFirst : xmc g_Mo_readsFirst := ⟨lw_gm 80 rfl rfl, lw_gm 1033 rfl rfl, by decide +kernel, by decide +kernel, by decide +kernel⟩
set_option maxRecDepth 100000 in
theorem xmv_Mo_readsFirst : xmv g_Mo_readsFirst := ⟨xmc_Mo_readsFirst, lw_gm 1032 rfl rfl, lw_gm 44 rfl rfl, _, _, rfl, rfl, rfl⟩
set_option maxRecDepth 100000 in
theorem xmc_Mo_readsStanza : xmc g_Mo_readsStanza := ⟨lw_gm 80 rfl rfl, lw_gm 1045 rfl rfl, by decide +kernel, by decide +kernel, by decide +kernel⟩
set_option maxRecDepth 100000 in
theorem xmv_Mo_readsStanza : xmv g_Mo_readsStanza := ⟨xmc_Mo_readsStanza, lw_gm 1044 rfl rfl, lw_gm 47 rfl rfl, _, _, rfl, rfl, rfl⟩
set_option maxRecDepth 100000 in
theorem xmc_Mo_readsTail : xmc g_Mo_readsTail := ⟨lw_gm 80 rfl rfl, lw_gm 1049 rfl rfl, by decide +kernel, by decide +kernel, by decide +kernel⟩
set_option maxRecDepth 100000 in
theorem xmv_Mo_readsTail : xmv g_Mo_readsTail := ⟨xmc_Mo_readsTail, lw_gm 1048 rfl rfl, lw_gm 48 rfl rfl, _, _, rfl, rfl, rfl⟩
set_option maxRecDepth 100000 in
theorem xmc_Mo_reads : xmc g_Mo_reads := ⟨lw_gm 80 rfl rfl, lw_gm 1029 rfl rfl, by decide +kernel, by decide +kernel, by decide +kernel⟩
set_option maxRecDepth 100000 in
theorem xmv_Mo_reads : xmv g_Mo_reads := ⟨xmc_Mo_reads, lw_gm 1028 rfl rfl, lw_gm 43 rfl rfl, _, _, rfl, rfl, rfl⟩
set_option maxRecDepth 100000 in
theorem xmc_Mo_loadPoem : xmc g_Mo_loadPoem := ⟨lw_gm 80 rfl rfl, lw_gm 1025 rfl rfl, by decide +kernel, by decide +kernel, by decide +kernel⟩
set_option maxRecDepth 100000 in
theorem xmv_Mo_loadPoem : xmv g_Mo_loadPoem := ⟨xmc_Mo_loadPoem, lw_gm 1023 rfl rfl, lw_gm 1024 rfl rfl, _, _, rfl, rfl, rfl⟩
set_option maxRecDepth 100000 in
theorem xmc_Mo_readsTurn : xmc g_Mo_readsTurn := ⟨lw_gm 80 rfl rfl, lw_gm 1057 rfl rfl, by decide +kernel, by decide +kernel, by decide +kernel⟩
set_option maxRecDepth 100000 in
theorem xmv_Mo_readsTurn : xmv g_Mo_readsTurn := ⟨xmc_Mo_readsTurn, lw_gm 1056 rfl rfl, lw_gm 49 rfl rfl, _, _, rfl, rfl, rfl⟩
set_option maxRecDepth 100000 in
theorem xmc_Mo_loadTurn : xmc g_Mo_loadTurn := ⟨lw_gm 80 rfl rfl, lw_gm 1053 rfl rfl, by decide +kernel, by decide +kernel, by decide +kernel⟩
set_option maxRecDepth 100000 in
theorem xmv_Mo_loadTurn : xmv g_Mo_loadTurn := ⟨xmc_Mo_loadTurn, lw_gm 1051 rfl rfl, lw_gm 1052 rfl rfl, _, _, rfl, rfl, rfl⟩
set_option maxRecDepth 100000 in
theorem xmc_Mo_isStanza : xmc g_Mo_isStanza := ⟨lw_gm 80 rfl rfl, lw_gm 1077 rfl rfl, by decide +kernel, by decide +kernel, by decide +kernel⟩
set_option maxRecDepth 100000 in
theorem xmv_Mo_isStanza : xmv g_Mo_isStanza := ⟨xmc_Mo_isStanza, lw_gm 1076 rfl rfl, lw_gm 51 rfl rfl, _, _, rfl, rfl, rfl⟩
set_option maxRecDepth 100000 in
theorem xmc_Mo_placeOf : xmc g_Mo_placeOf := ⟨lw_gm 80 rfl rfl, lw_gm 1065 rfl rfl, by decide +kernel, by decide +kernel, by decide +kernel⟩
set_option maxRecDepth 100000 in
theorem xmv_Mo_placeOf : xmv g_Mo_placeOf := ⟨xmc_Mo_placeOf, lw_gm 1064 rfl rfl, lw_gm 50 rfl rfl, _, _, rfl, rfl, rfl⟩
set_option maxRecDepth 100000 in
theorem xmc_Mo_add : xmc g_Mo_add := ⟨lw_gm 80 rfl rfl, lw_gm 1061 rfl rfl, by decide +kernel, by decide +kernel, by decide +kernel⟩
set_option maxRecDepth 100000 in
theorem xmv_Mo_add : xmv g_Mo_add := ⟨xmc_Mo_add, lw_gm 1059 rfl rfl, lw_gm 1060 rfl rfl, _, _, rfl, rfl, rfl⟩
set_option maxRecDepth 100000 in
theorem xmc_Mo_drop : xmc g_Mo_drop := ⟨lw_gm 80 rfl rfl, lw_gm 1069 rfl rfl, by decide +kernel, by decide +kernel, by decide +kernel⟩
set_option maxRecDepth 100000 in
theorem xmv_Mo_drop : xmv g_Mo_drop := ⟨xmc_Mo_drop, lw_gm 1067 rfl rfl, lw_gm 1068 rfl rfl, _, _, rfl, rfl, rfl⟩
set_option maxRecDepth 100000 in
theorem xmc_Mo_put : xmc g_Mo_put := ⟨lw_gm 80 rfl rfl, lw_gm 1073 rfl rfl, by decide +kernel, by decide +kernel, by decide +kernel⟩
set_option maxRecDepth 100000 in
theorem xmv_Mo_put : xmv g_Mo_put := ⟨xmc_Mo_put, lw_gm 1071 rfl rfl, lw_gm 1072 rfl rfl, _, _, rfl, rfl, rfl⟩
set_option maxRecDepth 100000 in
theorem xmc_Mo_lock : xmc g_Mo_lock := ⟨lw_gm 80 rfl rfl, lw_gm 1081 rfl rfl, by decide +kernel, by decide +kernel, by decide +kernel⟩
set_option maxRecDepth 100000 in
theorem xmv_Mo_lock : xmv g_Mo_lock := ⟨xmc_Mo_lock, lw_gm 1079 rfl rfl, lw_gm 1080 rfl rfl, _, _, rfl, rfl, rfl⟩
set_option maxRecDepth 100000 in
theorem xmc_Mo_word : xmc g_Mo_word := ⟨lw_gm 80 rfl rfl, lw_gm 1085 rfl rfl, by decide +kernel, by decide +kernel, by decide +kernel⟩
set_option maxRecDepth 100000 in
theorem xmv_Mo_word : xmv g_Mo_word := ⟨xmc_Mo_word, lw_gm 1083 rfl rfl, lw_gm 1084 rfl rfl, _, _, rfl, rfl, rfl⟩
set_option maxRecDepth 100000 in
theorem xmc_Mo_isProper : xmc g_Mo_isProper := ⟨lw_gm 80 rfl rfl, lw_gm 1093 rfl rfl, by decide +kernel, by decide +kernel, by decide +kernel⟩
set_option maxRecDepth 100000 in
theorem xmv_Mo_isProper : xmv g_Mo_isProper := ⟨xmc_Mo_isProper, lw_gm 1092 rfl rfl, lw_gm 52 rfl rfl, _, _, rfl, rfl, rfl⟩
set_option maxRecDepth 100000 in
theorem xmc_Mo_proper : xmc g_Mo_proper := ⟨lw_gm 80 rfl rfl, lw_gm 1089 rfl rfl, by decide +kernel, by decide +kernel, by decide +kernel⟩
set_option maxRecDepth 100000 in
theorem xmv_Mo_proper : xmv g_Mo_proper := ⟨xmc_Mo_proper, lw_gm 1087 rfl rfl, lw_gm 1088 rfl rfl, _, _, rfl, rfl, rfl⟩
set_option maxRecDepth 100000 in
theorem xmc_Mo_turns : xmc g_Mo_turns := ⟨lw_gm 80 rfl rfl, lw_gm 1105 rfl rfl, by decide +kernel, by decide +kernel, by decide +kernel⟩
set_option maxRecDepth 100000 in
theorem xmv_Mo_turns : xmv g_Mo_turns := ⟨xmc_Mo_turns, lw_gm 1104 rfl rfl, lw_gm 54 rfl rfl, _, _, rfl, rfl, rfl⟩
set_option maxRecDepth 100000 in
theorem xmc_Mo_turningOf : xmc g_Mo_turningOf := ⟨lw_gm 80 rfl rfl, lw_gm 1101 rfl rfl, by decide +kernel, by decide +kernel, by decide +kernel⟩
set_option maxRecDepth 100000 in
theorem xmv_Mo_turningOf : xmv g_Mo_turningOf := ⟨xmc_Mo_turningOf, lw_gm 1100 rfl rfl, lw_gm 53 rfl rfl, _, _, rfl, rfl, rfl⟩
set_option maxRecDepth 100000 in
theorem xmc_Mo_turning : xmc g_Mo_turning := ⟨lw_gm 80 rfl rfl, lw_gm 1097 rfl rfl, by decide +kernel, by decide +kernel, by decide +kernel⟩
set_option maxRecDepth 100000 in
theorem xmv_Mo_turning : xmv g_Mo_turning := ⟨xmc_Mo_turning, lw_gm 1095 rfl rfl, lw_gm 1096 rfl rfl, _, _, rfl, rfl, rfl⟩
set_option maxRecDepth 100000 in
theorem xmc_Mo_followed : xmc g_Mo_followed := ⟨lw_gm 80 rfl rfl, lw_gm 1113 rfl rfl, by decide +kernel, by decide +kernel, by decide +kernel⟩
set_option maxRecDepth 100000 in
theorem xmv_Mo_followed : xmv g_Mo_followed := ⟨xmc_Mo_followed, lw_gm 1112 rfl rfl, lw_gm 55 rfl rfl, _, _, rfl, rfl, rfl⟩
set_option maxRecDepth 100000 in
theorem xmc_Mo_common : xmc g_Mo_common := ⟨lw_gm 80 rfl rfl, lw_gm 1109 rfl rfl, by decide +kernel, by decide +kernel, by decide +kernel⟩
set_option maxRecDepth 100000 in
theorem xmv_Mo_common : xmv g_Mo_common := ⟨xmc_Mo_common, lw_gm 1107 rfl rfl, lw_gm 1108 rfl rfl, _, _, rfl, rfl, rfl⟩
set_option maxRecDepth 100000 in
theorem xmc_Mo_isFollowed : xmc g_Mo_isFollowed := ⟨lw_gm 80 rfl rfl, lw_gm 1121 rfl rfl, by decide +kernel, by decide +kernel, by decide +kernel⟩
set_option maxRecDepth 100000 in
theorem xmv_Mo_isFollowed : xmv g_Mo_isFollowed := ⟨xmc_Mo_isFollowed, lw_gm 1120 rfl rfl, lw_gm 56 rfl rfl, _, _, rfl, rfl, rfl⟩
set_option maxRecDepth 100000 in
theorem xmc_Mo_follows : xmc g_Mo_follows := ⟨lw_gm 80 rfl rfl, lw_gm 1117 rfl rfl, by decide +kernel, by decide +kernel, by decide +kernel⟩
set_option maxRecDepth 100000 in
theorem xmv_Mo_follows : xmv g_Mo_follows := ⟨xmc_Mo_follows, lw_gm 1115 rfl rfl, lw_gm 1116 rfl rfl, _, _, rfl, rfl, rfl⟩
set_option maxRecDepth 100000 in
theorem xmc_Mo_costOf : xmc g_Mo_costOf := ⟨lw_gm 80 rfl rfl, lw_gm 1133 rfl rfl, by decide +kernel, by decide +kernel, by decide +kernel⟩
set_option maxRecDepth 100000 in
theorem xmv_Mo_costOf : xmv g_Mo_costOf := ⟨xmc_Mo_costOf, lw_gm 1132 rfl rfl, lw_gm 58 rfl rfl, _, _, rfl, rfl, rfl⟩
set_option maxRecDepth 100000 in
theorem xmc_Mo_wrong : xmc g_Mo_wrong := ⟨lw_gm 80 rfl rfl, lw_gm 1129 rfl rfl, by decide +kernel, by decide +kernel, by decide +kernel⟩
set_option maxRecDepth 100000 in
theorem xmv_Mo_wrong : xmv g_Mo_wrong := ⟨xmc_Mo_wrong, lw_gm 1128 rfl rfl, lw_gm 57 rfl rfl, _, _, rfl, rfl, rfl⟩
set_option maxRecDepth 100000 in
theorem xmc_Mo_cost : xmc g_Mo_cost := ⟨lw_gm 80 rfl rfl, lw_gm 1125 rfl rfl, by decide +kernel, by decide +kernel, by decide +kernel⟩
set_option maxRecDepth 100000 in
theorem xmv_Mo_cost : xmv g_Mo_cost := ⟨xmc_Mo_cost, lw_gm 1123 rfl rfl, lw_gm 1124 rfl rfl, _, _, rfl, rfl, rfl⟩
set_option maxRecDepth 100000 in
theorem xmc_Mo_mend : xmc g_Mo_mend := ⟨lw_gm 80 rfl rfl, lw_gm 1137 rfl rfl, by decide +kernel, by decide +kernel, by decide +kernel⟩
set_option maxRecDepth 100000 in
theorem xmv_Mo_mend : xmv g_Mo_mend := ⟨xmc_Mo_mend, lw_gm 1135 rfl rfl, lw_gm 1136 rfl rfl, _, _, rfl, rfl, rfl⟩
set_option maxRecDepth 100000 in
theorem xmc_Mo_best : xmc g_Mo_best := ⟨lw_gm 80 rfl rfl, lw_gm 1141 rfl rfl, by decide +kernel, by decide +kernel, by decide +kernel⟩
set_option maxRecDepth 100000 in
theorem xmv_Mo_best : xmv g_Mo_best := ⟨xmc_Mo_best, lw_gm 1139 rfl rfl, lw_gm 1140 rfl rfl, _, _, rfl, rfl, rfl⟩
set_option maxRecDepth 100000 in
theorem xmc_Mo_tailWords : xmc g_Mo_tailWords := ⟨lw_gm 80 rfl rfl, lw_gm 1153 rfl rfl, by decide +kernel, by decide +kernel, by decide +kernel⟩
set_option maxRecDepth 100000 in
theorem xmv_Mo_tailWords : xmv g_Mo_tailWords := ⟨xmc_Mo_tailWords, lw_gm 1152 rfl rfl, lw_gm 60 rfl rfl, _, _, rfl, rfl, rfl⟩
set_option maxRecDepth 100000 in
theorem xmc_Mo_missing : xmc g_Mo_missing := ⟨lw_gm 80 rfl rfl, lw_gm 1149 rfl rfl, by decide +kernel, by decide +kernel, by decide +kernel⟩
set_option maxRecDepth 100000 in
theorem xmv_Mo_missing : xmv g_Mo_missing := ⟨xmc_Mo_missing, lw_gm 1148 rfl rfl, lw_gm 59 rfl rfl, _, _, rfl, rfl, rfl⟩
set_option maxRecDepth 100000 in
theorem xmc_Mo_tail : xmc g_Mo_tail := ⟨lw_gm 80 rfl rfl, lw_gm 1145 rfl rfl, by decide +kernel, by decide +kernel, by decide +kernel⟩
set_option maxRecDepth 100000 in
theorem xmv_Mo_tail : xmv g_Mo_tail := ⟨xmc_Mo_tail, lw_gm 1143 rfl rfl, lw_gm 1144 rfl rfl, _, _, rfl, rfl, rfl⟩
set_option maxRecDepth 100000 in
theorem xmc_Mo_tailWord : xmc g_Mo_tailWord := ⟨lw_gm 80 rfl rfl, lw_gm 1157 rfl rfl, by decide +kernel, by decide +kernel, by decide +kernel⟩
set_option maxRecDepth 100000 in
theorem xmv_Mo_tailWord : xmv g_Mo_tailWord := ⟨xmc_Mo_tailWord, lw_gm 1155 rfl rfl, lw_gm 1156 rfl rfl, _, _, rfl, rfl, rfl⟩
set_option maxRecDepth 100000 in
theorem xmc_Mo_takesVerse : xmc g_Mo_takesVerse := ⟨lw_gm 80 rfl rfl, lw_gm 1165 rfl rfl, by decide +kernel, by decide +kernel, by decide +kernel⟩
set_option maxRecDepth 100000 in
theorem xmv_Mo_takesVerse : xmv g_Mo_takesVerse := ⟨xmc_Mo_takesVerse, lw_gm 1164 rfl rfl, lw_gm 61 rfl rfl, _, _, rfl, rfl, rfl⟩
set_option maxRecDepth 100000 in
theorem xmc_Mo_soundAt : xmc g_Mo_soundAt := ⟨lw_gm 80 rfl rfl, lw_gm 1173 rfl rfl, by decide +kernel, by decide +kernel, by decide +kernel⟩
set_option maxRecDepth 100000 in
theorem xmv_Mo_soundAt : xmv g_Mo_soundAt := ⟨xmc_Mo_soundAt, lw_gm 1172 rfl rfl, lw_gm 63 rfl rfl, _, _, rfl, rfl, rfl⟩
set_option maxRecDepth 100000 in
theorem xmc_Mo_schemeOfVerse : xmc g_Mo_schemeOfVerse := ⟨lw_gm 80 rfl rfl, lw_gm 1169 rfl rfl, by decide +kernel, by decide +kernel, by decide +kernel⟩
set_option maxRecDepth 100000 in
theorem xmv_Mo_schemeOfVerse : xmv g_Mo_schemeOfVerse := ⟨xmc_Mo_schemeOfVerse, lw_gm 1168 rfl rfl, lw_gm 62 rfl rfl, _, _, rfl, rfl, rfl⟩
set_option maxRecDepth 100000 in
theorem xmc_Mo_scheme : xmc g_Mo_scheme := ⟨lw_gm 80 rfl rfl, lw_gm 1161 rfl rfl, by decide +kernel, by decide +kernel, by decide +kernel⟩
set_option maxRecDepth 100000 in
theorem xmv_Mo_scheme : xmv g_Mo_scheme := ⟨xmc_Mo_scheme, lw_gm 1159 rfl rfl, lw_gm 1160 rfl rfl, _, _, rfl, rfl, rfl⟩
set_option maxRecDepth 100000 in
theorem xmc_Mo_schemes : xmc g_Mo_schemes := ⟨lw_gm 80 rfl rfl, lw_gm 1177 rfl rfl, by decide +kernel, by decide +kernel, by decide +kernel⟩
set_option maxRecDepth 100000 in
theorem xmv_Mo_schemes : xmv g_Mo_schemes := ⟨xmc_Mo_schemes, lw_gm 1175 rfl rfl, lw_gm 1176 rfl rfl, _, _, rfl, rfl, rfl⟩
set_option maxRecDepth 100000 in
theorem xmc_Mo_coupled : xmc g_Mo_coupled := ⟨lw_gm 80 rfl rfl, lw_gm 1181 rfl rfl, by decide +kernel, by decide +kernel, by decide +kernel⟩
set_option maxRecDepth 100000 in
theorem xmv_Mo_coupled : xmv g_Mo_coupled := ⟨xmc_Mo_coupled, lw_gm 1179 rfl rfl, lw_gm 1180 rfl rfl, _, _, rfl, rfl, rfl⟩
set_option maxRecDepth 100000 in
theorem xmc_Mo_locked : xmc g_Mo_locked := ⟨lw_gm 80 rfl rfl, lw_gm 1193 rfl rfl, by decide +kernel, by decide +kernel, by decide +kernel⟩
set_option maxRecDepth 100000 in
theorem xmv_Mo_locked : xmv g_Mo_locked := ⟨xmc_Mo_locked, lw_gm 1192 rfl rfl, lw_gm 65 rfl rfl, _, _, rfl, rfl, rfl⟩
set_option maxRecDepth 100000 in
theorem xmc_Mo_properMany : xmc g_Mo_properMany := ⟨lw_gm 80 rfl rfl, lw_gm 1189 rfl rfl, by decide +kernel, by decide +kernel, by decide +kernel⟩
set_option maxRecDepth 100000 in
theorem xmv_Mo_properMany : xmv g_Mo_properMany := ⟨xmc_Mo_properMany, lw_gm 1188 rfl rfl, lw_gm 64 rfl rfl, _, _, rfl, rfl, rfl⟩
set_option maxRecDepth 100000 in
theorem xmc_Mo_told : xmc g_Mo_told := ⟨lw_gm 80 rfl rfl, lw_gm 1185 rfl rfl, by decide +kernel, by decide +kernel, by decide +kernel⟩
set_option maxRecDepth 100000 in
theorem xmv_Mo_told : xmv g_Mo_told := ⟨xmc_Mo_told, lw_gm 1183 rfl rfl, lw_gm 1184 rfl rfl, _, _, rfl, rfl, rfl⟩
set_option maxRecDepth 100000 in
theorem xmc_Mo_undo : xmc g_Mo_undo := ⟨lw_gm 80 rfl rfl, lw_gm 1197 rfl rfl, by decide +kernel, by decide +kernel, by decide +kernel⟩
set_option maxRecDepth 100000 in
theorem xmv_Mo_undo : xmv g_Mo_undo := ⟨xmc_Mo_undo, lw_gm 1195 rfl rfl, lw_gm 1196 rfl rfl, _, _, rfl, rfl, rfl⟩
set_option maxRecDepth 100000 in
theorem xmc_Mo_mixedStanza : xmc g_Mo_mixedStanza := ⟨lw_gm 80 rfl rfl, lw_gm 1208 rfl rfl, by decide +kernel, by decide +kernel, by decide +kernel⟩
set_option maxRecDepth 100000 in
theorem xmv_Mo_mixedStanza : xmv g_Mo_mixedStanza := ⟨xmc_Mo_mixedStanza, lw_gm 1207 rfl rfl, lw_gm 66 rfl rfl, _, _, rfl, rfl, rfl⟩
set_option maxRecDepth 100000 in
theorem xmc_Mo_mixedTail : xmc g_Mo_mixedTail := ⟨lw_gm 80 rfl rfl, lw_gm 1213 rfl rfl, by decide +kernel, by decide +kernel, by decide +kernel⟩
set_option maxRecDepth 100000 in
theorem xmv_Mo_mixedTail : xmv g_Mo_mixedTail := ⟨xmc_Mo_mixedTail, lw_gm 1212 rfl rfl, lw_gm 67 rfl rfl, _, _, rfl, rfl, rfl⟩
set_option maxRecDepth 100000 in
theorem xmc_Mo_digest : xmc g_Mo_digest := ⟨lw_gm 80 rfl rfl, lw_gm 1201 rfl rfl, by decide +kernel, by decide +kernel, by decide +kernel⟩
set_option maxRecDepth 100000 in
theorem xmv_Mo_digest : xmv g_Mo_digest := ⟨xmc_Mo_digest, lw_gm 1199 rfl rfl, lw_gm 1200 rfl rfl, _, _, rfl, rfl, rfl⟩
set_option maxRecDepth 100000 in
theorem xmc_JI_bitCount : xmc g_JI_bitCount := ⟨lw_gm 84 rfl rfl, lw_gm 429 rfl rfl, by decide +kernel, by decide +kernel, by decide +kernel⟩
set_option maxRecDepth 100000 in
theorem xms_JI_bitCount : xms g_JI_bitCount := ⟨xmc_JI_bitCount, lw_gm 428 rfl rfl⟩
set_option maxRecDepth 100000 in
theorem xmc_JA_fill : xmc g_JA_fill := ⟨lw_gm 73 rfl rfl, lw_gm 148 rfl rfl, by decide +kernel, by decide +kernel, by decide +kernel⟩
set_option maxRecDepth 100000 in
theorem xms_JA_fill : xms g_JA_fill := ⟨xmc_JA_fill, lw_gm 147 rfl rfl⟩
set_option maxRecDepth 100000 in
theorem fl_Fit_9 : xfl "TurningVerse$Fit" 9 0 0 := ⟨_, rfl, by decide, lw_gm 271 rfl rfl⟩
set_option maxRecDepth 100000 in
theorem nf_0_0 (g : xSig) : xfp g 0 0 := fun r hr hf => by cases hr; cases hf
set_option maxRecDepth 100000 in
theorem fl_Fit_15 : xfl "TurningVerse$Fit" 15 0 1 := ⟨_, rfl, by decide, lw_gm 272 rfl rfl⟩
set_option maxRecDepth 100000 in
theorem fl_Fit_19 : xfl "TurningVerse$Fit" 19 0 2 := ⟨_, rfl, by decide, lw_gm 273 rfl rfl⟩
set_option maxRecDepth 100000 in
theorem fl_Fit_22 : xfl "TurningVerse$Fit" 22 0 3 := ⟨_, rfl, by decide, lw_gm 274 rfl rfl⟩
set_option maxRecDepth 100000 in
theorem ml_Row_7 : Cond.methodLink "TurningVerse$Row" 7 (sgN g_Row_with) ∈ lw_g := lw_gm 145 rfl rfl
set_option maxRecDepth 100000 in
theorem ml_Row_13 : Cond.methodLink "TurningVerse$Row" 13 (sgN g_Row_entry) ∈ lw_g := lw_gm 454 rfl rfl
set_option maxRecDepth 100000 in
theorem ml_Fit_59 : Cond.methodLink "TurningVerse$Fit" 59 (sgN g_JA_fill) ∈ lw_g := lw_gm 655 rfl rfl
set_option maxRecDepth 100000 in
theorem ml_Fit_65 : Cond.methodLink "TurningVerse$Fit" 65 (sgN g_Row_ascending) ∈ lw_g := lw_gm 656 rfl rfl
set_option maxRecDepth 100000 in
theorem fl_Fit_33 : xfl "TurningVerse$Fit" 33 2 0 := ⟨_, rfl, by decide, lw_gm 107 rfl rfl⟩
set_option maxRecDepth 100000 in
theorem ml_Fit_68 : Cond.methodLink "TurningVerse$Fit" 68 (sgN g_Row_entry) ∈ lw_g := lw_gm 657 rfl rfl
set_option maxRecDepth 100000 in
theorem fl_Fit_71 : xfl "TurningVerse$Fit" 71 2 2 := ⟨_, rfl, by decide, lw_gm 112 rfl rfl⟩
set_option maxRecDepth 100000 in
theorem fl_Fit_74 : xfl "TurningVerse$Fit" 74 2 3 := ⟨_, rfl, by decide, lw_gm 115 rfl rfl⟩
set_option maxRecDepth 100000 in
theorem ml_Fit_77 : Cond.methodLink "TurningVerse$Fit" 77 (sgN g_Row_turned) ∈ lw_g := lw_gm 658 rfl rfl
set_option maxRecDepth 100000 in
theorem ml_Fit_80 : Cond.methodLink "TurningVerse$Fit" 80 (sgN g_JI_bitCount) ∈ lw_g := lw_gm 663 rfl rfl
set_option maxRecDepth 100000 in
theorem ml_Fit_85 : Cond.methodLink "TurningVerse$Fit" 85 (sgN g_Fit_keptWith) ∈ lw_g := lw_gm 664 rfl rfl
set_option maxRecDepth 100000 in
theorem ml_Fit_25 : Cond.methodLink "TurningVerse$Fit" 25 (sgN g_Fit_compare) ∈ lw_g := lw_gm 651 rfl rfl
set_option maxRecDepth 100000 in
theorem ml_Fit_29 : Cond.methodLink "TurningVerse$Fit" 29 (sgN g_Fit_mostKept) ∈ lw_g := lw_gm 659 rfl rfl
set_option maxRecDepth 100000 in
theorem ml_Fit_38 : Cond.methodLink "TurningVerse$Fit" 38 (sgN g_Fit_firstWord) ∈ lw_g := lw_gm 677 rfl rfl
set_option maxRecDepth 100000 in
theorem ml_Fit_42 : Cond.methodLink "TurningVerse$Fit" 42 (sgN g_Row_with) ∈ lw_g := lw_gm 681 rfl rfl
set_option maxRecDepth 100000 in
theorem ml_Perm_9 : Cond.methodLink "TurningVerse$Permutation" 9 (sgN g_Row_entry) ∈ lw_g := lw_gm 426 rfl rfl
set_option maxRecDepth 100000 in
theorem ml_Perm_21 : Cond.methodLink "TurningVerse$Permutation" 21 (sgN g_Row_with) ∈ lw_g := lw_gm 446 rfl rfl
set_option maxRecDepth 100000 in
theorem ml_Fit_93 : Cond.methodLink "TurningVerse$Fit" 93 (sgN g_Fit_mostOfLine) ∈ lw_g := lw_gm 700 rfl rfl
set_option maxRecDepth 100000 in
theorem ml_Fit_96 : Cond.methodLink "TurningVerse$Fit" 96 (sgN g_Fit_mostOfWord) ∈ lw_g := lw_gm 704 rfl rfl
set_option maxRecDepth 100000 in
theorem ml_Fit_48 : Cond.methodLink "TurningVerse$Fit" 48 (sgN g_Perm_count) ∈ lw_g := lw_gm 694 rfl rfl
set_option maxRecDepth 100000 in
theorem ml_Fit_53 : Cond.methodLink "TurningVerse$Fit" 53 (sgN g_Perm_numbered) ∈ lw_g := lw_gm 695 rfl rfl
set_option maxRecDepth 100000 in
theorem ml_Fit_56 : Cond.methodLink "TurningVerse$Fit" 56 (sgN g_Fit_atMostKept) ∈ lw_g := lw_gm 696 rfl rfl
set_option maxRecDepth 100000 in
theorem fl_Poem_9 : xfl "TurningVerse$Poem" 9 2 0 := ⟨_, rfl, by decide, lw_gm 106 rfl rfl⟩
set_option maxRecDepth 100000 in
theorem nf_2_0 (g : xSig) : xfp g 2 0 := fun r hr hf => by cases hr; cases hf
set_option maxRecDepth 100000 in
theorem fl_Poem_15 : xfl "TurningVerse$Poem" 15 2 1 := ⟨_, rfl, by decide, lw_gm 109 rfl rfl⟩
set_option maxRecDepth 100000 in
theorem nf_2_1 (g : xSig) : xfp g 2 1 := fun r hr hf => by cases hr; cases hf
set_option maxRecDepth 100000 in
theorem fl_Poem_18 : xfl "TurningVerse$Poem" 18 2 2 := ⟨_, rfl, by decide, lw_gm 111 rfl rfl⟩
set_option maxRecDepth 100000 in
theorem fl_Poem_22 : xfl "TurningVerse$Poem" 22 2 3 := ⟨_, rfl, by decide, lw_gm 114 rfl rfl⟩
set_option maxRecDepth 100000 in
theorem fl_Poem_25 : xfl "TurningVerse$Poem" 25 2 4 := ⟨_, rfl, by decide, lw_gm 117 rfl rfl⟩
set_option maxRecDepth 100000 in
theorem fl_Poem_28 : xfl "TurningVerse$Poem" 28 2 5 := ⟨_, rfl, by decide, lw_gm 119 rfl rfl⟩
set_option maxRecDepth 100000 in
theorem fl_Sta_26 : xfl "TurningVerse$State" 26 5 0 := ⟨_, rfl, by decide, lw_gm 153 rfl rfl⟩
set_option maxRecDepth 100000 in
theorem nf_5_0 (g : xSig) : xfp g 5 0 := fun r hr hf => by cases hr; cases hf
set_option maxRecDepth 100000 in
theorem fl_Sta_30 : xfl "TurningVerse$State" 30 5 1 := ⟨_, rfl, by decide, lw_gm 156 rfl rfl⟩
set_option maxRecDepth 100000 in
theorem nf_5_1 (g : xSig) : xfp g 5 1 := fun r hr hf => by cases hr; cases hf
set_option maxRecDepth 100000 in
theorem ml_Sta_33 : Cond.methodLink "TurningVerse$State" 33 (sgN g_Row_with) ∈ lw_g := lw_gm 139 rfl rfl
set_option maxRecDepth 100000 in
theorem fl_Sta_9 : xfl "TurningVerse$State" 9 5 2 := ⟨_, rfl, by decide, lw_gm 158 rfl rfl⟩
set_option maxRecDepth 100000 in
theorem ml_Sta_39 : Cond.methodLink "TurningVerse$State" 39 (sgN g_Row_ascending) ∈ lw_g := lw_gm 142 rfl rfl
set_option maxRecDepth 100000 in
theorem ml_Sta_43 : Cond.methodLink "TurningVerse$State" 43 (sgN g_JA_fill) ∈ lw_g := lw_gm 146 rfl rfl
set_option maxRecDepth 100000 in
theorem fl_Sta_18 : xfl "TurningVerse$State" 18 5 3 := ⟨_, rfl, by decide, lw_gm 161 rfl rfl⟩
set_option maxRecDepth 100000 in
theorem ml_Sta_49 : Cond.methodLink "TurningVerse$State" 49 (sgN g_Poem_empty) ∈ lw_g := lw_gm 149 rfl rfl
set_option maxRecDepth 100000 in
theorem ml_Sta_17 : Cond.methodLink "TurningVerse$State" 17 (sgN g_Poem_init) ∈ lw_g := lw_gm 102 rfl rfl
set_option maxRecDepth 100000 in
theorem ml_Sta_22 : Cond.methodLink "TurningVerse$State" 22 (sgN g_Sta_startWith) ∈ lw_g := lw_gm 135 rfl rfl
set_option maxRecDepth 100000 in
theorem fl_Hist_9 : xfl "TurningVerse$History" 9 1 0 := ⟨_, rfl, by decide, lw_gm 181 rfl rfl⟩
set_option maxRecDepth 100000 in
theorem nf_1_0 (g : xSig) : xfp g 1 0 := fun r hr hf => by cases hr; cases hf
set_option maxRecDepth 100000 in
theorem fl_Hist_15 : xfl "TurningVerse$History" 15 1 1 := ⟨_, rfl, by decide, lw_gm 183 rfl rfl⟩
set_option maxRecDepth 100000 in
theorem nf_1_1 (g : xSig) : xfp g 1 1 := fun r hr hf => by cases hr; cases hf
set_option maxRecDepth 100000 in
theorem fl_Hist_20 : xfl "TurningVerse$History" 20 1 2 := ⟨_, rfl, by decide, lw_gm 184 rfl rfl⟩
set_option maxRecDepth 100000 in
theorem ml_Hist_24 : Cond.methodLink "TurningVerse$History" 24 (sgN g_Sta_init) ∈ lw_g := lw_gm 180 rfl rfl
set_option maxRecDepth 100000 in
theorem ml_Sta_58 : Cond.methodLink "TurningVerse$State" 58 (sgN g_Poem_copyFrom) ∈ lw_g := lw_gm 324 rfl rfl
set_option maxRecDepth 100000 in
theorem ml_Hist_25 : Cond.methodLink "TurningVerse$History" 25 (sgN g_Sta_copyFrom) ∈ lw_g := lw_gm 317 rfl rfl
set_option maxRecDepth 100000 in
theorem ml_Perm_15 : Cond.methodLink "TurningVerse$Permutation" 15 (sgN g_JI_bitCount) ∈ lw_g := lw_gm 427 rfl rfl
set_option maxRecDepth 100000 in
theorem ml_Perm_31 : Cond.methodLink "TurningVerse$Permutation" 31 (sgN g_Perm_lineOfWeave) ∈ lw_g := lw_gm 443 rfl rfl
set_option maxRecDepth 100000 in
theorem ml_Perm_25 : Cond.methodLink "TurningVerse$Permutation" 25 (sgN g_Perm_lineOfKind) ∈ lw_g := lw_gm 440 rfl rfl
set_option maxRecDepth 100000 in
theorem ml_Perm_34 : Cond.methodLink "TurningVerse$Permutation" 34 (sgN g_Row_ascending) ∈ lw_g := lw_gm 470 rfl rfl
set_option maxRecDepth 100000 in
theorem ml_Perm_37 : Cond.methodLink "TurningVerse$Permutation" 37 (sgN g_Row_turned) ∈ lw_g := lw_gm 471 rfl rfl
set_option maxRecDepth 100000 in
theorem ml_Perm_40 : Cond.methodLink "TurningVerse$Permutation" 40 (sgN g_Perm_count) ∈ lw_g := lw_gm 492 rfl rfl
set_option maxRecDepth 100000 in
theorem ml_Perm_43 : Cond.methodLink "TurningVerse$Permutation" 43 (sgN g_Perm_numbered) ∈ lw_g := lw_gm 493 rfl rfl
set_option maxRecDepth 100000 in
theorem ml_Perm_46 : Cond.methodLink "TurningVerse$Permutation" 46 (sgN g_Perm_repeated) ∈ lw_g := lw_gm 494 rfl rfl
set_option maxRecDepth 100000 in
theorem ml_Perm_67 : Cond.methodLink "TurningVerse$Permutation" 67 (sgN g_Perm_cycleOf) ∈ lw_g := lw_gm 511 rfl rfl
set_option maxRecDepth 100000 in
theorem ml_Perm_49 : Cond.methodLink "TurningVerse$Permutation" 49 (sgN g_Perm_number) ∈ lw_g := lw_gm 506 rfl rfl
set_option maxRecDepth 100000 in
theorem ml_Perm_52 : Cond.methodLink "TurningVerse$Permutation" 52 (sgN g_Perm_order) ∈ lw_g := lw_gm 507 rfl rfl
set_option maxRecDepth 100000 in
theorem ml_Perm_55 : Cond.methodLink "TurningVerse$Permutation" 55 (sgN g_Perm_cycles) ∈ lw_g := lw_gm 508 rfl rfl
set_option maxRecDepth 100000 in
theorem ml_Perm_58 : Cond.methodLink "TurningVerse$Permutation" 58 (sgN g_Perm_fixedLines) ∈ lw_g := lw_gm 514 rfl rfl
set_option maxRecDepth 100000 in
theorem ml_Perm_61 : Cond.methodLink "TurningVerse$Permutation" 61 (sgN g_Perm_longestCycle) ∈ lw_g := lw_gm 517 rfl rfl
set_option maxRecDepth 100000 in
theorem ml_Perm_64 : Cond.methodLink "TurningVerse$Permutation" 64 (sgN g_Perm_cycleType) ∈ lw_g := lw_gm 523 rfl rfl
set_option maxRecDepth 100000 in
theorem ml_Row_17 : Cond.methodLink "TurningVerse$Row" 17 (sgN g_Row_entries) ∈ lw_g := lw_gm 613 rfl rfl
set_option maxRecDepth 100000 in
theorem ml_Poem_37 : Cond.methodLink "TurningVerse$Poem" 37 (sgN g_Row_hasEach) ∈ lw_g := lw_gm 624 rfl rfl
set_option maxRecDepth 100000 in
theorem ml_Poem_43 : Cond.methodLink "TurningVerse$Poem" 43 (sgN g_JI_bitCount) ∈ lw_g := lw_gm 776 rfl rfl
set_option maxRecDepth 100000 in
theorem ml_Poem_49 : Cond.methodLink "TurningVerse$Poem" 49 (sgN g_Perm_inverse) ∈ lw_g := lw_gm 625 rfl rfl
set_option maxRecDepth 100000 in
theorem ml_Poem_55 : Cond.methodLink "TurningVerse$Poem" 55 (sgN g_Row_turned) ∈ lw_g := lw_gm 626 rfl rfl
set_option maxRecDepth 100000 in
theorem ml_Poem_59 : Cond.methodLink "TurningVerse$Poem" 59 (sgN g_Poem_properStanzas) ∈ lw_g := lw_gm 635 rfl rfl
set_option maxRecDepth 100000 in
theorem ml_Poem_62 : Cond.methodLink "TurningVerse$Poem" 62 (sgN g_Row_entries) ∈ lw_g := lw_gm 717 rfl rfl
set_option maxRecDepth 100000 in
theorem ml_PR_11 : Cond.methodLink "TurningVerse$PoemReader" 11 (sgN g_Poem_init) ∈ lw_g := lw_gm 215 rfl rfl
set_option maxRecDepth 100000 in
theorem fl_PR_12 : xfl "TurningVerse$PoemReader" 12 3 1 := ⟨_, rfl, by decide, lw_gm 218 rfl rfl⟩
set_option maxRecDepth 100000 in
theorem fl_PR_18 : xfl "TurningVerse$PoemReader" 18 3 0 := ⟨_, rfl, by decide, lw_gm 216 rfl rfl⟩
set_option maxRecDepth 100000 in
theorem nf_3_0 (g : xSig) : xfp g 3 0 := fun r hr hf => by cases hr; cases hf
set_option maxRecDepth 100000 in
theorem fl_PR_22 : xfl "TurningVerse$PoemReader" 22 3 2 := ⟨_, rfl, by decide, lw_gm 220 rfl rfl⟩
set_option maxRecDepth 100000 in
theorem nf_3_2 (g : xSig) : xfp g 3 2 := fun r hr hf => by cases hr; cases hf
set_option maxRecDepth 100000 in
theorem fl_Txt_9 : xfl "TurningVerse$Text" 9 6 0 := ⟨_, rfl, by decide, lw_gm 198 rfl rfl⟩
set_option maxRecDepth 100000 in
theorem fl_Txt_15 : xfl "TurningVerse$Text" 15 6 1 := ⟨_, rfl, by decide, lw_gm 202 rfl rfl⟩
set_option maxRecDepth 100000 in
theorem ml_PR_32 : Cond.methodLink "TurningVerse$PoemReader" 32 (sgN g_Txt_byteAt) ∈ lw_g := lw_gm 374 rfl rfl
set_option maxRecDepth 100000 in
theorem ml_PR_47 : Cond.methodLink "TurningVerse$PoemReader" 47 (sgN g_PR_wordBelow) ∈ lw_g := lw_gm 370 rfl rfl
set_option maxRecDepth 100000 in
theorem ml_PR_51 : Cond.methodLink "TurningVerse$PoemReader" 51 (sgN g_Row_with) ∈ lw_g := lw_gm 378 rfl rfl
set_option maxRecDepth 100000 in
theorem ml_PR_57 : Cond.methodLink "TurningVerse$PoemReader" 57 (sgN g_PR_isStanzaOver) ∈ lw_g := lw_gm 379 rfl rfl
set_option maxRecDepth 100000 in
theorem ml_PR_61 : Cond.methodLink "TurningVerse$PoemReader" 61 (sgN g_Row_entry) ∈ lw_g := lw_gm 383 rfl rfl
set_option maxRecDepth 100000 in
theorem ml_PR_65 : Cond.methodLink "TurningVerse$PoemReader" 65 (sgN g_Poem_append) ∈ lw_g := lw_gm 384 rfl rfl
set_option maxRecDepth 100000 in
theorem ml_PR_72 : Cond.methodLink "TurningVerse$PoemReader" 72 (sgN g_Poem_appendTailLine) ∈ lw_g := lw_gm 400 rfl rfl
set_option maxRecDepth 100000 in
theorem ml_PR_69 : Cond.methodLink "TurningVerse$PoemReader" 69 (sgN g_PR_readTailLine) ∈ lw_g := lw_gm 396 rfl rfl
set_option maxRecDepth 100000 in
theorem ml_PR_25 : Cond.methodLink "TurningVerse$PoemReader" 25 (sgN g_Poem_empty) ∈ lw_g := lw_gm 365 rfl rfl
set_option maxRecDepth 100000 in
theorem ml_PR_28 : Cond.methodLink "TurningVerse$PoemReader" 28 (sgN g_PR_readFirstStanza) ∈ lw_g := lw_gm 366 rfl rfl
set_option maxRecDepth 100000 in
theorem ml_PR_38 : Cond.methodLink "TurningVerse$PoemReader" 38 (sgN g_PR_readStanza) ∈ lw_g := lw_gm 388 rfl rfl
set_option maxRecDepth 100000 in
theorem ml_PR_41 : Cond.methodLink "TurningVerse$PoemReader" 41 (sgN g_PR_readTail) ∈ lw_g := lw_gm 392 rfl rfl
set_option maxRecDepth 100000 in
theorem fl_PR_44 : xfl "TurningVerse$PoemReader" 44 6 0 := ⟨_, rfl, by decide, lw_gm 200 rfl rfl⟩
set_option maxRecDepth 100000 in
theorem ml_Rhy_13 : Cond.methodLink "TurningVerse$Rhymes" 13 (sgN g_Row_entry) ∈ lw_g := lw_gm 741 rfl rfl
set_option maxRecDepth 100000 in
theorem ml_Rhy_7 : Cond.methodLink "TurningVerse$Rhymes" 7 (sgN g_Rhy_firstRhyme) ∈ lw_g := lw_gm 738 rfl rfl
set_option maxRecDepth 100000 in
theorem ml_Rhy_18 : Cond.methodLink "TurningVerse$Rhymes" 18 (sgN g_Perm_order) ∈ lw_g := lw_gm 749 rfl rfl
set_option maxRecDepth 100000 in
theorem ml_Rhy_23 : Cond.methodLink "TurningVerse$Rhymes" 23 (sgN g_Rhy_pattern) ∈ lw_g := lw_gm 750 rfl rfl
set_option maxRecDepth 100000 in
theorem ml_Rhy_26 : Cond.methodLink "TurningVerse$Rhymes" 26 (sgN g_Rhy_isAmong) ∈ lw_g := lw_gm 751 rfl rfl
set_option maxRecDepth 100000 in
theorem ml_Rhy_30 : Cond.methodLink "TurningVerse$Rhymes" 30 (sgN g_Row_turned) ∈ lw_g := lw_gm 754 rfl rfl
set_option maxRecDepth 100000 in
theorem ml_Rhy_34 : Cond.methodLink "TurningVerse$Rhymes" 34 (sgN g_Perm_count) ∈ lw_g := lw_gm 762 rfl rfl
set_option maxRecDepth 100000 in
theorem ml_Rhy_38 : Cond.methodLink "TurningVerse$Rhymes" 38 (sgN g_Perm_numbered) ∈ lw_g := lw_gm 763 rfl rfl
set_option maxRecDepth 100000 in
theorem ml_Rhy_41 : Cond.methodLink "TurningVerse$Rhymes" 41 (sgN g_Rhy_neighbors) ∈ lw_g := lw_gm 764 rfl rfl
set_option maxRecDepth 100000 in
theorem fl_Sea_9 : xfl "TurningVerse$Search" 9 4 0 := ⟨_, rfl, by decide, lw_gm 245 rfl rfl⟩
set_option maxRecDepth 100000 in
theorem nf_4_0 (g : xSig) : xfp g 4 0 := fun r hr hf => by cases hr; cases hf
set_option maxRecDepth 100000 in
theorem fl_Sea_15 : xfl "TurningVerse$Search" 15 4 1 := ⟨_, rfl, by decide, lw_gm 247 rfl rfl⟩
set_option maxRecDepth 100000 in
theorem nf_4_1 (g : xSig) : xfp g 4 1 := fun r hr hf => by cases hr; cases hf
set_option maxRecDepth 100000 in
theorem fl_Sea_18 : xfl "TurningVerse$Search" 18 4 2 := ⟨_, rfl, by decide, lw_gm 248 rfl rfl⟩
set_option maxRecDepth 100000 in
theorem nf_4_2 (g : xSig) : xfp g 4 2 := fun r hr hf => by cases hr; cases hf
set_option maxRecDepth 100000 in
theorem fl_Sea_21 : xfl "TurningVerse$Search" 21 4 3 := ⟨_, rfl, by decide, lw_gm 249 rfl rfl⟩
set_option maxRecDepth 100000 in
theorem fl_Sea_25 : xfl "TurningVerse$Search" 25 4 4 := ⟨_, rfl, by decide, lw_gm 250 rfl rfl⟩
set_option maxRecDepth 100000 in
theorem fl_Sea_28 : xfl "TurningVerse$Search" 28 4 5 := ⟨_, rfl, by decide, lw_gm 251 rfl rfl⟩
set_option maxRecDepth 100000 in
theorem ml_Sea_70 : Cond.methodLink "TurningVerse$Search" 70 (sgN g_Perm_number) ∈ lw_g := lw_gm 548 rfl rfl
set_option maxRecDepth 100000 in
theorem fl_Sea_31 : xfl "TurningVerse$Search" 31 5 0 := ⟨_, rfl, by decide, lw_gm 154 rfl rfl⟩
set_option maxRecDepth 100000 in
theorem fl_Sea_34 : xfl "TurningVerse$Search" 34 5 2 := ⟨_, rfl, by decide, lw_gm 159 rfl rfl⟩
set_option maxRecDepth 100000 in
theorem ml_Sea_43 : Cond.methodLink "TurningVerse$Search" 43 (sgN g_JA_fill) ∈ lw_g := lw_gm 542 rfl rfl
set_option maxRecDepth 100000 in
theorem ml_Sea_49 : Cond.methodLink "TurningVerse$Search" 49 (sgN g_Row_ascending) ∈ lw_g := lw_gm 543 rfl rfl
set_option maxRecDepth 100000 in
theorem ml_Sea_55 : Cond.methodLink "TurningVerse$Search" 55 (sgN g_Sea_note) ∈ lw_g := lw_gm 544 rfl rfl
set_option maxRecDepth 100000 in
theorem ml_Sea_59 : Cond.methodLink "TurningVerse$Search" 59 (sgN g_Sea_depthOf) ∈ lw_g := lw_gm 549 rfl rfl
set_option maxRecDepth 100000 in
theorem ml_Sea_62 : Cond.methodLink "TurningVerse$Search" 62 (sgN g_Sea_isFactor) ∈ lw_g := lw_gm 553 rfl rfl
set_option maxRecDepth 100000 in
theorem ml_Sea_66 : Cond.methodLink "TurningVerse$Search" 66 (sgN g_Row_turned) ∈ lw_g := lw_gm 557 rfl rfl
set_option maxRecDepth 100000 in
theorem ml_Sea_82 : Cond.methodLink "TurningVerse$Search" 82 (sgN g_Perm_inverse) ∈ lw_g := lw_gm 579 rfl rfl
set_option maxRecDepth 100000 in
theorem ml_Sea_79 : Cond.methodLink "TurningVerse$Search" 79 (sgN g_Sea_without) ∈ lw_g := lw_gm 575 rfl rfl
set_option maxRecDepth 100000 in
theorem ml_Sea_76 : Cond.methodLink "TurningVerse$Search" 76 (sgN g_Sea_firstFactor) ∈ lw_g := lw_gm 571 rfl rfl
set_option maxRecDepth 100000 in
theorem nf_6_0 (g : xSig) : xfp g 6 0 := fun r hr hf => by cases hr; cases hf
set_option maxRecDepth 100000 in
theorem fl_TR_9 : xfl "TurningVerse$TurnReader" 9 7 0 := ⟨_, rfl, by decide, lw_gm 234 rfl rfl⟩
set_option maxRecDepth 100000 in
theorem nf_7_0 (g : xSig) : xfp g 7 0 := fun r hr hf => by cases hr; cases hf
set_option maxRecDepth 100000 in
theorem ml_TR_15 : Cond.methodLink "TurningVerse$TurnReader" 15 (sgN g_Row_ascending) ∈ lw_g := lw_gm 416 rfl rfl
set_option maxRecDepth 100000 in
theorem fl_TR_21 : xfl "TurningVerse$TurnReader" 21 6 0 := ⟨_, rfl, by decide, lw_gm 199 rfl rfl⟩
set_option maxRecDepth 100000 in
theorem ml_TR_26 : Cond.methodLink "TurningVerse$TurnReader" 26 (sgN g_Txt_byteAt) ∈ lw_g := lw_gm 417 rfl rfl
set_option maxRecDepth 100000 in
theorem ml_TR_29 : Cond.methodLink "TurningVerse$TurnReader" 29 (sgN g_Row_with) ∈ lw_g := lw_gm 418 rfl rfl
set_option maxRecDepth 100000 in
theorem ml_TV_11 : Cond.methodLink "TurningVerse" 11 (sgN g_Sta_init) ∈ lw_g := lw_gm 96 rfl rfl
set_option maxRecDepth 100000 in
theorem fl_TV_12 : xfl "TurningVerse" 12 8 0 := ⟨_, rfl, by decide, lw_gm 284 rfl rfl⟩
set_option maxRecDepth 100000 in
theorem ml_TV_18 : Cond.methodLink "TurningVerse" 18 (sgN g_Hist_init) ∈ lw_g := lw_gm 174 rfl rfl
set_option maxRecDepth 100000 in
theorem fl_TV_19 : xfl "TurningVerse" 19 8 1 := ⟨_, rfl, by decide, lw_gm 285 rfl rfl⟩
set_option maxRecDepth 100000 in
theorem ml_TV_25 : Cond.methodLink "TurningVerse" 25 (sgN g_Txt_init) ∈ lw_g := lw_gm 194 rfl rfl
set_option maxRecDepth 100000 in
theorem fl_TV_26 : xfl "TurningVerse" 26 8 2 := ⟨_, rfl, by decide, lw_gm 286 rfl rfl⟩
set_option maxRecDepth 100000 in
theorem ml_TV_32 : Cond.methodLink "TurningVerse" 32 (sgN g_PR_init) ∈ lw_g := lw_gm 210 rfl rfl
set_option maxRecDepth 100000 in
theorem fl_TV_33 : xfl "TurningVerse" 33 8 3 := ⟨_, rfl, by decide, lw_gm 287 rfl rfl⟩
set_option maxRecDepth 100000 in
theorem ml_TV_39 : Cond.methodLink "TurningVerse" 39 (sgN g_TR_init) ∈ lw_g := lw_gm 230 rfl rfl
set_option maxRecDepth 100000 in
theorem fl_TV_40 : xfl "TurningVerse" 40 8 4 := ⟨_, rfl, by decide, lw_gm 288 rfl rfl⟩
set_option maxRecDepth 100000 in
theorem ml_TV_46 : Cond.methodLink "TurningVerse" 46 (sgN g_Sea_init) ∈ lw_g := lw_gm 241 rfl rfl
set_option maxRecDepth 100000 in
theorem fl_TV_47 : xfl "TurningVerse" 47 8 5 := ⟨_, rfl, by decide, lw_gm 289 rfl rfl⟩
set_option maxRecDepth 100000 in
theorem ml_TV_53 : Cond.methodLink "TurningVerse" 53 (sgN g_Fit_init) ∈ lw_g := lw_gm 267 rfl rfl
set_option maxRecDepth 100000 in
theorem fl_TV_54 : xfl "TurningVerse" 54 8 6 := ⟨_, rfl, by decide, lw_gm 290 rfl rfl⟩
set_option maxRecDepth 100000 in
theorem fl_TV_58 : xfl "TurningVerse" 58 8 7 := ⟨_, rfl, by decide, lw_gm 291 rfl rfl⟩
set_option maxRecDepth 100000 in
theorem ml_TV_62 : Cond.methodLink "TurningVerse" 62 (sgN g_Hist_remember) ∈ lw_g := lw_gm 313 rfl rfl
set_option maxRecDepth 100000 in
theorem fl_TV_66 : xfl "TurningVerse" 66 5 0 := ⟨_, rfl, by decide, lw_gm 155 rfl rfl⟩
set_option maxRecDepth 100000 in
theorem ml_TV_70 : Cond.methodLink "TurningVerse" 70 (sgN g_Sta_startWith) ∈ lw_g := lw_gm 332 rfl rfl
set_option maxRecDepth 100000 in
theorem ml_TV_74 : Cond.methodLink "TurningVerse" 74 (sgN g_TV_isLine) ∈ lw_g := lw_gm 337 rfl rfl
set_option maxRecDepth 100000 in
theorem fl_TV_78 : xfl "TurningVerse" 78 5 1 := ⟨_, rfl, by decide, lw_gm 157 rfl rfl⟩
set_option maxRecDepth 100000 in
theorem ml_TV_81 : Cond.methodLink "TurningVerse" 81 (sgN g_Row_entry) ∈ lw_g := lw_gm 341 rfl rfl
set_option maxRecDepth 100000 in
theorem ml_TV_87 : Cond.methodLink "TurningVerse" 87 (sgN g_Row_with) ∈ lw_g := lw_gm 344 rfl rfl
set_option maxRecDepth 100000 in
theorem fl_TV_91 : xfl "TurningVerse" 91 6 0 := ⟨_, rfl, by decide, lw_gm 201 rfl rfl⟩
set_option maxRecDepth 100000 in
theorem ml_TV_94 : Cond.methodLink "TurningVerse" 94 (sgN g_Txt_append) ∈ lw_g := lw_gm 349 rfl rfl
set_option maxRecDepth 100000 in
theorem ml_TV_97 : Cond.methodLink "TurningVerse" 97 (sgN g_PR_readText) ∈ lw_g := lw_gm 361 rfl rfl
set_option maxRecDepth 100000 in
theorem fl_TV_101 : xfl "TurningVerse" 101 3 0 := ⟨_, rfl, by decide, lw_gm 217 rfl rfl⟩
set_option maxRecDepth 100000 in
theorem fl_TV_102 : xfl "TurningVerse" 102 5 3 := ⟨_, rfl, by decide, lw_gm 162 rfl rfl⟩
set_option maxRecDepth 100000 in
theorem fl_TV_106 : xfl "TurningVerse" 106 3 1 := ⟨_, rfl, by decide, lw_gm 219 rfl rfl⟩
set_option maxRecDepth 100000 in
theorem ml_TV_107 : Cond.methodLink "TurningVerse" 107 (sgN g_Poem_copyFrom) ∈ lw_g := lw_gm 404 rfl rfl
set_option maxRecDepth 100000 in
theorem fl_TV_113 : xfl "TurningVerse" 113 2 0 := ⟨_, rfl, by decide, lw_gm 108 rfl rfl⟩
set_option maxRecDepth 100000 in
theorem fl_TV_133 : xfl "TurningVerse" 133 5 2 := ⟨_, rfl, by decide, lw_gm 160 rfl rfl⟩
set_option maxRecDepth 100000 in
theorem ml_TV_201 : Cond.methodLink "TurningVerse" 201 (sgN g_Perm_number) ∈ lw_g := lw_gm 423 rfl rfl
set_option maxRecDepth 100000 in
theorem ml_TV_116 : Cond.methodLink "TurningVerse" 116 (sgN g_TV_isRegister) ∈ lw_g := lw_gm 409 rfl rfl
set_option maxRecDepth 100000 in
theorem ml_TV_119 : Cond.methodLink "TurningVerse" 119 (sgN g_TR_readText) ∈ lw_g := lw_gm 412 rfl rfl
set_option maxRecDepth 100000 in
theorem fl_TV_122 : xfl "TurningVerse" 122 7 0 := ⟨_, rfl, by decide, lw_gm 235 rfl rfl⟩
set_option maxRecDepth 100000 in
theorem ml_TV_125 : Cond.methodLink "TurningVerse" 125 (sgN g_TV_store) ∈ lw_g := lw_gm 419 rfl rfl
set_option maxRecDepth 100000 in
theorem ml_TV_128 : Cond.methodLink "TurningVerse" 128 (sgN g_Perm_ofKind) ∈ lw_g := lw_gm 437 rfl rfl
set_option maxRecDepth 100000 in
theorem ml_TV_136 : Cond.methodLink "TurningVerse" 136 (sgN g_Row_turned) ∈ lw_g := lw_gm 451 rfl rfl
set_option maxRecDepth 100000 in
theorem ml_TV_141 : Cond.methodLink "TurningVerse" 141 (sgN g_Perm_inverse) ∈ lw_g := lw_gm 461 rfl rfl
set_option maxRecDepth 100000 in
theorem ml_TV_150 : Cond.methodLink "TurningVerse" 150 (sgN g_Perm_repeated) ∈ lw_g := lw_gm 467 rfl rfl
set_option maxRecDepth 100000 in
theorem ml_TV_153 : Cond.methodLink "TurningVerse" 153 (sgN g_Perm_count) ∈ lw_g := lw_gm 476 rfl rfl
set_option maxRecDepth 100000 in
theorem ml_TV_155 : Cond.methodLink "TurningVerse" 155 (sgN g_Perm_numbered) ∈ lw_g := lw_gm 479 rfl rfl
set_option maxRecDepth 100000 in
theorem ml_TV_158 : Cond.methodLink "TurningVerse" 158 (sgN g_Perm_order) ∈ lw_g := lw_gm 482 rfl rfl
set_option maxRecDepth 100000 in
theorem ml_TV_161 : Cond.methodLink "TurningVerse" 161 (sgN g_Perm_firstRoot) ∈ lw_g := lw_gm 489 rfl rfl
set_option maxRecDepth 100000 in
theorem ml_TV_164 : Cond.methodLink "TurningVerse" 164 (sgN g_Perm_property) ∈ lw_g := lw_gm 503 rfl rfl
set_option maxRecDepth 100000 in
theorem ml_TV_167 : Cond.methodLink "TurningVerse" 167 (sgN g_TV_isSetOfRegisters) ∈ lw_g := lw_gm 534 rfl rfl
set_option maxRecDepth 100000 in
theorem ml_TV_170 : Cond.methodLink "TurningVerse" 170 (sgN g_Sea_spread) ∈ lw_g := lw_gm 537 rfl rfl
set_option maxRecDepth 100000 in
theorem fl_TV_174 : xfl "TurningVerse" 174 4 0 := ⟨_, rfl, by decide, lw_gm 246 rfl rfl⟩
set_option maxRecDepth 100000 in
theorem ml_TV_175 : Cond.methodLink "TurningVerse" 175 (sgN g_Sea_depthOf) ∈ lw_g := lw_gm 562 rfl rfl
set_option maxRecDepth 100000 in
theorem ml_TV_178 : Cond.methodLink "TurningVerse" 178 (sgN g_Sea_factorAt) ∈ lw_g := lw_gm 567 rfl rfl
set_option maxRecDepth 100000 in
theorem ml_TV_181 : Cond.methodLink "TurningVerse" 181 (sgN g_Row_ascending) ∈ lw_g := lw_gm 584 rfl rfl
set_option maxRecDepth 100000 in
theorem ml_TV_184 : Cond.methodLink "TurningVerse" 184 (sgN g_Poem_append) ∈ lw_g := lw_gm 585 rfl rfl
set_option maxRecDepth 100000 in
theorem fl_TV_185 : xfl "TurningVerse" 185 2 2 := ⟨_, rfl, by decide, lw_gm 113 rfl rfl⟩
set_option maxRecDepth 100000 in
theorem ml_TV_188 : Cond.methodLink "TurningVerse" 188 (sgN g_TV_isStanza) ∈ lw_g := lw_gm 594 rfl rfl
set_option maxRecDepth 100000 in
theorem fl_TV_191 : xfl "TurningVerse" 191 2 3 := ⟨_, rfl, by decide, lw_gm 116 rfl rfl⟩
set_option maxRecDepth 100000 in
theorem ml_TV_194 : Cond.methodLink "TurningVerse" 194 (sgN g_Row_hasEach) ∈ lw_g := lw_gm 610 rfl rfl
set_option maxRecDepth 100000 in
theorem ml_TV_198 : Cond.methodLink "TurningVerse" 198 (sgN g_Poem_turnBehind) ∈ lw_g := lw_gm 620 rfl rfl
set_option maxRecDepth 100000 in
theorem ml_TV_204 : Cond.methodLink "TurningVerse" 204 (sgN g_Poem_turnsBy) ∈ lw_g := lw_gm 631 rfl rfl
set_option maxRecDepth 100000 in
theorem ml_TV_207 : Cond.methodLink "TurningVerse" 207 (sgN g_Fit_changes) ∈ lw_g := lw_gm 647 rfl rfl
set_option maxRecDepth 100000 in
theorem ml_TV_211 : Cond.methodLink "TurningVerse" 211 (sgN g_Fit_firstRow) ∈ lw_g := lw_gm 673 rfl rfl
set_option maxRecDepth 100000 in
theorem ml_TV_215 : Cond.methodLink "TurningVerse" 215 (sgN g_Poem_rewrite) ∈ lw_g := lw_gm 682 rfl rfl
set_option maxRecDepth 100000 in
theorem ml_TV_219 : Cond.methodLink "TurningVerse" 219 (sgN g_Fit_bestPermutation) ∈ lw_g := lw_gm 690 rfl rfl
set_option maxRecDepth 100000 in
theorem ml_TV_223 : Cond.methodLink "TurningVerse" 223 (sgN g_Poem_wordsOfTail) ∈ lw_g := lw_gm 713 rfl rfl
set_option maxRecDepth 100000 in
theorem fl_TV_226 : xfl "TurningVerse" 226 2 1 := ⟨_, rfl, by decide, lw_gm 110 rfl rfl⟩
set_option maxRecDepth 100000 in
theorem ml_TV_229 : Cond.methodLink "TurningVerse" 229 (sgN g_Poem_lengthOfTail) ∈ lw_g := lw_gm 718 rfl rfl
set_option maxRecDepth 100000 in
theorem ml_TV_232 : Cond.methodLink "TurningVerse" 232 (sgN g_JI_bitCount) ∈ lw_g := lw_gm 722 rfl rfl
set_option maxRecDepth 100000 in
theorem fl_TV_237 : xfl "TurningVerse" 237 2 5 := ⟨_, rfl, by decide, lw_gm 120 rfl rfl⟩
set_option maxRecDepth 100000 in
theorem fl_TV_240 : xfl "TurningVerse" 240 2 4 := ⟨_, rfl, by decide, lw_gm 118 rfl rfl⟩
set_option maxRecDepth 100000 in
theorem ml_TV_243 : Cond.methodLink "TurningVerse" 243 (sgN g_TV_soundsOf) ∈ lw_g := lw_gm 731 rfl rfl
set_option maxRecDepth 100000 in
theorem ml_TV_246 : Cond.methodLink "TurningVerse" 246 (sgN g_Rhy_pattern) ∈ lw_g := lw_gm 735 rfl rfl
set_option maxRecDepth 100000 in
theorem ml_TV_251 : Cond.methodLink "TurningVerse" 251 (sgN g_Rhy_differentPatterns) ∈ lw_g := lw_gm 746 rfl rfl
set_option maxRecDepth 100000 in
theorem ml_TV_255 : Cond.methodLink "TurningVerse" 255 (sgN g_Rhy_mostNeighborly) ∈ lw_g := lw_gm 759 rfl rfl
set_option maxRecDepth 100000 in
theorem ml_TV_258 : Cond.methodLink "TurningVerse" 258 (sgN g_Poem_properStanzas) ∈ lw_g := lw_gm 771 rfl rfl
set_option maxRecDepth 100000 in
theorem ml_TV_261 : Cond.methodLink "TurningVerse" 261 (sgN g_Poem_lockedPlaces) ∈ lw_g := lw_gm 772 rfl rfl
set_option maxRecDepth 100000 in
theorem fl_TV_264 : xfl "TurningVerse" 264 1 0 := ⟨_, rfl, by decide, lw_gm 182 rfl rfl⟩
set_option maxRecDepth 100000 in
theorem ml_TV_265 : Cond.methodLink "TurningVerse" 265 (sgN g_Hist_restore) ∈ lw_g := lw_gm 781 rfl rfl
set_option maxRecDepth 100000 in
theorem ml_TV_291 : Cond.methodLink "TurningVerse" 291 (sgN g_TV_word) ∈ lw_g := lw_gm 800 rfl rfl
set_option maxRecDepth 100000 in
theorem ml_TV_273 : Cond.methodLink "TurningVerse" 273 (sgN g_TV_mixed) ∈ lw_g := lw_gm 791 rfl rfl
set_option maxRecDepth 100000 in
theorem ml_TV_294 : Cond.methodLink "TurningVerse" 294 (sgN g_TV_turning) ∈ lw_g := lw_gm 801 rfl rfl
set_option maxRecDepth 100000 in
theorem ml_TV_297 : Cond.methodLink "TurningVerse" 297 (sgN g_TV_scheme) ∈ lw_g := lw_gm 802 rfl rfl
set_option maxRecDepth 100000 in
theorem ml_TV_300 : Cond.methodLink "TurningVerse" 300 (sgN g_TV_tail) ∈ lw_g := lw_gm 808 rfl rfl
set_option maxRecDepth 100000 in
theorem ml_TV_303 : Cond.methodLink "TurningVerse" 303 (sgN g_TV_tailWord) ∈ lw_g := lw_gm 809 rfl rfl
set_option maxRecDepth 100000 in
theorem ml_TV_270 : Cond.methodLink "TurningVerse" 270 (sgN g_TV_told) ∈ lw_g := lw_gm 790 rfl rfl
set_option maxRecDepth 100000 in
theorem ml_TV_277 : Cond.methodLink "TurningVerse" 277 (sgN g_TV_turn) ∈ lw_g := lw_gm 795 rfl rfl
set_option maxRecDepth 100000 in
theorem ml_TV_280 : Cond.methodLink "TurningVerse" 280 (sgN g_TV_withStanza) ∈ lw_g := lw_gm 796 rfl rfl
set_option maxRecDepth 100000 in
theorem ml_TV_284 : Cond.methodLink "TurningVerse" 284 (sgN g_TV_follows) ∈ lw_g := lw_gm 803 rfl rfl
set_option maxRecDepth 100000 in
theorem ml_TV_287 : Cond.methodLink "TurningVerse" 287 (sgN g_TV_withTail) ∈ lw_g := lw_gm 804 rfl rfl
set_option maxRecDepth 100000 in
theorem fl_Mo_7 : xfl "TurningVerseModel" 7 9 0 := ⟨_, rfl, by decide, lw_gm 820 rfl rfl⟩
set_option maxRecDepth 100000 in
theorem fl_Mo_13 : xfl "TurningVerseModel" 13 9 2 := ⟨_, rfl, by decide, lw_gm 822 rfl rfl⟩
set_option maxRecDepth 100000 in
theorem fl_Mo_16 : xfl "TurningVerseModel" 16 9 4 := ⟨_, rfl, by decide, lw_gm 824 rfl rfl⟩
set_option maxRecDepth 100000 in
theorem fl_Mo_19 : xfl "TurningVerseModel" 19 9 5 := ⟨_, rfl, by decide, lw_gm 825 rfl rfl⟩
set_option maxRecDepth 100000 in
theorem fl_Mo_22 : xfl "TurningVerseModel" 22 9 6 := ⟨_, rfl, by decide, lw_gm 826 rfl rfl⟩
set_option maxRecDepth 100000 in
theorem fl_Mo_25 : xfl "TurningVerseModel" 25 9 7 := ⟨_, rfl, by decide, lw_gm 827 rfl rfl⟩
set_option maxRecDepth 100000 in
theorem fl_Mo_28 : xfl "TurningVerseModel" 28 9 8 := ⟨_, rfl, by decide, lw_gm 828 rfl rfl⟩
set_option maxRecDepth 100000 in
theorem fl_Mo_31 : xfl "TurningVerseModel" 31 9 10 := ⟨_, rfl, by decide, lw_gm 830 rfl rfl⟩
set_option maxRecDepth 100000 in
theorem fl_Mo_34 : xfl "TurningVerseModel" 34 9 13 := ⟨_, rfl, by decide, lw_gm 833 rfl rfl⟩
set_option maxRecDepth 100000 in
theorem fl_Mo_37 : xfl "TurningVerseModel" 37 9 14 := ⟨_, rfl, by decide, lw_gm 834 rfl rfl⟩
set_option maxRecDepth 100000 in
theorem fl_Mo_40 : xfl "TurningVerseModel" 40 9 15 := ⟨_, rfl, by decide, lw_gm 835 rfl rfl⟩
set_option maxRecDepth 100000 in
theorem fl_Mo_43 : xfl "TurningVerseModel" 43 9 16 := ⟨_, rfl, by decide, lw_gm 836 rfl rfl⟩
set_option maxRecDepth 100000 in
theorem fl_Mo_46 : xfl "TurningVerseModel" 46 9 17 := ⟨_, rfl, by decide, lw_gm 837 rfl rfl⟩
set_option maxRecDepth 100000 in
theorem ml_Mo_49 : Cond.methodLink "TurningVerseModel" 49 (sgN g_Mo_resets) ∈ lw_g := lw_gm 816 rfl rfl
set_option maxRecDepth 100000 in
theorem fl_Mo_53 : xfl "TurningVerseModel" 53 9 1 := ⟨_, rfl, by decide, lw_gm 821 rfl rfl⟩
set_option maxRecDepth 100000 in
theorem nf_9_1 (g : xSig) : xfp g 9 1 := fun r hr hf => by cases hr; cases hf
set_option maxRecDepth 100000 in
theorem ml_Mo_57 : Cond.methodLink "TurningVerseModel" 57 (sgN g_Mo_in) ∈ lw_g := lw_gm 879 rfl rfl
set_option maxRecDepth 100000 in
theorem ml_Mo_61 : Cond.methodLink "TurningVerseModel" 61 (sgN g_Mo_records) ∈ lw_g := lw_gm 882 rfl rfl
set_option maxRecDepth 100000 in
theorem ml_Mo_64 : Cond.methodLink "TurningVerseModel" 64 (sgN g_Mo_size) ∈ lw_g := lw_gm 886 rfl rfl
set_option maxRecDepth 100000 in
theorem ml_Mo_68 : Cond.methodLink "TurningVerseModel" 68 (sgN g_Mo_empties) ∈ lw_g := lw_gm 890 rfl rfl
set_option maxRecDepth 100000 in
theorem ml_Mo_71 : Cond.methodLink "TurningVerseModel" 71 (sgN g_Mo_isLine) ∈ lw_g := lw_gm 898 rfl rfl
set_option maxRecDepth 100000 in
theorem ml_Mo_75 : Cond.methodLink "TurningVerseModel" 75 (sgN g_Mo_cycleOf) ∈ lw_g := lw_gm 943 rfl rfl
set_option maxRecDepth 100000 in
theorem ml_Mo_79 : Cond.methodLink "TurningVerseModel" 79 (sgN g_Mo_isRegister) ∈ lw_g := lw_gm 906 rfl rfl
set_option maxRecDepth 100000 in
theorem ml_Mo_82 : Cond.methodLink "TurningVerseModel" 82 (sgN g_Mo_identity) ∈ lw_g := lw_gm 909 rfl rfl
set_option maxRecDepth 100000 in
theorem ml_Mo_86 : Cond.methodLink "TurningVerseModel" 86 (sgN g_Mo_puts) ∈ lw_g := lw_gm 913 rfl rfl
set_option maxRecDepth 100000 in
theorem ml_Mo_90 : Cond.methodLink "TurningVerseModel" 90 (sgN g_Mo_rank) ∈ lw_g := lw_gm 917 rfl rfl
set_option maxRecDepth 100000 in
theorem ml_Mo_94 : Cond.methodLink "TurningVerseModel" 94 (sgN g_Mo_takes) ∈ lw_g := lw_gm 925 rfl rfl
set_option maxRecDepth 100000 in
theorem ml_Mo_98 : Cond.methodLink "TurningVerseModel" 98 (sgN g_Mo_multiplies) ∈ lw_g := lw_gm 929 rfl rfl
set_option maxRecDepth 100000 in
theorem ml_Mo_104 : Cond.methodLink "TurningVerseModel" 104 (sgN g_Mo_orderOf) ∈ lw_g := lw_gm 939 rfl rfl
set_option maxRecDepth 100000 in
theorem ml_Mo_107 : Cond.methodLink "TurningVerseModel" 107 (sgN g_Mo_raises) ∈ lw_g := lw_gm 947 rfl rfl
set_option maxRecDepth 100000 in
theorem ml_Mo_111 : Cond.methodLink "TurningVerseModel" 111 (sgN g_Mo_factorial) ∈ lw_g := lw_gm 955 rfl rfl
set_option maxRecDepth 100000 in
theorem ml_Mo_114 : Cond.methodLink "TurningVerseModel" 114 (sgN g_Mo_unranks) ∈ lw_g := lw_gm 959 rfl rfl
set_option maxRecDepth 100000 in
theorem ml_Mo_117 : Cond.methodLink "TurningVerseModel" 117 (sgN g_Mo_isSame) ∈ lw_g := lw_gm 967 rfl rfl
set_option maxRecDepth 100000 in
theorem ml_Mo_121 : Cond.methodLink "TurningVerseModel" 121 (sgN g_Mo_isFirst) ∈ lw_g := lw_gm 983 rfl rfl
set_option maxRecDepth 100000 in
theorem ml_Mo_125 : Cond.methodLink "TurningVerseModel" 125 (sgN g_Mo_turnOf) ∈ lw_g := lw_gm 979 rfl rfl
set_option maxRecDepth 100000 in
theorem fl_Mo_129 : xfl "TurningVerseModel" 129 9 9 := ⟨_, rfl, by decide, lw_gm 829 rfl rfl⟩
set_option maxRecDepth 100000 in
theorem nf_9_9 (g : xSig) : xfp g 9 9 := fun r hr hf => by cases hr; cases hf
set_option maxRecDepth 100000 in
theorem ml_Mo_132 : Cond.methodLink "TurningVerseModel" 132 (sgN g_Mo_isSet) ∈ lw_g := lw_gm 995 rfl rfl
set_option maxRecDepth 100000 in
theorem ml_Mo_135 : Cond.methodLink "TurningVerseModel" 135 (sgN g_Mo_walks) ∈ lw_g := lw_gm 998 rfl rfl
set_option maxRecDepth 100000 in
theorem ml_Mo_138 : Cond.methodLink "TurningVerseModel" 138 (sgN g_Mo_rests) ∈ lw_g := lw_gm 1010 rfl rfl
set_option maxRecDepth 100000 in
theorem fl_Mo_141 : xfl "TurningVerseModel" 141 9 3 := ⟨_, rfl, by decide, lw_gm 823 rfl rfl⟩
set_option maxRecDepth 100000 in
theorem nf_9_3 (g : xSig) : xfp g 9 3 := fun r hr hf => by cases hr; cases hf
set_option maxRecDepth 100000 in
theorem ml_Mo_144 : Cond.methodLink "TurningVerseModel" 144 (sgN g_Mo_byteAt) ∈ lw_g := lw_gm 1038 rfl rfl
set_option maxRecDepth 100000 in
theorem fl_Mo_148 : xfl "TurningVerseModel" 148 9 12 := ⟨_, rfl, by decide, lw_gm 832 rfl rfl⟩
set_option maxRecDepth 100000 in
theorem ml_Mo_151 : Cond.methodLink "TurningVerseModel" 151 (sgN g_Mo_isLetter) ∈ lw_g := lw_gm 1034 rfl rfl
set_option maxRecDepth 100000 in
theorem nf_9_12 (g : xSig) : xfp g 9 12 := fun r hr hf => by cases hr; cases hf
set_option maxRecDepth 100000 in
theorem fl_Mo_155 : xfl "TurningVerseModel" 155 9 11 := ⟨_, rfl, by decide, lw_gm 831 rfl rfl⟩
set_option maxRecDepth 100000 in
theorem nf_9_11 (g : xSig) : xfp g 9 11 := fun r hr hf => by cases hr; cases hf
set_option maxRecDepth 100000 in
theorem ml_Mo_158 : Cond.methodLink "TurningVerseModel" 158 (sgN g_Mo_readsFirst) ∈ lw_g := lw_gm 1030 rfl rfl
set_option maxRecDepth 100000 in
theorem ml_Mo_162 : Cond.methodLink "TurningVerseModel" 162 (sgN g_Mo_readsStanza) ∈ lw_g := lw_gm 1042 rfl rfl
set_option maxRecDepth 100000 in
theorem ml_Mo_165 : Cond.methodLink "TurningVerseModel" 165 (sgN g_Mo_readsTail) ∈ lw_g := lw_gm 1046 rfl rfl
set_option maxRecDepth 100000 in
theorem ml_Mo_168 : Cond.methodLink "TurningVerseModel" 168 (sgN g_Mo_reads) ∈ lw_g := lw_gm 1026 rfl rfl
set_option maxRecDepth 100000 in
theorem ml_Mo_171 : Cond.methodLink "TurningVerseModel" 171 (sgN g_Mo_readsTurn) ∈ lw_g := lw_gm 1054 rfl rfl
set_option maxRecDepth 100000 in
theorem ml_Mo_174 : Cond.methodLink "TurningVerseModel" 174 (sgN g_Mo_placeOf) ∈ lw_g := lw_gm 1062 rfl rfl
set_option maxRecDepth 100000 in
theorem ml_Mo_177 : Cond.methodLink "TurningVerseModel" 177 (sgN g_Mo_isStanza) ∈ lw_g := lw_gm 1074 rfl rfl
set_option maxRecDepth 100000 in
theorem ml_Mo_180 : Cond.methodLink "TurningVerseModel" 180 (sgN g_Mo_isProper) ∈ lw_g := lw_gm 1090 rfl rfl
set_option maxRecDepth 100000 in
theorem ml_Mo_183 : Cond.methodLink "TurningVerseModel" 183 (sgN g_Mo_turns) ∈ lw_g := lw_gm 1102 rfl rfl
set_option maxRecDepth 100000 in
theorem ml_Mo_186 : Cond.methodLink "TurningVerseModel" 186 (sgN g_Mo_turningOf) ∈ lw_g := lw_gm 1098 rfl rfl
set_option maxRecDepth 100000 in
theorem ml_Mo_189 : Cond.methodLink "TurningVerseModel" 189 (sgN g_Mo_followed) ∈ lw_g := lw_gm 1110 rfl rfl
set_option maxRecDepth 100000 in
theorem ml_Mo_192 : Cond.methodLink "TurningVerseModel" 192 (sgN g_Mo_isFollowed) ∈ lw_g := lw_gm 1118 rfl rfl
set_option maxRecDepth 100000 in
theorem ml_Mo_195 : Cond.methodLink "TurningVerseModel" 195 (sgN g_Mo_wrong) ∈ lw_g := lw_gm 1126 rfl rfl
set_option maxRecDepth 100000 in
theorem ml_Mo_198 : Cond.methodLink "TurningVerseModel" 198 (sgN g_Mo_costOf) ∈ lw_g := lw_gm 1130 rfl rfl
set_option maxRecDepth 100000 in
theorem ml_Mo_201 : Cond.methodLink "TurningVerseModel" 201 (sgN g_Mo_missing) ∈ lw_g := lw_gm 1146 rfl rfl
set_option maxRecDepth 100000 in
theorem ml_Mo_204 : Cond.methodLink "TurningVerseModel" 204 (sgN g_Mo_tailWords) ∈ lw_g := lw_gm 1150 rfl rfl
set_option maxRecDepth 100000 in
theorem ml_Mo_207 : Cond.methodLink "TurningVerseModel" 207 (sgN g_Mo_soundAt) ∈ lw_g := lw_gm 1170 rfl rfl
set_option maxRecDepth 100000 in
theorem ml_Mo_210 : Cond.methodLink "TurningVerseModel" 210 (sgN g_Mo_takesVerse) ∈ lw_g := lw_gm 1162 rfl rfl
set_option maxRecDepth 100000 in
theorem ml_Mo_213 : Cond.methodLink "TurningVerseModel" 213 (sgN g_Mo_schemeOfVerse) ∈ lw_g := lw_gm 1166 rfl rfl
set_option maxRecDepth 100000 in
theorem ml_Mo_216 : Cond.methodLink "TurningVerseModel" 216 (sgN g_Mo_properMany) ∈ lw_g := lw_gm 1186 rfl rfl
set_option maxRecDepth 100000 in
theorem ml_Mo_219 : Cond.methodLink "TurningVerseModel" 219 (sgN g_Mo_locked) ∈ lw_g := lw_gm 1190 rfl rfl
set_option maxRecDepth 100000 in
theorem ml_Mo_224 : Cond.methodLink "TurningVerseModel" 224 (sgN g_Mo_scheme) ∈ lw_g := lw_gm 1209 rfl rfl
set_option maxRecDepth 100000 in
theorem ml_Mo_227 : Cond.methodLink "TurningVerseModel" 227 (sgN g_Mo_tail) ∈ lw_g := lw_gm 1214 rfl rfl
set_option maxRecDepth 100000 in
theorem ml_Mo_232 : Cond.methodLink "TurningVerseModel" 232 (sgN g_Mo_told) ∈ lw_g := lw_gm 1204 rfl rfl
set_option maxRecDepth 100000 in
theorem ml_Mo_235 : Cond.methodLink "TurningVerseModel" 235 (sgN g_Mo_mixedStanza) ∈ lw_g := lw_gm 1205 rfl rfl
set_option maxRecDepth 100000 in
theorem ml_Mo_239 : Cond.methodLink "TurningVerseModel" 239 (sgN g_Mo_mixedTail) ∈ lw_g := lw_gm 1210 rfl rfl
