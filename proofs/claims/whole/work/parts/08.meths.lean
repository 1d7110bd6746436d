/-! ===== the methods; what calls and fields link ===== -/
theorem mt_1 {u : Cond} (i : Nat) (hi : tables_1_1[i]? = some u) (hg : goodWord u = true) : u ∈ lw_g := mg (List.mem_append_right _ (by have h := List.mem_of_getElem? hi; exact List.mem_append_left _ h)) hg
theorem mt_2 {u : Cond} (i : Nat) (hi : tables_1_2[i]? = some u) (hg : goodWord u = true) : u ∈ lw_g := mg (List.mem_append_right _ (by have h := List.mem_of_getElem? hi; exact List.mem_append_right _ (List.mem_append_left _ h))) hg
theorem mt_3 {u : Cond} (i : Nat) (hi : tables_1_3[i]? = some u) (hg : goodWord u = true) : u ∈ lw_g := mg (List.mem_append_right _ (by have h := List.mem_of_getElem? hi; exact List.mem_append_right _ (List.mem_append_right _ (List.mem_append_left _ h)))) hg
theorem mt_4 {u : Cond} (i : Nat) (hi : tables_1_4[i]? = some u) (hg : goodWord u = true) : u ∈ lw_g := mg (List.mem_append_right _ (by have h := List.mem_of_getElem? hi; exact List.mem_append_right _ (List.mem_append_right _ (List.mem_append_right _ (List.mem_append_left _ h))))) hg
theorem mt_5 {u : Cond} (i : Nat) (hi : tables_1_5[i]? = some u) (hg : goodWord u = true) : u ∈ lw_g := mg (List.mem_append_right _ (by have h := List.mem_of_getElem? hi; exact List.mem_append_right _ (List.mem_append_right _ (List.mem_append_right _ (List.mem_append_right _ (List.mem_append_left _ h)))))) hg
theorem mt_6 {u : Cond} (i : Nat) (hi : tables_1_6[i]? = some u) (hg : goodWord u = true) : u ∈ lw_g := mg (List.mem_append_right _ (by have h := List.mem_of_getElem? hi; exact List.mem_append_right _ (List.mem_append_right _ (List.mem_append_right _ (List.mem_append_right _ (List.mem_append_right _ (List.mem_append_left _ h))))))) hg
theorem mt_7 {u : Cond} (i : Nat) (hi : tables_1_7[i]? = some u) (hg : goodWord u = true) : u ∈ lw_g := mg (List.mem_append_right _ (by have h := List.mem_of_getElem? hi; exact List.mem_append_right _ (List.mem_append_right _ (List.mem_append_right _ (List.mem_append_right _ (List.mem_append_right _ (List.mem_append_right _ (List.mem_append_left _ h)))))))) hg
theorem mt_8 {u : Cond} (i : Nat) (hi : tables_1_8[i]? = some u) (hg : goodWord u = true) : u ∈ lw_g := mg (List.mem_append_right _ (by have h := List.mem_of_getElem? hi; exact List.mem_append_right _ (List.mem_append_right _ (List.mem_append_right _ (List.mem_append_right _ (List.mem_append_right _ (List.mem_append_right _ (List.mem_append_right _ (List.mem_append_left _ h))))))))) hg
theorem mt_9 {u : Cond} (i : Nat) (hi : tables_1_9[i]? = some u) (hg : goodWord u = true) : u ∈ lw_g := mg (List.mem_append_right _ (by have h := List.mem_of_getElem? hi; exact List.mem_append_right _ (List.mem_append_right _ (List.mem_append_right _ (List.mem_append_right _ (List.mem_append_right _ (List.mem_append_right _ (List.mem_append_right _ (List.mem_append_right _ (h)))))))))) hg
theorem mp_ {u : Cond} (i : Nat) (hi : (k2_sels lw_privs)[i]? = some u) (hg : goodWord u = true) : u ∈ lw_g := mg (List.mem_append_left _ (List.mem_of_getElem? hi)) hg
def jVL_init : Jm := ("VertexLanguage", ⟨"VertexLanguage", "<init>", "()V"⟩, prog_1_method_1_code, 1, none, [])
def jTe_init : Jm := ("VertexLanguage$Text", ⟨"VertexLanguage$Text", "<init>", "()V"⟩, prog_11_method_1_code, 1, none, [])
def jPr_init : Jm := ("VertexLanguage$Program", ⟨"VertexLanguage$Program", "<init>", "(LVertexLanguage$Text;)V"⟩, prog_9_method_1_code, 2, none, [])
def jLo_init : Jm := ("VertexLanguage$Lot", ⟨"VertexLanguage$Lot", "<init>", "(LVertexLanguage$Text;)V"⟩, prog_6_method_1_code, 2, none, [])
def jCo_init : Jm := ("VertexLanguage$Code", ⟨"VertexLanguage$Code", "<init>", "()V"⟩, prog_2_method_1_code, 1, none, [])
def jRe_init : Jm := ("VertexLanguage$Reader", ⟨"VertexLanguage$Reader", "<init>", "(LVertexLanguage$Text;LVertexLanguage$Program;)V"⟩, prog_10_method_1_code, 3, none, [])
def jCu_init : Jm := ("VertexLanguage$Cursor", ⟨"VertexLanguage$Cursor", "<init>", "(LVertexLanguage$Text;)V"⟩, prog_3_method_1_code, 2, none, [])
def jEx_init : Jm := ("VertexLanguage$Exps", ⟨"VertexLanguage$Exps", "<init>", "(LVertexLanguage$Text;LVertexLanguage$Cursor;LVertexLanguage$Program;)V"⟩, prog_4_method_1_code, 4, none, [])
def jGr_init : Jm := ("VertexLanguage$Graph", ⟨"VertexLanguage$Graph", "<init>", "()V"⟩, prog_5_method_1_code, 1, none, [])
def jGr_clear : Jm := ("VertexLanguage$Graph", ⟨"VertexLanguage$Graph", "clear", "(I)V"⟩, prog_5_method_2_code, 2, none, [])
def jAr_fill : Jm := ("java/util/Arrays", ⟨"java/util/Arrays", "fill", "([II)V"⟩, prog_25_method_103_code, 4, none, [])
def jMa_init : Jm := ("VertexLanguage$Machine", ⟨"VertexLanguage$Machine", "<init>", "(LVertexLanguage$Program;LVertexLanguage$Graph;)V"⟩, prog_7_method_1_code, 4, none, [])
def jMo_init : Jm := ("VertexLanguage$Moment", ⟨"VertexLanguage$Moment", "<init>", "()V"⟩, prog_8_method_1_code, 1, none, [])
def jWo_init : Jm := ("VertexLanguage$Worker", ⟨"VertexLanguage$Worker", "<init>", "(LVertexLanguage$Program;LVertexLanguage$Graph;LVertexLanguage$Moment;)V"⟩, prog_12_method_1_code, 4, none, [])
def jVL_feed : Jm := ("VertexLanguage", ⟨"VertexLanguage", "feed", "(IIIII)I"⟩, prog_1_method_2_code, 6, (some .int), [])
def jVL_putOnTape : Jm := ("VertexLanguage", ⟨"VertexLanguage", "putOnTape", "(I)V"⟩, prog_1_method_22_code, 3, none, [])
def jVL_end : Jm := ("VertexLanguage", ⟨"VertexLanguage", "end", "(I)I"⟩, prog_1_method_3_code, 2, (some .int), [])
def jVL_program : Jm := ("VertexLanguage", ⟨"VertexLanguage", "program", "()I"⟩, prog_1_method_4_code, 2, (some .int), [])
def jTe_load : Jm := ("VertexLanguage$Text", ⟨"VertexLanguage$Text", "load", "([BI)V"⟩, prog_11_method_2_code, 3, none, [])
def jMt_min : Jm := ("java/lang/Math", ⟨"java/lang/Math", "min", "(II)I"⟩, prog_18_method_69_code, 2, (some .int), [])
def jMt_max : Jm := ("java/lang/Math", ⟨"java/lang/Math", "max", "(II)I"⟩, prog_18_method_65_code, 2, (some .int), [])
def jTe_cut : Jm := ("VertexLanguage$Text", ⟨"VertexLanguage$Text", "cut", "()V"⟩, prog_11_method_5_code, 3, none, [])
def jTe_passBlanks : Jm := ("VertexLanguage$Text", ⟨"VertexLanguage$Text", "passBlanks", "(I)I"⟩, prog_11_method_6_code, 5, (some .int), [])
def jTe_cutToken : Jm := ("VertexLanguage$Text", ⟨"VertexLanguage$Text", "cutToken", "(I)I"⟩, prog_11_method_7_code, 3, (some .int), [])
def jTe_isLetter : Jm := ("VertexLanguage$Text", ⟨"VertexLanguage$Text", "isLetter", "(I)Z"⟩, prog_11_method_15_code, 1, (some .boolean), [])
def jTe_cutWord : Jm := ("VertexLanguage$Text", ⟨"VertexLanguage$Text", "cutWord", "(I)I"⟩, prog_11_method_8_code, 3, (some .int), [])
def jTe_isDigit : Jm := ("VertexLanguage$Text", ⟨"VertexLanguage$Text", "isDigit", "(I)Z"⟩, prog_11_method_16_code, 1, (some .boolean), [])
def jTe_wordKind : Jm := ("VertexLanguage$Text", ⟨"VertexLanguage$Text", "wordKind", "(II)I"⟩, prog_11_method_12_code, 6, (some .int), [])
def jSg_length : Jm := ("java/lang/String", ⟨"java/lang/String", "length", "()I"⟩, prog_20_method_54_code, 1, (some .int), [])
def jSg_coder : Jm := ("java/lang/String", ⟨"java/lang/String", "coder", "()B"⟩, prog_20_method_152_code, 1, (some .byte), [])
def jSg_charAt : Jm := ("java/lang/String", ⟨"java/lang/String", "charAt", "(I)C"⟩, prog_20_method_56_code, 2, (some .char), [])
def jSg_isLatin1 : Jm := ("java/lang/String", ⟨"java/lang/String", "isLatin1", "()Z"⟩, prog_20_method_154_code, 1, (some .boolean), [])
def jSL_charAt : Jm := ("java/lang/StringLatin1", ⟨"java/lang/StringLatin1", "charAt", "([BI)C"⟩, prog_21_method_2_code, 2, (some .char), [])
def jSg_checkIndex : Jm := ("java/lang/String", ⟨"java/lang/String", "checkIndex", "(II)V"⟩, prog_20_method_155_code, 2, none, [])
def jTe_isWord : Jm := ("VertexLanguage$Text", ⟨"VertexLanguage$Text", "isWord", "(III)Z"⟩, prog_11_method_13_code, 5, (some .boolean), [])
def jTe_put : Jm := ("VertexLanguage$Text", ⟨"VertexLanguage$Text", "put", "(IIII)V"⟩, prog_11_method_14_code, 5, none, [])
def jTe_cutNumber : Jm := ("VertexLanguage$Text", ⟨"VertexLanguage$Text", "cutNumber", "(I)I"⟩, prog_11_method_9_code, 5, (some .int), [])
def jMt_min_2 : Jm := ("java/lang/Math", ⟨"java/lang/Math", "min", "(JJ)J"⟩, prog_18_method_70_code, 4, (some .long), [])
def jTe_cutSign : Jm := ("VertexLanguage$Text", ⟨"VertexLanguage$Text", "cutSign", "(I)I"⟩, prog_11_method_10_code, 4, (some .int), [])
def jTe_pairAt : Jm := ("VertexLanguage$Text", ⟨"VertexLanguage$Text", "pairAt", "(I)I"⟩, prog_11_method_11_code, 3, (some .int), [])
def jSg_indexOf : Jm := ("java/lang/String", ⟨"java/lang/String", "indexOf", "(I)I"⟩, prog_20_method_79_code, 2, (some .int), [])
def jSg_indexOf_2 : Jm := ("java/lang/String", ⟨"java/lang/String", "indexOf", "(II)I"⟩, prog_20_method_80_code, 3, (some .int), [])
def jSL_indexOf : Jm := ("java/lang/StringLatin1", ⟨"java/lang/StringLatin1", "indexOf", "([BIII)I"⟩, prog_21_method_22_code, 4, (some .int), [])
def jSL_canEncode : Jm := ("java/lang/StringLatin1", ⟨"java/lang/StringLatin1", "canEncode", "(I)Z"⟩, prog_21_method_4_code, 1, (some .boolean), [])
def jSL_indexOfChar : Jm := ("java/lang/StringLatin1", ⟨"java/lang/StringLatin1", "indexOfChar", "([BIII)I"⟩, prog_21_method_23_code, 6, (some .int), [])
def jSg_checkBoundsBeginEnd : Jm := ("java/lang/String", ⟨"java/lang/String", "checkBoundsBeginEnd", "(III)V"⟩, prog_20_method_158_code, 3, none, [])
def jRe_read : Jm := ("VertexLanguage$Reader", ⟨"VertexLanguage$Reader", "read", "()I"⟩, prog_10_method_2_code, 2, (some .int), [])
def jPr_clear : Jm := ("VertexLanguage$Program", ⟨"VertexLanguage$Program", "clear", "()V"⟩, prog_9_method_2_code, 1, none, [])
def jLo_clear : Jm := ("VertexLanguage$Lot", ⟨"VertexLanguage$Lot", "clear", "()V"⟩, prog_6_method_2_code, 1, none, [])
def jCo_clear : Jm := ("VertexLanguage$Code", ⟨"VertexLanguage$Code", "clear", "()V"⟩, prog_2_method_2_code, 1, none, [])
def jCu_rewind : Jm := ("VertexLanguage$Cursor", ⟨"VertexLanguage$Cursor", "rewind", "()V"⟩, prog_3_method_2_code, 1, none, [])
def jEx_clear : Jm := ("VertexLanguage$Exps", ⟨"VertexLanguage$Exps", "clear", "()V"⟩, prog_4_method_2_code, 2, none, [])
def jCu_kind : Jm := ("VertexLanguage$Cursor", ⟨"VertexLanguage$Cursor", "kind", "()I"⟩, prog_3_method_4_code, 1, (some .int), [])
def jRe_tells : Jm := ("VertexLanguage$Reader", ⟨"VertexLanguage$Reader", "tells", "(I)Z"⟩, prog_10_method_5_code, 1, (some .boolean), [])
def jRe_readTold : Jm := ("VertexLanguage$Reader", ⟨"VertexLanguage$Reader", "readTold", "()V"⟩, prog_10_method_6_code, 1, none, [])
def jCu_take : Jm := ("VertexLanguage$Cursor", ⟨"VertexLanguage$Cursor", "take", "(I)I"⟩, prog_3_method_6_code, 3, (some .int), [])
def jCu_stop : Jm := ("VertexLanguage$Cursor", ⟨"VertexLanguage$Cursor", "stop", "(I)V"⟩, prog_3_method_7_code, 2, none, [])
def jRe_newName : Jm := ("VertexLanguage$Reader", ⟨"VertexLanguage$Reader", "newName", "(I)I"⟩, prog_10_method_7_code, 3, (some .int), [])
def jCu_sees : Jm := ("VertexLanguage$Cursor", ⟨"VertexLanguage$Cursor", "sees", "(I)Z"⟩, prog_3_method_5_code, 2, (some .boolean), [])
def jLo_isFull : Jm := ("VertexLanguage$Lot", ⟨"VertexLanguage$Lot", "isFull", "(I)Z"⟩, prog_6_method_5_code, 2, (some .boolean), [])
def jLo_find : Jm := ("VertexLanguage$Lot", ⟨"VertexLanguage$Lot", "find", "(I)I"⟩, prog_6_method_6_code, 3, (some .int), [])
def jTe_reads : Jm := ("VertexLanguage$Text", ⟨"VertexLanguage$Text", "reads", "(I[BII)Z"⟩, prog_11_method_4_code, 7, (some .boolean), [])
def jCu_blame : Jm := ("VertexLanguage$Cursor", ⟨"VertexLanguage$Cursor", "blame", "(II)V"⟩, prog_3_method_8_code, 4, none, [])
def jLo_add : Jm := ("VertexLanguage$Lot", ⟨"VertexLanguage$Lot", "add", "(III)I"⟩, prog_6_method_11_code, 5, (some .int), [])
def jRe_readState : Jm := ("VertexLanguage$Reader", ⟨"VertexLanguage$Reader", "readState", "()V"⟩, prog_10_method_8_code, 5, none, [])
def jRe_readBool : Jm := ("VertexLanguage$Reader", ⟨"VertexLanguage$Reader", "readBool", "()I"⟩, prog_10_method_9_code, 2, (some .int), [])
def jRe_readInt : Jm := ("VertexLanguage$Reader", ⟨"VertexLanguage$Reader", "readInt", "()I"⟩, prog_10_method_10_code, 3, (some .int), [])
def jRe_readFolded : Jm := ("VertexLanguage$Reader", ⟨"VertexLanguage$Reader", "readFolded", "(I[I)V"⟩, prog_10_method_11_code, 6, none, [])
def jPr_kindOfWay : Jm := ("VertexLanguage$Program", ⟨"VertexLanguage$Program", "kindOfWay", "(I)I"⟩, prog_9_method_6_code, 1, (some .int), [])
def jRe_readBlock : Jm := ("VertexLanguage$Reader", ⟨"VertexLanguage$Reader", "readBlock", "(I)V"⟩, prog_10_method_12_code, 4, none, [])
def jLo_size : Jm := ("VertexLanguage$Lot", ⟨"VertexLanguage$Lot", "size", "()I"⟩, prog_6_method_3_code, 1, (some .int), [])
def jRe_beginsStatement : Jm := ("VertexLanguage$Reader", ⟨"VertexLanguage$Reader", "beginsStatement", "(I)Z"⟩, prog_10_method_13_code, 1, (some .boolean), [])
def jRe_readStatement : Jm := ("VertexLanguage$Reader", ⟨"VertexLanguage$Reader", "readStatement", "(I)V"⟩, prog_10_method_14_code, 3, none, [])
def jCu_here : Jm := ("VertexLanguage$Cursor", ⟨"VertexLanguage$Cursor", "here", "()I"⟩, prog_3_method_3_code, 1, (some .int), [])
def jCo_add : Jm := ("VertexLanguage$Code", ⟨"VertexLanguage$Code", "add", "(III)I"⟩, prog_2_method_3_code, 5, (some .int), [])
def jRe_readSetting : Jm := ("VertexLanguage$Reader", ⟨"VertexLanguage$Reader", "readSetting", "(I)V"⟩, prog_10_method_15_code, 7, none, [])
def jLo_sortOf : Jm := ("VertexLanguage$Lot", ⟨"VertexLanguage$Lot", "sortOf", "(I)I"⟩, prog_6_method_8_code, 2, (some .int), [])
def jEx_exp : Jm := ("VertexLanguage$Exps", ⟨"VertexLanguage$Exps", "exp", "(I)I"⟩, prog_4_method_6_code, 3, (some .int), [])
def jEx_chain : Jm := ("VertexLanguage$Exps", ⟨"VertexLanguage$Exps", "chain", "(II)I"⟩, prog_4_method_7_code, 10, (some .int), [])
def jEx_one : Jm := ("VertexLanguage$Exps", ⟨"VertexLanguage$Exps", "one", "(I)I"⟩, prog_4_method_9_code, 6, (some .int), [])
def jEx_beginsOne : Jm := ("VertexLanguage$Exps", ⟨"VertexLanguage$Exps", "beginsOne", "(I)Z"⟩, prog_4_method_22_code, 1, (some .boolean), [])
def jEx_factDeed : Jm := ("VertexLanguage$Exps", ⟨"VertexLanguage$Exps", "factDeed", "(I)I"⟩, prog_4_method_23_code, 1, (some .int), [])
def jEx_base : Jm := ("VertexLanguage$Exps", ⟨"VertexLanguage$Exps", "base", "(I)I"⟩, prog_4_method_10_code, 2, (some .int), [])
def jEx_constant : Jm := ("VertexLanguage$Exps", ⟨"VertexLanguage$Exps", "constant", "()I"⟩, prog_4_method_11_code, 4, (some .int), [])
def jEx_know : Jm := ("VertexLanguage$Exps", ⟨"VertexLanguage$Exps", "know", "(III)V"⟩, prog_4_method_19_code, 4, none, [])
def jEx_named : Jm := ("VertexLanguage$Exps", ⟨"VertexLanguage$Exps", "named", "()I"⟩, prog_4_method_13_code, 4, (some .int), [])
def jEx_readingDeed : Jm := ("VertexLanguage$Exps", ⟨"VertexLanguage$Exps", "readingDeed", "(I)I"⟩, prog_4_method_24_code, 1, (some .int), [])
def jLo_numberOf : Jm := ("VertexLanguage$Lot", ⟨"VertexLanguage$Lot", "numberOf", "(I)I"⟩, prog_6_method_9_code, 2, (some .int), [])
def jLo_kindOf : Jm := ("VertexLanguage$Lot", ⟨"VertexLanguage$Lot", "kindOf", "(I)I"⟩, prog_6_method_10_code, 2, (some .int), [])
def jEx_column : Jm := ("VertexLanguage$Exps", ⟨"VertexLanguage$Exps", "column", "()I"⟩, prog_4_method_14_code, 5, (some .int), [])
def jEx_has : Jm := ("VertexLanguage$Exps", ⟨"VertexLanguage$Exps", "has", "()I"⟩, prog_4_method_15_code, 5, (some .int), [])
def jEx_draw : Jm := ("VertexLanguage$Exps", ⟨"VertexLanguage$Exps", "draw", "(I)I"⟩, prog_4_method_16_code, 4, (some .int), [])
def jEx_demand : Jm := ("VertexLanguage$Exps", ⟨"VertexLanguage$Exps", "demand", "(II)V"⟩, prog_4_method_5_code, 3, none, [])
def jEx_choice : Jm := ("VertexLanguage$Exps", ⟨"VertexLanguage$Exps", "choice", "(I)I"⟩, prog_4_method_17_code, 8, (some .int), [])
def jCo_aimHere : Jm := ("VertexLanguage$Code", ⟨"VertexLanguage$Code", "aimHere", "(I)V"⟩, prog_2_method_4_code, 2, none, [])
def jEx_group : Jm := ("VertexLanguage$Exps", ⟨"VertexLanguage$Exps", "group", "(I)I"⟩, prog_4_method_18_code, 5, (some .int), [])
def jEx_fact : Jm := ("VertexLanguage$Exps", ⟨"VertexLanguage$Exps", "fact", "()I"⟩, prog_4_method_12_code, 4, (some .int), [])
def jEx_settle : Jm := ("VertexLanguage$Exps", ⟨"VertexLanguage$Exps", "settle", "(II)V"⟩, prog_4_method_20_code, 4, none, [])
def jEx_lineOf : Jm := ("VertexLanguage$Exps", ⟨"VertexLanguage$Exps", "lineOf", "(I)I"⟩, prog_4_method_21_code, 1, (some .int), [])
def jEx_join : Jm := ("VertexLanguage$Exps", ⟨"VertexLanguage$Exps", "join", "(IIII)V"⟩, prog_4_method_8_code, 6, none, [])
def jRe_readLet : Jm := ("VertexLanguage$Reader", ⟨"VertexLanguage$Reader", "readLet", "(I)V"⟩, prog_10_method_16_code, 4, none, [])
def jEx_kindOf : Jm := ("VertexLanguage$Exps", ⟨"VertexLanguage$Exps", "kindOf", "(I)I"⟩, prog_4_method_3_code, 2, (some .int), [])
def jRe_readSend : Jm := ("VertexLanguage$Reader", ⟨"VertexLanguage$Reader", "readSend", "(I)V"⟩, prog_10_method_18_code, 6, none, [])
def jRe_namedEntry : Jm := ("VertexLanguage$Reader", ⟨"VertexLanguage$Reader", "namedEntry", "(I)I"⟩, prog_10_method_17_code, 4, (some .int), [])
def jCo_mark : Jm := ("VertexLanguage$Code", ⟨"VertexLanguage$Code", "mark", "(II)V"⟩, prog_2_method_5_code, 3, none, [])
def jRe_readGive : Jm := ("VertexLanguage$Reader", ⟨"VertexLanguage$Reader", "readGive", "(I)V"⟩, prog_10_method_19_code, 4, none, [])
def jRe_readIf : Jm := ("VertexLanguage$Reader", ⟨"VertexLanguage$Reader", "readIf", "(I)V"⟩, prog_10_method_20_code, 5, none, [])
def jRe_readLoop : Jm := ("VertexLanguage$Reader", ⟨"VertexLanguage$Reader", "readLoop", "(I)V"⟩, prog_10_method_21_code, 4, none, [])
def jRe_readHalt : Jm := ("VertexLanguage$Reader", ⟨"VertexLanguage$Reader", "readHalt", "()V"⟩, prog_10_method_22_code, 1, none, [])
def jLo_shrinkTo : Jm := ("VertexLanguage$Lot", ⟨"VertexLanguage$Lot", "shrinkTo", "(I)V"⟩, prog_6_method_12_code, 2, none, [])
def jCu_worst : Jm := ("VertexLanguage$Cursor", ⟨"VertexLanguage$Cursor", "worst", "()I"⟩, prog_3_method_9_code, 1, (some .int), [])
def jRe_writeOut : Jm := ("VertexLanguage$Reader", ⟨"VertexLanguage$Reader", "writeOut", "()V"⟩, prog_10_method_4_code, 2, none, [])
def jEx_isDropped : Jm := ("VertexLanguage$Exps", ⟨"VertexLanguage$Exps", "isDropped", "(I)Z"⟩, prog_4_method_4_code, 2, (some .boolean), [])
def jPr_write : Jm := ("VertexLanguage$Program", ⟨"VertexLanguage$Program", "write", "([BII)V"⟩, prog_9_method_4_code, 5, none, [])
def jPr_writeByte : Jm := ("VertexLanguage$Program", ⟨"VertexLanguage$Program", "writeByte", "(B)V"⟩, prog_9_method_5_code, 2, none, [])
def jVL_fault : Jm := ("VertexLanguage", ⟨"VertexLanguage", "fault", "(I)I"⟩, prog_1_method_5_code, 2, (some .int), [])
def jRe_faultPlace : Jm := ("VertexLanguage$Reader", ⟨"VertexLanguage$Reader", "faultPlace", "()I"⟩, prog_10_method_3_code, 1, (some .int), [])
def jCu_worstPlace : Jm := ("VertexLanguage$Cursor", ⟨"VertexLanguage$Cursor", "worstPlace", "()I"⟩, prog_3_method_10_code, 1, (some .int), [])
def jTe_lineOf : Jm := ("VertexLanguage$Text", ⟨"VertexLanguage$Text", "lineOf", "(I)I"⟩, prog_11_method_3_code, 4, (some .int), [])
def jVL_print : Jm := ("VertexLanguage", ⟨"VertexLanguage", "print", "(I)I"⟩, prog_1_method_6_code, 2, (some .int), [])
def jVL_name : Jm := ("VertexLanguage", ⟨"VertexLanguage", "name", "()I"⟩, prog_1_method_7_code, 2, (some .int), [])
def jLo_findBytes : Jm := ("VertexLanguage$Lot", ⟨"VertexLanguage$Lot", "findBytes", "([BI)I"⟩, prog_6_method_7_code, 4, (some .int), [])
def jVL_count : Jm := ("VertexLanguage", ⟨"VertexLanguage", "count", "(I)I"⟩, prog_1_method_8_code, 2, (some .int), [])
def jPr_howMany : Jm := ("VertexLanguage$Program", ⟨"VertexLanguage$Program", "howMany", "(I)I"⟩, prog_9_method_3_code, 2, (some .int), [])
def jLo_howMany : Jm := ("VertexLanguage$Lot", ⟨"VertexLanguage$Lot", "howMany", "(I)I"⟩, prog_6_method_4_code, 2, (some .int), [])
def jVL_nodes : Jm := ("VertexLanguage", ⟨"VertexLanguage", "nodes", "(I)I"⟩, prog_1_method_9_code, 3, (some .int), [])
def jVL_arc : Jm := ("VertexLanguage", ⟨"VertexLanguage", "arc", "(II)I"⟩, prog_1_method_10_code, 3, (some .int), [])
def jGr_hasNode : Jm := ("VertexLanguage$Graph", ⟨"VertexLanguage$Graph", "hasNode", "(I)Z"⟩, prog_5_method_3_code, 2, (some .boolean), [])
def jGr_add : Jm := ("VertexLanguage$Graph", ⟨"VertexLanguage$Graph", "add", "(II)I"⟩, prog_5_method_4_code, 4, (some .int), [])
def jGr_hang : Jm := ("VertexLanguage$Graph", ⟨"VertexLanguage$Graph", "hang", "(II[I[I[I)V"⟩, prog_5_method_5_code, 5, none, [])
def jVL_weight : Jm := ("VertexLanguage", ⟨"VertexLanguage", "weight", "(III)I"⟩, prog_1_method_11_code, 4, (some .int), [])
def jGr_setWeight : Jm := ("VertexLanguage$Graph", ⟨"VertexLanguage$Graph", "setWeight", "(III)I"⟩, prog_5_method_10_code, 5, (some .int), [])
def jGr_weightOf : Jm := ("VertexLanguage$Graph", ⟨"VertexLanguage$Graph", "weightOf", "(II)I"⟩, prog_5_method_9_code, 3, (some .int), [])
def jVL_begin : Jm := ("VertexLanguage", ⟨"VertexLanguage", "begin", "(I)I"⟩, prog_1_method_12_code, 2, (some .int), [])
def jMa_setOut : Jm := ("VertexLanguage$Machine", ⟨"VertexLanguage$Machine", "setOut", "(I)V"⟩, prog_7_method_3_code, 2, none, [])
def jMa_now : Jm := ("VertexLanguage$Machine", ⟨"VertexLanguage$Machine", "now", "()LVertexLanguage$Moment;"⟩, prog_7_method_2_code, 1, (some (.object "VertexLanguage$Moment")), [])
def jMo_beginAs : Jm := ("VertexLanguage$Moment", ⟨"VertexLanguage$Moment", "beginAs", "(LVertexLanguage$Program;)V"⟩, prog_8_method_2_code, 3, none, [])
def jMo_forgetMessages : Jm := ("VertexLanguage$Moment", ⟨"VertexLanguage$Moment", "forgetMessages", "(LVertexLanguage$Program;)V"⟩, prog_8_method_4_code, 3, none, [])
def jPr_nothing : Jm := ("VertexLanguage$Program", ⟨"VertexLanguage$Program", "nothing", "(I)I"⟩, prog_9_method_7_code, 1, (some .int), [])
def jVL_run : Jm := ("VertexLanguage", ⟨"VertexLanguage", "run", "(I)I"⟩, prog_1_method_13_code, 3, (some .int), [])
def jMa_hasEnded : Jm := ("VertexLanguage$Machine", ⟨"VertexLanguage$Machine", "hasEnded", "()Z"⟩, prog_7_method_4_code, 1, (some .boolean), [])
def jMo_restingOf : Jm := ("VertexLanguage$Moment", ⟨"VertexLanguage$Moment", "restingOf", "(I)I"⟩, prog_8_method_8_code, 4, (some .int), [])
def jMa_doTurn : Jm := ("VertexLanguage$Machine", ⟨"VertexLanguage$Machine", "doTurn", "()Z"⟩, prog_7_method_5_code, 6, (some .boolean), [])
def jMo_follow : Jm := ("VertexLanguage$Moment", ⟨"VertexLanguage$Moment", "follow", "(LVertexLanguage$Moment;LVertexLanguage$Program;)V"⟩, prog_8_method_3_code, 3, none, [])
def jWo_setTurn : Jm := ("VertexLanguage$Worker", ⟨"VertexLanguage$Worker", "setTurn", "(ILVertexLanguage$Moment;LVertexLanguage$Moment;)V"⟩, prog_12_method_2_code, 4, none, [])
def jMo_wakes : Jm := ("VertexLanguage$Moment", ⟨"VertexLanguage$Moment", "wakes", "(I)Z"⟩, prog_8_method_5_code, 3, (some .boolean), [])
def jWo_work : Jm := ("VertexLanguage$Worker", ⟨"VertexLanguage$Worker", "work", "(I)V"⟩, prog_12_method_3_code, 4, none, [])
def jWo_perform : Jm := ("VertexLanguage$Worker", ⟨"VertexLanguage$Worker", "perform", "(II)V"⟩, prog_12_method_4_code, 3, none, [])
def jWo_countStep : Jm := ("VertexLanguage$Worker", ⟨"VertexLanguage$Worker", "countStep", "(I)Z"⟩, prog_12_method_5_code, 2, (some .boolean), [])
def jWo_fail : Jm := ("VertexLanguage$Worker", ⟨"VertexLanguage$Worker", "fail", "(II)V"⟩, prog_12_method_6_code, 3, none, [])
def jWo_operand : Jm := ("VertexLanguage$Worker", ⟨"VertexLanguage$Worker", "operand", "(II)I"⟩, prog_12_method_9_code, 3, (some .int), [])
def jWo_push : Jm := ("VertexLanguage$Worker", ⟨"VertexLanguage$Worker", "push", "(I)V"⟩, prog_12_method_7_code, 2, none, [])
def jWo_operate : Jm := ("VertexLanguage$Worker", ⟨"VertexLanguage$Worker", "operate", "(II)V"⟩, prog_12_method_10_code, 4, none, [])
def jWo_pop : Jm := ("VertexLanguage$Worker", ⟨"VertexLanguage$Worker", "pop", "()I"⟩, prog_12_method_8_code, 1, (some .int), [])
def jWo_draw : Jm := ("VertexLanguage$Worker", ⟨"VertexLanguage$Worker", "draw", "(I)I"⟩, prog_12_method_11_code, 3, (some .int), [])
def jWo_mixed : Jm := ("VertexLanguage$Worker", ⟨"VertexLanguage$Worker", "mixed", "(II)I"⟩, prog_12_method_12_code, 3, (some .int), [])
def jWo_binary : Jm := ("VertexLanguage$Worker", ⟨"VertexLanguage$Worker", "binary", "(III)V"⟩, prog_12_method_13_code, 5, none, [])
def jWo_combined : Jm := ("VertexLanguage$Worker", ⟨"VertexLanguage$Worker", "combined", "(III)I"⟩, prog_12_method_14_code, 3, (some .int), [])
def jWo_flow : Jm := ("VertexLanguage$Worker", ⟨"VertexLanguage$Worker", "flow", "(II)V"⟩, prog_12_method_15_code, 4, none, [])
def jWo_keepOrDrop : Jm := ("VertexLanguage$Worker", ⟨"VertexLanguage$Worker", "keepOrDrop", "(II)V"⟩, prog_12_method_16_code, 4, none, [])
def jWo_setRepeats : Jm := ("VertexLanguage$Worker", ⟨"VertexLanguage$Worker", "setRepeats", "(II)V"⟩, prog_12_method_17_code, 3, none, [])
def jWo_repeat : Jm := ("VertexLanguage$Worker", ⟨"VertexLanguage$Worker", "repeat", "(III)V"⟩, prog_12_method_18_code, 4, none, [])
def jGr_firstArc : Jm := ("VertexLanguage$Graph", ⟨"VertexLanguage$Graph", "firstArc", "(IZ)I"⟩, prog_5_method_6_code, 3, (some .int), [])
def jGr_nextArc : Jm := ("VertexLanguage$Graph", ⟨"VertexLanguage$Graph", "nextArc", "(IZ)I"⟩, prog_5_method_7_code, 3, (some .int), [])
def jWo_act : Jm := ("VertexLanguage$Worker", ⟨"VertexLanguage$Worker", "act", "(II)V"⟩, prog_12_method_19_code, 3, none, [])
def jGr_otherEnd : Jm := ("VertexLanguage$Graph", ⟨"VertexLanguage$Graph", "otherEnd", "(IZ)I"⟩, prog_5_method_8_code, 3, (some .int), [])
def jMo_deliver : Jm := ("VertexLanguage$Moment", ⟨"VertexLanguage$Moment", "deliver", "(LVertexLanguage$Program;III)V"⟩, prog_8_method_6_code, 6, none, [])
def jPr_folded : Jm := ("VertexLanguage$Program", ⟨"VertexLanguage$Program", "folded", "(IIII)I"⟩, prog_9_method_8_code, 4, (some .int), [])
def jMo_give : Jm := ("VertexLanguage$Moment", ⟨"VertexLanguage$Moment", "give", "(LVertexLanguage$Program;II)V"⟩, prog_8_method_7_code, 4, none, [])
def jMa_noteFailure : Jm := ("VertexLanguage$Machine", ⟨"VertexLanguage$Machine", "noteFailure", "(II)V"⟩, prog_7_method_6_code, 3, none, [])
def jVL_undo : Jm := ("VertexLanguage", ⟨"VertexLanguage", "undo", "()I"⟩, prog_1_method_14_code, 1, (some .int), [])
def jMa_goBack : Jm := ("VertexLanguage$Machine", ⟨"VertexLanguage$Machine", "goBack", "()V"⟩, prog_7_method_7_code, 1, none, [])
def jVL_told : Jm := ("VertexLanguage", ⟨"VertexLanguage", "told", "(I)I"⟩, prog_1_method_15_code, 2, (some .int), [])
def jMa_tell : Jm := ("VertexLanguage$Machine", ⟨"VertexLanguage$Machine", "tell", "(I)I"⟩, prog_7_method_8_code, 2, (some .int), [])
def jVL_state : Jm := ("VertexLanguage", ⟨"VertexLanguage", "state", "(II)I"⟩, prog_1_method_16_code, 3, (some .int), [])
def jVL_runsOn : Jm := ("VertexLanguage", ⟨"VertexLanguage", "runsOn", "(I)Z"⟩, prog_1_method_21_code, 2, (some .boolean), [])
def jVL_message : Jm := ("VertexLanguage", ⟨"VertexLanguage", "message", "(II)I"⟩, prog_1_method_17_code, 3, (some .int), [])
def jVL_messages : Jm := ("VertexLanguage", ⟨"VertexLanguage", "messages", "(II)I"⟩, prog_1_method_18_code, 3, (some .int), [])
def jVL_global : Jm := ("VertexLanguage", ⟨"VertexLanguage", "global", "(I)I"⟩, prog_1_method_19_code, 2, (some .int), [])
def jVL_halted : Jm := ("VertexLanguage", ⟨"VertexLanguage", "halted", "(I)I"⟩, prog_1_method_20_code, 2, (some .int), [])
def jMd_init : Jm := ("VertexLanguageModel", ⟨"VertexLanguageModel", "<init>", "()V"⟩, prog_14_method_4_code, 1, none, [])
def jSt_init : Jm := ("VertexLanguageModel$Stop", ⟨"VertexLanguageModel$Stop", "<init>", "()V"⟩, prog_15_method_1_code, 1, none, [])
def jMd_feed : Jm := ("VertexLanguageModel", ⟨"VertexLanguageModel", "feed", "(IIIII)I"⟩, prog_14_method_5_code, 8, (some .int), [])
def jMd_end : Jm := ("VertexLanguageModel", ⟨"VertexLanguageModel", "end", "(I)I"⟩, prog_14_method_6_code, 2, (some .int), [])
def jMd_in : Jm := ("VertexLanguageModel", ⟨"VertexLanguageModel", "in", "(JJJ)Z"⟩, prog_14_method_2_code, 6, (some .boolean), [])
def jMd_program : Jm := ("VertexLanguageModel", ⟨"VertexLanguageModel", "program", "()I"⟩, prog_14_method_43_code, 3, (some .int), [(122, 143, 144, 12)])
def jMd_findTokens : Jm := ("VertexLanguageModel", ⟨"VertexLanguageModel", "findTokens", "()V"⟩, prog_14_method_11_code, 6, none, [])
def jMd_token : Jm := ("VertexLanguageModel", ⟨"VertexLanguageModel", "token", "(IIII)V"⟩, prog_14_method_10_code, 5, none, [])
def jMd_isLetter : Jm := ("VertexLanguageModel", ⟨"VertexLanguageModel", "isLetter", "(I)Z"⟩, prog_14_method_7_code, 1, (some .boolean), [])
def jMd_isDigit : Jm := ("VertexLanguageModel", ⟨"VertexLanguageModel", "isDigit", "(I)Z"⟩, prog_14_method_8_code, 1, (some .boolean), [])
def jMd_isText : Jm := ("VertexLanguageModel", ⟨"VertexLanguageModel", "isText", "(IILjava/lang/String;)Z"⟩, prog_14_method_9_code, 6, (some .boolean), [])
def jMd_readProgram : Jm := ("VertexLanguageModel", ⟨"VertexLanguageModel", "readProgram", "()V"⟩, prog_14_method_32_code, 2, none, [])
def jMd_is : Jm := ("VertexLanguageModel", ⟨"VertexLanguageModel", "is", "(Ljava/lang/String;)Z"⟩, prog_14_method_13_code, 3, (some .boolean), [])
def jMd_readTold : Jm := ("VertexLanguageModel", ⟨"VertexLanguageModel", "readTold", "()V"⟩, prog_14_method_31_code, 5, none, [])
def jMd_pass : Jm := ("VertexLanguageModel", ⟨"VertexLanguageModel", "pass", "()I"⟩, prog_14_method_14_code, 1, (some .int), [])
def jMd_placeOf : Jm := ("VertexLanguageModel", ⟨"VertexLanguageModel", "placeOf", "(I)I"⟩, prog_14_method_12_code, 2, (some .int), [])
def jMd_fail : Jm := ("VertexLanguageModel", ⟨"VertexLanguageModel", "fail", "(II)V"⟩, prog_14_method_3_code, 3, none, [])
def jMd_mustName : Jm := ("VertexLanguageModel", ⟨"VertexLanguageModel", "mustName", "()I"⟩, prog_14_method_16_code, 1, (some .int), [])
def jMd_most : Jm := ("VertexLanguageModel", ⟨"VertexLanguageModel", "most", "(I)I"⟩, prog_14_method_30_code, 1, (some .int), [])
def jMd_must : Jm := ("VertexLanguageModel", ⟨"VertexLanguageModel", "must", "(Ljava/lang/String;)I"⟩, prog_14_method_15_code, 2, (some .int), [])
def jMd_readBlock : Jm := ("VertexLanguageModel", ⟨"VertexLanguageModel", "readBlock", "(LVertexLanguageModel;)I"⟩, prog_14_method_28_code, 6, (some .int), [])
def jMd_readStatement : Jm := ("VertexLanguageModel", ⟨"VertexLanguageModel", "readStatement", "(LVertexLanguageModel;)I"⟩, prog_14_method_29_code, 3, (some .int), [])
def jMd_beginsStatement : Jm := ("VertexLanguageModel", ⟨"VertexLanguageModel", "beginsStatement", "()Z"⟩, prog_14_method_27_code, 1, (some .boolean), [])
def jMd_readExp : Jm := ("VertexLanguageModel", ⟨"VertexLanguageModel", "readExp", "(LVertexLanguageModel;)I"⟩, prog_14_method_20_code, 4, (some .int), [])
def jMd_mustBeginExp : Jm := ("VertexLanguageModel", ⟨"VertexLanguageModel", "mustBeginExp", "()V"⟩, prog_14_method_19_code, 1, none, [])
def jMd_beginsExp : Jm := ("VertexLanguageModel", ⟨"VertexLanguageModel", "beginsExp", "()Z"⟩, prog_14_method_18_code, 2, (some .boolean), [])
def jMd_readBoth : Jm := ("VertexLanguageModel", ⟨"VertexLanguageModel", "readBoth", "(LVertexLanguageModel;)I"⟩, prog_14_method_21_code, 4, (some .int), [])
def jMd_readTest : Jm := ("VertexLanguageModel", ⟨"VertexLanguageModel", "readTest", "(LVertexLanguageModel;)I"⟩, prog_14_method_23_code, 4, (some .int), [])
def jMd_readSum : Jm := ("VertexLanguageModel", ⟨"VertexLanguageModel", "readSum", "(LVertexLanguageModel;)I"⟩, prog_14_method_24_code, 4, (some .int), [])
def jMd_readTerm : Jm := ("VertexLanguageModel", ⟨"VertexLanguageModel", "readTerm", "(LVertexLanguageModel;)I"⟩, prog_14_method_25_code, 4, (some .int), [])
def jMd_readOne : Jm := ("VertexLanguageModel", ⟨"VertexLanguageModel", "readOne", "(LVertexLanguageModel;)I"⟩, prog_14_method_26_code, 8, (some .int), [])
def jMd_exp : Jm := ("VertexLanguageModel", ⟨"VertexLanguageModel", "exp", "(IIIII)I"⟩, prog_14_method_17_code, 7, (some .int), [])
def jMd_isTest : Jm := ("VertexLanguageModel", ⟨"VertexLanguageModel", "isTest", "()Z"⟩, prog_14_method_22_code, 1, (some .boolean), [])
def jMd_judgeProgram : Jm := ("VertexLanguageModel", ⟨"VertexLanguageModel", "judgeProgram", "()V"⟩, prog_14_method_42_code, 2, none, [])
def jMd_find : Jm := ("VertexLanguageModel", ⟨"VertexLanguageModel", "find", "(I)Z"⟩, prog_14_method_35_code, 3, (some .boolean), [])
def jMd_sameName : Jm := ("VertexLanguageModel", ⟨"VertexLanguageModel", "sameName", "(II)Z"⟩, prog_14_method_34_code, 5, (some .boolean), [])
def jMd_numberOf : Jm := ("VertexLanguageModel", ⟨"VertexLanguageModel", "numberOf", "(I)I"⟩, prog_14_method_36_code, 4, (some .int), [])
def jMd_blame : Jm := ("VertexLanguageModel", ⟨"VertexLanguageModel", "blame", "(II)V"⟩, prog_14_method_33_code, 4, none, [])
def jMd_judgeBlock : Jm := ("VertexLanguageModel", ⟨"VertexLanguageModel", "judgeBlock", "(LVertexLanguageModel;I)V"⟩, prog_14_method_41_code, 10, none, [])
def jMd_judge : Jm := ("VertexLanguageModel", ⟨"VertexLanguageModel", "judge", "(LVertexLanguageModel;IZ)I"⟩, prog_14_method_38_code, 7, (some .int), [])
def jMd_mustBe : Jm := ("VertexLanguageModel", ⟨"VertexLanguageModel", "mustBe", "(III)V"⟩, prog_14_method_37_code, 4, none, [])
def jMd_judgeBinary : Jm := ("VertexLanguageModel", ⟨"VertexLanguageModel", "judgeBinary", "(LVertexLanguageModel;IZ)I"⟩, prog_14_method_40_code, 9, (some .int), [])
def jMd_isSign : Jm := ("VertexLanguageModel", ⟨"VertexLanguageModel", "isSign", "(ILjava/lang/String;)Z"⟩, prog_14_method_39_code, 3, (some .boolean), [])
def jMd_printAll : Jm := ("VertexLanguageModel", ⟨"VertexLanguageModel", "printAll", "()V"⟩, prog_14_method_50_code, 3, none, [])
def jMd_showText : Jm := ("VertexLanguageModel", ⟨"VertexLanguageModel", "showText", "(Ljava/lang/String;)V"⟩, prog_14_method_46_code, 3, none, [])
def jMd_show : Jm := ("VertexLanguageModel", ⟨"VertexLanguageModel", "show", "(I)V"⟩, prog_14_method_45_code, 3, none, [])
def jMd_showBlock : Jm := ("VertexLanguageModel", ⟨"VertexLanguageModel", "showBlock", "(LVertexLanguageModel;I)V"⟩, prog_14_method_49_code, 3, none, [])
def jMd_showExp : Jm := ("VertexLanguageModel", ⟨"VertexLanguageModel", "showExp", "(LVertexLanguageModel;II)V"⟩, prog_14_method_48_code, 4, none, [])
def jMd_line : Jm := ("VertexLanguageModel", ⟨"VertexLanguageModel", "line", "(I)I"⟩, prog_14_method_47_code, 5, (some .int), [])
def jMd_fault : Jm := ("VertexLanguageModel", ⟨"VertexLanguageModel", "fault", "(I)I"⟩, prog_14_method_44_code, 2, (some .int), [])
def jMd_print : Jm := ("VertexLanguageModel", ⟨"VertexLanguageModel", "print", "(I)I"⟩, prog_14_method_51_code, 2, (some .int), [])
def jMd_name : Jm := ("VertexLanguageModel", ⟨"VertexLanguageModel", "name", "()I"⟩, prog_14_method_52_code, 5, (some .int), [])
def jMd_count : Jm := ("VertexLanguageModel", ⟨"VertexLanguageModel", "count", "(I)I"⟩, prog_14_method_53_code, 2, (some .int), [])
def jMd_nodes : Jm := ("VertexLanguageModel", ⟨"VertexLanguageModel", "nodes", "(I)I"⟩, prog_14_method_54_code, 3, (some .int), [])
def jMd_arc : Jm := ("VertexLanguageModel", ⟨"VertexLanguageModel", "arc", "(II)I"⟩, prog_14_method_55_code, 4, (some .int), [])
def jMd_weight : Jm := ("VertexLanguageModel", ⟨"VertexLanguageModel", "weight", "(III)I"⟩, prog_14_method_56_code, 5, (some .int), [])
def jMd_begin : Jm := ("VertexLanguageModel", ⟨"VertexLanguageModel", "begin", "(I)I"⟩, prog_14_method_61_code, 4, (some .int), [])
def jMd_wayOf : Jm := ("VertexLanguageModel", ⟨"VertexLanguageModel", "wayOf", "(II)I"⟩, prog_14_method_58_code, 3, (some .int), [])
def jMd_toldOf : Jm := ("VertexLanguageModel", ⟨"VertexLanguageModel", "toldOf", "(II)I"⟩, prog_14_method_57_code, 4, (some .int), [])
def jMd_run : Jm := ("VertexLanguageModel", ⟨"VertexLanguageModel", "run", "(I)I"⟩, prog_14_method_77_code, 3, (some .int), [])
def jMd_hasEnded : Jm := ("VertexLanguageModel", ⟨"VertexLanguageModel", "hasEnded", "()Z"⟩, prog_14_method_76_code, 1, (some .boolean), [])
def jMd_underWay : Jm := ("VertexLanguageModel", ⟨"VertexLanguageModel", "underWay", "()I"⟩, prog_14_method_74_code, 3, (some .int), [])
def jMd_haltedCount : Jm := ("VertexLanguageModel", ⟨"VertexLanguageModel", "haltedCount", "()I"⟩, prog_14_method_75_code, 3, (some .int), [])
def jMd_oneTurn : Jm := ("VertexLanguageModel", ⟨"VertexLanguageModel", "oneTurn", "()Z"⟩, prog_14_method_73_code, 4, (some .boolean), [(70, 199, 202, 12)])
def jMd_save : Jm := ("VertexLanguageModel", ⟨"VertexLanguageModel", "save", "([II)V"⟩, prog_14_method_62_code, 4, none, [])
def jMd_goBlock : Jm := ("VertexLanguageModel", ⟨"VertexLanguageModel", "goBlock", "(LVertexLanguageModel;I)V"⟩, prog_14_method_72_code, 7, none, [])
def jMd_step : Jm := ("VertexLanguageModel", ⟨"VertexLanguageModel", "step", "()V"⟩, prog_14_method_64_code, 1, none, [])
def jMd_value : Jm := ("VertexLanguageModel", ⟨"VertexLanguageModel", "value", "(LVertexLanguageModel;I)I"⟩, prog_14_method_65_code, 4, (some .int), [])
def jMd_drawn : Jm := ("VertexLanguageModel", ⟨"VertexLanguageModel", "drawn", "(I)I"⟩, prog_14_method_68_code, 3, (some .int), [])
def jMd_mixed : Jm := ("VertexLanguageModel", ⟨"VertexLanguageModel", "mixed", "(II)I"⟩, prog_14_method_67_code, 3, (some .int), [])
def jMd_binary : Jm := ("VertexLanguageModel", ⟨"VertexLanguageModel", "binary", "(LVertexLanguageModel;I)I"⟩, prog_14_method_69_code, 6, (some .int), [])
def jMd_operand : Jm := ("VertexLanguageModel", ⟨"VertexLanguageModel", "operand", "(I)I"⟩, prog_14_method_66_code, 8, (some .int), [])
def jMd_nothing : Jm := ("VertexLanguageModel", ⟨"VertexLanguageModel", "nothing", "(I)I"⟩, prog_14_method_59_code, 1, (some .int), [])
def jMd_deliver : Jm := ("VertexLanguageModel", ⟨"VertexLanguageModel", "deliver", "(III)V"⟩, prog_14_method_71_code, 5, none, [])
def jMd_folded : Jm := ("VertexLanguageModel", ⟨"VertexLanguageModel", "folded", "(IIII)I"⟩, prog_14_method_60_code, 4, (some .int), [])
def jMd_give : Jm := ("VertexLanguageModel", ⟨"VertexLanguageModel", "give", "(II)V"⟩, prog_14_method_70_code, 3, none, [])
def jMd_bring : Jm := ("VertexLanguageModel", ⟨"VertexLanguageModel", "bring", "([II)V"⟩, prog_14_method_63_code, 4, none, [])
def jMd_undo : Jm := ("VertexLanguageModel", ⟨"VertexLanguageModel", "undo", "()I"⟩, prog_14_method_78_code, 1, (some .int), [])
def jMd_told : Jm := ("VertexLanguageModel", ⟨"VertexLanguageModel", "told", "(I)I"⟩, prog_14_method_79_code, 2, (some .int), [])
def jMd_state : Jm := ("VertexLanguageModel", ⟨"VertexLanguageModel", "state", "(II)I"⟩, prog_14_method_80_code, 3, (some .int), [])
def jMd_message : Jm := ("VertexLanguageModel", ⟨"VertexLanguageModel", "message", "(II)I"⟩, prog_14_method_82_code, 3, (some .int), [])
def jMd_noFold : Jm := ("VertexLanguageModel", ⟨"VertexLanguageModel", "noFold", "(II)Z"⟩, prog_14_method_81_code, 3, (some .boolean), [])
def jMd_messages : Jm := ("VertexLanguageModel", ⟨"VertexLanguageModel", "messages", "(II)I"⟩, prog_14_method_83_code, 3, (some .int), [])
def jMd_global : Jm := ("VertexLanguageModel", ⟨"VertexLanguageModel", "global", "(I)I"⟩, prog_14_method_84_code, 2, (some .int), [])
def jMd_halted : Jm := ("VertexLanguageModel", ⟨"VertexLanguageModel", "halted", "(I)I"⟩, prog_14_method_85_code, 2, (some .int), [])
set_option maxRecDepth 20000 in
theorem mok_Gr_clear : MOK jGr_clear 1 := ⟨mt_2 57 rfl rfl, mt_1 9 rfl rfl, by decide +kernel, by decide +kernel, by decide⟩
set_option maxRecDepth 20000 in
theorem mok_Ar_fill : MOK jAr_fill 2 := ⟨mt_2 60 rfl rfl, mt_1 10 rfl rfl, by decide +kernel, by decide +kernel, by decide⟩
set_option maxRecDepth 20000 in
theorem mok_VL_feed : MOK jVL_feed 5 := ⟨mt_3 51 rfl rfl, mt_1 1 rfl rfl, by decide +kernel, by decide +kernel, by decide⟩
set_option maxRecDepth 20000 in
theorem mok_VL_putOnTape : MOK jVL_putOnTape 1 := ⟨mt_3 55 rfl rfl, mt_1 1 rfl rfl, by decide +kernel, by decide +kernel, by decide⟩
set_option maxRecDepth 20000 in
theorem mok_VL_end : MOK jVL_end 1 := ⟨mt_3 59 rfl rfl, mt_1 1 rfl rfl, by decide +kernel, by decide +kernel, by decide⟩
set_option maxRecDepth 20000 in
theorem mok_VL_program : MOK jVL_program 0 := ⟨mt_3 63 rfl rfl, mt_1 1 rfl rfl, by decide +kernel, by decide +kernel, by decide⟩
set_option maxRecDepth 20000 in
theorem mok_Te_load : MOK jTe_load 2 := ⟨mt_3 67 rfl rfl, mt_1 2 rfl rfl, by decide +kernel, by decide +kernel, by decide⟩
set_option maxRecDepth 20000 in
theorem mok_Mt_min : MOK jMt_min 2 := ⟨mt_3 70 rfl rfl, mt_1 19 rfl rfl, by decide +kernel, by decide +kernel, by decide⟩
set_option maxRecDepth 20000 in
theorem mok_Mt_max : MOK jMt_max 2 := ⟨mt_3 73 rfl rfl, mt_1 19 rfl rfl, by decide +kernel, by decide +kernel, by decide⟩
set_option maxRecDepth 20000 in
theorem mok_Te_cut : MOK jTe_cut 0 := ⟨mt_3 80 rfl rfl, mt_1 2 rfl rfl, by decide +kernel, by decide +kernel, by decide⟩
set_option maxRecDepth 20000 in
theorem mok_Te_passBlanks : MOK jTe_passBlanks 1 := ⟨mt_3 84 rfl rfl, mt_1 2 rfl rfl, by decide +kernel, by decide +kernel, by decide⟩
set_option maxRecDepth 20000 in
theorem mok_Te_cutToken : MOK jTe_cutToken 1 := ⟨mt_3 88 rfl rfl, mt_1 2 rfl rfl, by decide +kernel, by decide +kernel, by decide⟩
set_option maxRecDepth 20000 in
theorem mok_Te_isLetter : MOK jTe_isLetter 1 := ⟨mt_3 91 rfl rfl, mt_1 2 rfl rfl, by decide +kernel, by decide +kernel, by decide⟩
set_option maxRecDepth 20000 in
theorem mok_Te_cutWord : MOK jTe_cutWord 1 := ⟨mt_3 95 rfl rfl, mt_1 2 rfl rfl, by decide +kernel, by decide +kernel, by decide⟩
set_option maxRecDepth 20000 in
theorem mok_Te_isDigit : MOK jTe_isDigit 1 := ⟨mt_3 98 rfl rfl, mt_1 2 rfl rfl, by decide +kernel, by decide +kernel, by decide⟩
set_option maxRecDepth 20000 in
theorem mok_Te_wordKind : MOK jTe_wordKind 2 := ⟨mt_3 102 rfl rfl, mt_1 2 rfl rfl, by decide +kernel, by decide +kernel, by decide⟩
set_option maxRecDepth 20000 in
theorem mok_Sg_length : MOK jSg_length 0 := ⟨mt_3 107 rfl rfl, mt_1 21 rfl rfl, by decide +kernel, by decide +kernel, by decide⟩
set_option maxRecDepth 20000 in
theorem mok_Sg_coder : MOK jSg_coder 0 := ⟨mt_3 111 rfl rfl, mt_1 21 rfl rfl, by decide +kernel, by decide +kernel, by decide⟩
set_option maxRecDepth 20000 in
theorem mok_Sg_charAt : MOK jSg_charAt 1 := ⟨mt_3 117 rfl rfl, mt_1 21 rfl rfl, by decide +kernel, by decide +kernel, by decide⟩
set_option maxRecDepth 20000 in
theorem mok_Sg_isLatin1 : MOK jSg_isLatin1 0 := ⟨mt_3 121 rfl rfl, mt_1 21 rfl rfl, by decide +kernel, by decide +kernel, by decide⟩
set_option maxRecDepth 20000 in
theorem mok_SL_charAt : MOK jSL_charAt 2 := ⟨mt_3 124 rfl rfl, mt_1 22 rfl rfl, by decide +kernel, by decide +kernel, by decide⟩
set_option maxRecDepth 20000 in
theorem mok_Sg_checkIndex : MOK jSg_checkIndex 2 := ⟨mt_3 127 rfl rfl, mt_1 21 rfl rfl, by decide +kernel, by decide +kernel, by decide⟩
set_option maxRecDepth 20000 in
theorem mok_Te_isWord : MOK jTe_isWord 3 := ⟨mt_3 155 rfl rfl, mt_1 2 rfl rfl, by decide +kernel, by decide +kernel, by decide⟩
set_option maxRecDepth 20000 in
theorem mok_Te_put : MOK jTe_put 4 := ⟨mt_3 159 rfl rfl, mt_1 2 rfl rfl, by decide +kernel, by decide +kernel, by decide⟩
set_option maxRecDepth 20000 in
theorem mok_Te_cutNumber : MOK jTe_cutNumber 1 := ⟨mt_3 163 rfl rfl, mt_1 2 rfl rfl, by decide +kernel, by decide +kernel, by decide⟩
set_option maxRecDepth 20000 in
theorem mok_Mt_min_2 : MOK jMt_min_2 2 := ⟨mt_3 168 rfl rfl, mt_1 19 rfl rfl, by decide +kernel, by decide +kernel, by decide⟩
set_option maxRecDepth 20000 in
theorem mok_Te_cutSign : MOK jTe_cutSign 1 := ⟨mt_3 172 rfl rfl, mt_1 2 rfl rfl, by decide +kernel, by decide +kernel, by decide⟩
set_option maxRecDepth 20000 in
theorem mok_Te_pairAt : MOK jTe_pairAt 1 := ⟨mt_3 176 rfl rfl, mt_1 2 rfl rfl, by decide +kernel, by decide +kernel, by decide⟩
set_option maxRecDepth 20000 in
theorem mok_Sg_indexOf : MOK jSg_indexOf 1 := ⟨mt_3 182 rfl rfl, mt_1 21 rfl rfl, by decide +kernel, by decide +kernel, by decide⟩
set_option maxRecDepth 20000 in
theorem mok_Sg_indexOf_2 : MOK jSg_indexOf_2 2 := ⟨mt_3 186 rfl rfl, mt_1 21 rfl rfl, by decide +kernel, by decide +kernel, by decide⟩
set_option maxRecDepth 20000 in
theorem mok_SL_indexOf : MOK jSL_indexOf 4 := ⟨mt_3 190 rfl rfl, mt_1 22 rfl rfl, by decide +kernel, by decide +kernel, by decide⟩
set_option maxRecDepth 20000 in
theorem mok_SL_canEncode : MOK jSL_canEncode 1 := ⟨mt_3 193 rfl rfl, mt_1 22 rfl rfl, by decide +kernel, by decide +kernel, by decide⟩
set_option maxRecDepth 20000 in
theorem mok_SL_indexOfChar : MOK jSL_indexOfChar 4 := ⟨mt_3 198 rfl rfl, mt_1 22 rfl rfl, by decide +kernel, by decide +kernel, by decide⟩
set_option maxRecDepth 20000 in
theorem mok_Sg_checkBoundsBeginEnd : MOK jSg_checkBoundsBeginEnd 3 := ⟨mt_3 213 rfl rfl, mt_1 21 rfl rfl, by decide +kernel, by decide +kernel, by decide⟩
set_option maxRecDepth 20000 in
theorem mok_Re_read : MOK jRe_read 0 := ⟨mt_3 237 rfl rfl, mt_1 6 rfl rfl, by decide +kernel, by decide +kernel, by decide⟩
set_option maxRecDepth 20000 in
theorem mok_Pr_clear : MOK jPr_clear 0 := ⟨mt_4 1 rfl rfl, mt_1 3 rfl rfl, by decide +kernel, by decide +kernel, by decide⟩
set_option maxRecDepth 20000 in
theorem mok_Lo_clear : MOK jLo_clear 0 := ⟨mt_4 5 rfl rfl, mt_1 4 rfl rfl, by decide +kernel, by decide +kernel, by decide⟩
set_option maxRecDepth 20000 in
theorem mok_Co_clear : MOK jCo_clear 0 := ⟨mt_4 10 rfl rfl, mt_1 5 rfl rfl, by decide +kernel, by decide +kernel, by decide⟩
set_option maxRecDepth 20000 in
theorem mok_Cu_rewind : MOK jCu_rewind 0 := ⟨mt_4 14 rfl rfl, mt_1 7 rfl rfl, by decide +kernel, by decide +kernel, by decide⟩
set_option maxRecDepth 20000 in
theorem mok_Ex_clear : MOK jEx_clear 0 := ⟨mt_4 18 rfl rfl, mt_1 8 rfl rfl, by decide +kernel, by decide +kernel, by decide⟩
set_option maxRecDepth 20000 in
theorem mok_Cu_kind : MOK jCu_kind 0 := ⟨mt_4 22 rfl rfl, mt_1 7 rfl rfl, by decide +kernel, by decide +kernel, by decide⟩
set_option maxRecDepth 20000 in
theorem mok_Re_tells : MOK jRe_tells 1 := ⟨mt_4 25 rfl rfl, mt_1 6 rfl rfl, by decide +kernel, by decide +kernel, by decide⟩
set_option maxRecDepth 20000 in
theorem mok_Re_readTold : MOK jRe_readTold 0 := ⟨mt_4 29 rfl rfl, mt_1 6 rfl rfl, by decide +kernel, by decide +kernel, by decide⟩
set_option maxRecDepth 20000 in
theorem mok_Cu_take : MOK jCu_take 1 := ⟨mt_4 33 rfl rfl, mt_1 7 rfl rfl, by decide +kernel, by decide +kernel, by decide⟩
set_option maxRecDepth 20000 in
theorem mok_Cu_stop : MOK jCu_stop 1 := ⟨mt_4 37 rfl rfl, mt_1 7 rfl rfl, by decide +kernel, by decide +kernel, by decide⟩
set_option maxRecDepth 20000 in
theorem mok_Re_newName : MOK jRe_newName 1 := ⟨mt_4 41 rfl rfl, mt_1 6 rfl rfl, by decide +kernel, by decide +kernel, by decide⟩
set_option maxRecDepth 20000 in
theorem mok_Cu_sees : MOK jCu_sees 1 := ⟨mt_4 45 rfl rfl, mt_1 7 rfl rfl, by decide +kernel, by decide +kernel, by decide⟩
set_option maxRecDepth 20000 in
theorem mok_Lo_isFull : MOK jLo_isFull 1 := ⟨mt_4 49 rfl rfl, mt_1 4 rfl rfl, by decide +kernel, by decide +kernel, by decide⟩
set_option maxRecDepth 20000 in
theorem mok_Lo_find : MOK jLo_find 1 := ⟨mt_4 54 rfl rfl, mt_1 4 rfl rfl, by decide +kernel, by decide +kernel, by decide⟩
set_option maxRecDepth 20000 in
theorem mok_Te_reads : MOK jTe_reads 4 := ⟨mt_4 58 rfl rfl, mt_1 2 rfl rfl, by decide +kernel, by decide +kernel, by decide⟩
set_option maxRecDepth 20000 in
theorem mok_Cu_blame : MOK jCu_blame 2 := ⟨mt_4 62 rfl rfl, mt_1 7 rfl rfl, by decide +kernel, by decide +kernel, by decide⟩
set_option maxRecDepth 20000 in
theorem mok_Lo_add : MOK jLo_add 3 := ⟨mt_4 66 rfl rfl, mt_1 4 rfl rfl, by decide +kernel, by decide +kernel, by decide⟩
set_option maxRecDepth 20000 in
theorem mok_Re_readState : MOK jRe_readState 0 := ⟨mt_4 71 rfl rfl, mt_1 6 rfl rfl, by decide +kernel, by decide +kernel, by decide⟩
set_option maxRecDepth 20000 in
theorem mok_Re_readBool : MOK jRe_readBool 0 := ⟨mt_4 75 rfl rfl, mt_1 6 rfl rfl, by decide +kernel, by decide +kernel, by decide⟩
set_option maxRecDepth 20000 in
theorem mok_Re_readInt : MOK jRe_readInt 0 := ⟨mt_4 79 rfl rfl, mt_1 6 rfl rfl, by decide +kernel, by decide +kernel, by decide⟩
set_option maxRecDepth 20000 in
theorem mok_Re_readFolded : MOK jRe_readFolded 2 := ⟨mt_4 83 rfl rfl, mt_1 6 rfl rfl, by decide +kernel, by decide +kernel, by decide⟩
set_option maxRecDepth 20000 in
theorem mok_Pr_kindOfWay : MOK jPr_kindOfWay 1 := ⟨mt_4 86 rfl rfl, mt_1 3 rfl rfl, by decide +kernel, by decide +kernel, by decide⟩
set_option maxRecDepth 20000 in
theorem mok_Re_readBlock : MOK jRe_readBlock 1 := ⟨mt_4 90 rfl rfl, mt_1 6 rfl rfl, by decide +kernel, by decide +kernel, by decide⟩
set_option maxRecDepth 20000 in
theorem mok_Lo_size : MOK jLo_size 0 := ⟨mt_4 94 rfl rfl, mt_1 4 rfl rfl, by decide +kernel, by decide +kernel, by decide⟩
set_option maxRecDepth 20000 in
theorem mok_Re_beginsStatement : MOK jRe_beginsStatement 1 := ⟨mt_4 97 rfl rfl, mt_1 6 rfl rfl, by decide +kernel, by decide +kernel, by decide⟩
set_option maxRecDepth 20000 in
theorem mok_Re_readStatement : MOK jRe_readStatement 1 := ⟨mt_4 101 rfl rfl, mt_1 6 rfl rfl, by decide +kernel, by decide +kernel, by decide⟩
set_option maxRecDepth 20000 in
theorem mok_Cu_here : MOK jCu_here 0 := ⟨mt_4 105 rfl rfl, mt_1 7 rfl rfl, by decide +kernel, by decide +kernel, by decide⟩
set_option maxRecDepth 20000 in
theorem mok_Co_add : MOK jCo_add 3 := ⟨mt_4 109 rfl rfl, mt_1 5 rfl rfl, by decide +kernel, by decide +kernel, by decide⟩
set_option maxRecDepth 20000 in
theorem mok_Re_readSetting : MOK jRe_readSetting 1 := ⟨mt_4 113 rfl rfl, mt_1 6 rfl rfl, by decide +kernel, by decide +kernel, by decide⟩
set_option maxRecDepth 20000 in
theorem mok_Lo_sortOf : MOK jLo_sortOf 1 := ⟨mt_4 117 rfl rfl, mt_1 4 rfl rfl, by decide +kernel, by decide +kernel, by decide⟩
set_option maxRecDepth 20000 in
theorem mok_Ex_exp : MOK jEx_exp 1 := ⟨mt_4 121 rfl rfl, mt_1 8 rfl rfl, by decide +kernel, by decide +kernel, by decide⟩
set_option maxRecDepth 20000 in
theorem mok_Ex_chain : MOK jEx_chain 2 := ⟨mt_4 125 rfl rfl, mt_1 8 rfl rfl, by decide +kernel, by decide +kernel, by decide⟩
set_option maxRecDepth 20000 in
theorem mok_Ex_one : MOK jEx_one 1 := ⟨mt_4 129 rfl rfl, mt_1 8 rfl rfl, by decide +kernel, by decide +kernel, by decide⟩
set_option maxRecDepth 20000 in
theorem mok_Ex_beginsOne : MOK jEx_beginsOne 1 := ⟨mt_4 133 rfl rfl, mt_1 8 rfl rfl, by decide +kernel, by decide +kernel, by decide⟩
set_option maxRecDepth 20000 in
theorem mok_Ex_factDeed : MOK jEx_factDeed 1 := ⟨mt_4 136 rfl rfl, mt_1 8 rfl rfl, by decide +kernel, by decide +kernel, by decide⟩
set_option maxRecDepth 20000 in
theorem mok_Ex_base : MOK jEx_base 1 := ⟨mt_4 141 rfl rfl, mt_1 8 rfl rfl, by decide +kernel, by decide +kernel, by decide⟩
set_option maxRecDepth 20000 in
theorem mok_Ex_constant : MOK jEx_constant 0 := ⟨mt_4 145 rfl rfl, mt_1 8 rfl rfl, by decide +kernel, by decide +kernel, by decide⟩
set_option maxRecDepth 20000 in
theorem mok_Ex_know : MOK jEx_know 3 := ⟨mt_4 151 rfl rfl, mt_1 8 rfl rfl, by decide +kernel, by decide +kernel, by decide⟩
set_option maxRecDepth 20000 in
theorem mok_Ex_named : MOK jEx_named 0 := ⟨mt_4 155 rfl rfl, mt_1 8 rfl rfl, by decide +kernel, by decide +kernel, by decide⟩
set_option maxRecDepth 20000 in
theorem mok_Ex_readingDeed : MOK jEx_readingDeed 1 := ⟨mt_4 160 rfl rfl, mt_1 8 rfl rfl, by decide +kernel, by decide +kernel, by decide⟩
set_option maxRecDepth 20000 in
theorem mok_Lo_numberOf : MOK jLo_numberOf 1 := ⟨mt_4 166 rfl rfl, mt_1 4 rfl rfl, by decide +kernel, by decide +kernel, by decide⟩
set_option maxRecDepth 20000 in
theorem mok_Lo_kindOf : MOK jLo_kindOf 1 := ⟨mt_4 170 rfl rfl, mt_1 4 rfl rfl, by decide +kernel, by decide +kernel, by decide⟩
set_option maxRecDepth 20000 in
theorem mok_Ex_column : MOK jEx_column 0 := ⟨mt_4 174 rfl rfl, mt_1 8 rfl rfl, by decide +kernel, by decide +kernel, by decide⟩
set_option maxRecDepth 20000 in
theorem mok_Ex_has : MOK jEx_has 0 := ⟨mt_4 178 rfl rfl, mt_1 8 rfl rfl, by decide +kernel, by decide +kernel, by decide⟩
set_option maxRecDepth 20000 in
theorem mok_Ex_draw : MOK jEx_draw 1 := ⟨mt_4 182 rfl rfl, mt_1 8 rfl rfl, by decide +kernel, by decide +kernel, by decide⟩
set_option maxRecDepth 20000 in
theorem mok_Ex_demand : MOK jEx_demand 2 := ⟨mt_4 187 rfl rfl, mt_1 8 rfl rfl, by decide +kernel, by decide +kernel, by decide⟩
set_option maxRecDepth 20000 in
theorem mok_Ex_choice : MOK jEx_choice 1 := ⟨mt_4 191 rfl rfl, mt_1 8 rfl rfl, by decide +kernel, by decide +kernel, by decide⟩
set_option maxRecDepth 20000 in
theorem mok_Co_aimHere : MOK jCo_aimHere 1 := ⟨mt_4 195 rfl rfl, mt_1 5 rfl rfl, by decide +kernel, by decide +kernel, by decide⟩
set_option maxRecDepth 20000 in
theorem mok_Ex_group : MOK jEx_group 1 := ⟨mt_4 199 rfl rfl, mt_1 8 rfl rfl, by decide +kernel, by decide +kernel, by decide⟩
set_option maxRecDepth 20000 in
theorem mok_Ex_fact : MOK jEx_fact 0 := ⟨mt_4 203 rfl rfl, mt_1 8 rfl rfl, by decide +kernel, by decide +kernel, by decide⟩
set_option maxRecDepth 20000 in
theorem mok_Ex_settle : MOK jEx_settle 2 := ⟨mt_4 207 rfl rfl, mt_1 8 rfl rfl, by decide +kernel, by decide +kernel, by decide⟩
set_option maxRecDepth 20000 in
theorem mok_Ex_lineOf : MOK jEx_lineOf 1 := ⟨mt_4 210 rfl rfl, mt_1 8 rfl rfl, by decide +kernel, by decide +kernel, by decide⟩
set_option maxRecDepth 20000 in
theorem mok_Ex_join : MOK jEx_join 4 := ⟨mt_4 214 rfl rfl, mt_1 8 rfl rfl, by decide +kernel, by decide +kernel, by decide⟩
set_option maxRecDepth 20000 in
theorem mok_Re_readLet : MOK jRe_readLet 1 := ⟨mt_4 221 rfl rfl, mt_1 6 rfl rfl, by decide +kernel, by decide +kernel, by decide⟩
set_option maxRecDepth 20000 in
theorem mok_Ex_kindOf : MOK jEx_kindOf 1 := ⟨mt_4 225 rfl rfl, mt_1 8 rfl rfl, by decide +kernel, by decide +kernel, by decide⟩
set_option maxRecDepth 20000 in
theorem mok_Re_readSend : MOK jRe_readSend 1 := ⟨mt_4 229 rfl rfl, mt_1 6 rfl rfl, by decide +kernel, by decide +kernel, by decide⟩
set_option maxRecDepth 20000 in
theorem mok_Re_namedEntry : MOK jRe_namedEntry 1 := ⟨mt_4 233 rfl rfl, mt_1 6 rfl rfl, by decide +kernel, by decide +kernel, by decide⟩
set_option maxRecDepth 20000 in
theorem mok_Co_mark : MOK jCo_mark 2 := ⟨mt_4 237 rfl rfl, mt_1 5 rfl rfl, by decide +kernel, by decide +kernel, by decide⟩
set_option maxRecDepth 20000 in
theorem mok_Re_readGive : MOK jRe_readGive 1 := ⟨mt_5 2 rfl rfl, mt_1 6 rfl rfl, by decide +kernel, by decide +kernel, by decide⟩
set_option maxRecDepth 20000 in
theorem mok_Re_readIf : MOK jRe_readIf 1 := ⟨mt_5 6 rfl rfl, mt_1 6 rfl rfl, by decide +kernel, by decide +kernel, by decide⟩
set_option maxRecDepth 20000 in
theorem mok_Re_readLoop : MOK jRe_readLoop 1 := ⟨mt_5 10 rfl rfl, mt_1 6 rfl rfl, by decide +kernel, by decide +kernel, by decide⟩
set_option maxRecDepth 20000 in
theorem mok_Re_readHalt : MOK jRe_readHalt 0 := ⟨mt_5 14 rfl rfl, mt_1 6 rfl rfl, by decide +kernel, by decide +kernel, by decide⟩
set_option maxRecDepth 20000 in
theorem mok_Lo_shrinkTo : MOK jLo_shrinkTo 1 := ⟨mt_5 18 rfl rfl, mt_1 4 rfl rfl, by decide +kernel, by decide +kernel, by decide⟩
set_option maxRecDepth 20000 in
theorem mok_Cu_worst : MOK jCu_worst 0 := ⟨mt_5 22 rfl rfl, mt_1 7 rfl rfl, by decide +kernel, by decide +kernel, by decide⟩
set_option maxRecDepth 20000 in
theorem mok_Re_writeOut : MOK jRe_writeOut 0 := ⟨mt_5 26 rfl rfl, mt_1 6 rfl rfl, by decide +kernel, by decide +kernel, by decide⟩
set_option maxRecDepth 20000 in
theorem mok_Ex_isDropped : MOK jEx_isDropped 1 := ⟨mt_5 30 rfl rfl, mt_1 8 rfl rfl, by decide +kernel, by decide +kernel, by decide⟩
set_option maxRecDepth 20000 in
theorem mok_Pr_write : MOK jPr_write 3 := ⟨mt_5 34 rfl rfl, mt_1 3 rfl rfl, by decide +kernel, by decide +kernel, by decide⟩
set_option maxRecDepth 20000 in
theorem mok_Pr_writeByte : MOK jPr_writeByte 1 := ⟨mt_5 38 rfl rfl, mt_1 3 rfl rfl, by decide +kernel, by decide +kernel, by decide⟩
set_option maxRecDepth 20000 in
theorem mok_VL_fault : MOK jVL_fault 1 := ⟨mt_5 42 rfl rfl, mt_1 1 rfl rfl, by decide +kernel, by decide +kernel, by decide⟩
set_option maxRecDepth 20000 in
theorem mok_Re_faultPlace : MOK jRe_faultPlace 0 := ⟨mt_5 46 rfl rfl, mt_1 6 rfl rfl, by decide +kernel, by decide +kernel, by decide⟩
set_option maxRecDepth 20000 in
theorem mok_Cu_worstPlace : MOK jCu_worstPlace 0 := ⟨mt_5 50 rfl rfl, mt_1 7 rfl rfl, by decide +kernel, by decide +kernel, by decide⟩
set_option maxRecDepth 20000 in
theorem mok_Te_lineOf : MOK jTe_lineOf 1 := ⟨mt_5 54 rfl rfl, mt_1 2 rfl rfl, by decide +kernel, by decide +kernel, by decide⟩
set_option maxRecDepth 20000 in
theorem mok_VL_print : MOK jVL_print 1 := ⟨mt_5 58 rfl rfl, mt_1 1 rfl rfl, by decide +kernel, by decide +kernel, by decide⟩
set_option maxRecDepth 20000 in
theorem mok_VL_name : MOK jVL_name 0 := ⟨mt_5 62 rfl rfl, mt_1 1 rfl rfl, by decide +kernel, by decide +kernel, by decide⟩
set_option maxRecDepth 20000 in
theorem mok_Lo_findBytes : MOK jLo_findBytes 2 := ⟨mt_5 66 rfl rfl, mt_1 4 rfl rfl, by decide +kernel, by decide +kernel, by decide⟩
set_option maxRecDepth 20000 in
theorem mok_VL_count : MOK jVL_count 1 := ⟨mt_5 72 rfl rfl, mt_1 1 rfl rfl, by decide +kernel, by decide +kernel, by decide⟩
set_option maxRecDepth 20000 in
theorem mok_Pr_howMany : MOK jPr_howMany 1 := ⟨mt_5 76 rfl rfl, mt_1 3 rfl rfl, by decide +kernel, by decide +kernel, by decide⟩
set_option maxRecDepth 20000 in
theorem mok_Lo_howMany : MOK jLo_howMany 1 := ⟨mt_5 80 rfl rfl, mt_1 4 rfl rfl, by decide +kernel, by decide +kernel, by decide⟩
set_option maxRecDepth 20000 in
theorem mok_VL_nodes : MOK jVL_nodes 1 := ⟨mt_5 84 rfl rfl, mt_1 1 rfl rfl, by decide +kernel, by decide +kernel, by decide⟩
set_option maxRecDepth 20000 in
theorem mok_VL_arc : MOK jVL_arc 2 := ⟨mt_5 89 rfl rfl, mt_1 1 rfl rfl, by decide +kernel, by decide +kernel, by decide⟩
set_option maxRecDepth 20000 in
theorem mok_Gr_hasNode : MOK jGr_hasNode 1 := ⟨mt_5 93 rfl rfl, mt_1 9 rfl rfl, by decide +kernel, by decide +kernel, by decide⟩
set_option maxRecDepth 20000 in
theorem mok_Gr_add : MOK jGr_add 2 := ⟨mt_5 97 rfl rfl, mt_1 9 rfl rfl, by decide +kernel, by decide +kernel, by decide⟩
set_option maxRecDepth 20000 in
theorem mok_Gr_hang : MOK jGr_hang 5 := ⟨mt_5 100 rfl rfl, mt_1 9 rfl rfl, by decide +kernel, by decide +kernel, by decide⟩
set_option maxRecDepth 20000 in
theorem mok_VL_weight : MOK jVL_weight 3 := ⟨mt_5 104 rfl rfl, mt_1 1 rfl rfl, by decide +kernel, by decide +kernel, by decide⟩
set_option maxRecDepth 20000 in
theorem mok_Gr_setWeight : MOK jGr_setWeight 3 := ⟨mt_5 108 rfl rfl, mt_1 9 rfl rfl, by decide +kernel, by decide +kernel, by decide⟩
set_option maxRecDepth 20000 in
theorem mok_Gr_weightOf : MOK jGr_weightOf 2 := ⟨mt_5 112 rfl rfl, mt_1 9 rfl rfl, by decide +kernel, by decide +kernel, by decide⟩
set_option maxRecDepth 20000 in
theorem mok_VL_begin : MOK jVL_begin 1 := ⟨mt_5 116 rfl rfl, mt_1 1 rfl rfl, by decide +kernel, by decide +kernel, by decide⟩
set_option maxRecDepth 20000 in
theorem mok_Ma_setOut : MOK jMa_setOut 1 := ⟨mt_5 120 rfl rfl, mt_1 11 rfl rfl, by decide +kernel, by decide +kernel, by decide⟩
set_option maxRecDepth 20000 in
theorem mok_Ma_now : MOK jMa_now 0 := ⟨mt_5 124 rfl rfl, mt_1 11 rfl rfl, by decide +kernel, by decide +kernel, by decide⟩
set_option maxRecDepth 20000 in
theorem mok_Mo_beginAs : MOK jMo_beginAs 1 := ⟨mt_5 128 rfl rfl, mt_1 12 rfl rfl, by decide +kernel, by decide +kernel, by decide⟩
set_option maxRecDepth 20000 in
theorem mok_Mo_forgetMessages : MOK jMo_forgetMessages 1 := ⟨mt_5 133 rfl rfl, mt_1 12 rfl rfl, by decide +kernel, by decide +kernel, by decide⟩
set_option maxRecDepth 20000 in
theorem mok_Pr_nothing : MOK jPr_nothing 1 := ⟨mt_5 136 rfl rfl, mt_1 3 rfl rfl, by decide +kernel, by decide +kernel, by decide⟩
set_option maxRecDepth 20000 in
theorem mok_VL_run : MOK jVL_run 1 := ⟨mt_5 143 rfl rfl, mt_1 1 rfl rfl, by decide +kernel, by decide +kernel, by decide⟩
set_option maxRecDepth 20000 in
theorem mok_Ma_hasEnded : MOK jMa_hasEnded 0 := ⟨mt_5 147 rfl rfl, mt_1 11 rfl rfl, by decide +kernel, by decide +kernel, by decide⟩
set_option maxRecDepth 20000 in
theorem mok_Mo_restingOf : MOK jMo_restingOf 1 := ⟨mt_5 151 rfl rfl, mt_1 12 rfl rfl, by decide +kernel, by decide +kernel, by decide⟩
set_option maxRecDepth 20000 in
theorem mok_Ma_doTurn : MOK jMa_doTurn 0 := ⟨mt_5 155 rfl rfl, mt_1 11 rfl rfl, by decide +kernel, by decide +kernel, by decide⟩
set_option maxRecDepth 20000 in
theorem mok_Mo_follow : MOK jMo_follow 2 := ⟨mt_5 159 rfl rfl, mt_1 12 rfl rfl, by decide +kernel, by decide +kernel, by decide⟩
set_option maxRecDepth 20000 in
theorem mok_Wo_setTurn : MOK jWo_setTurn 3 := ⟨mt_5 163 rfl rfl, mt_1 13 rfl rfl, by decide +kernel, by decide +kernel, by decide⟩
set_option maxRecDepth 20000 in
theorem mok_Mo_wakes : MOK jMo_wakes 1 := ⟨mt_5 167 rfl rfl, mt_1 12 rfl rfl, by decide +kernel, by decide +kernel, by decide⟩
set_option maxRecDepth 20000 in
theorem mok_Wo_work : MOK jWo_work 1 := ⟨mt_5 171 rfl rfl, mt_1 13 rfl rfl, by decide +kernel, by decide +kernel, by decide⟩
set_option maxRecDepth 20000 in
theorem mok_Wo_perform : MOK jWo_perform 2 := ⟨mt_5 176 rfl rfl, mt_1 13 rfl rfl, by decide +kernel, by decide +kernel, by decide⟩
set_option maxRecDepth 20000 in
theorem mok_Wo_countStep : MOK jWo_countStep 1 := ⟨mt_5 180 rfl rfl, mt_1 13 rfl rfl, by decide +kernel, by decide +kernel, by decide⟩
set_option maxRecDepth 20000 in
theorem mok_Wo_fail : MOK jWo_fail 2 := ⟨mt_5 184 rfl rfl, mt_1 13 rfl rfl, by decide +kernel, by decide +kernel, by decide⟩
set_option maxRecDepth 20000 in
theorem mok_Wo_operand : MOK jWo_operand 2 := ⟨mt_5 188 rfl rfl, mt_1 13 rfl rfl, by decide +kernel, by decide +kernel, by decide⟩
set_option maxRecDepth 20000 in
theorem mok_Wo_push : MOK jWo_push 1 := ⟨mt_5 193 rfl rfl, mt_1 13 rfl rfl, by decide +kernel, by decide +kernel, by decide⟩
set_option maxRecDepth 20000 in
theorem mok_Wo_operate : MOK jWo_operate 2 := ⟨mt_5 197 rfl rfl, mt_1 13 rfl rfl, by decide +kernel, by decide +kernel, by decide⟩
set_option maxRecDepth 20000 in
theorem mok_Wo_pop : MOK jWo_pop 0 := ⟨mt_5 201 rfl rfl, mt_1 13 rfl rfl, by decide +kernel, by decide +kernel, by decide⟩
set_option maxRecDepth 20000 in
theorem mok_Wo_draw : MOK jWo_draw 1 := ⟨mt_5 205 rfl rfl, mt_1 13 rfl rfl, by decide +kernel, by decide +kernel, by decide⟩
set_option maxRecDepth 20000 in
theorem mok_Wo_mixed : MOK jWo_mixed 2 := ⟨mt_5 208 rfl rfl, mt_1 13 rfl rfl, by decide +kernel, by decide +kernel, by decide⟩
set_option maxRecDepth 20000 in
theorem mok_Wo_binary : MOK jWo_binary 3 := ⟨mt_5 214 rfl rfl, mt_1 13 rfl rfl, by decide +kernel, by decide +kernel, by decide⟩
set_option maxRecDepth 20000 in
theorem mok_Wo_combined : MOK jWo_combined 3 := ⟨mt_5 217 rfl rfl, mt_1 13 rfl rfl, by decide +kernel, by decide +kernel, by decide⟩
set_option maxRecDepth 20000 in
theorem mok_Wo_flow : MOK jWo_flow 2 := ⟨mt_5 221 rfl rfl, mt_1 13 rfl rfl, by decide +kernel, by decide +kernel, by decide⟩
set_option maxRecDepth 20000 in
theorem mok_Wo_keepOrDrop : MOK jWo_keepOrDrop 2 := ⟨mt_5 225 rfl rfl, mt_1 13 rfl rfl, by decide +kernel, by decide +kernel, by decide⟩
set_option maxRecDepth 20000 in
theorem mok_Wo_setRepeats : MOK jWo_setRepeats 2 := ⟨mt_5 229 rfl rfl, mt_1 13 rfl rfl, by decide +kernel, by decide +kernel, by decide⟩
set_option maxRecDepth 20000 in
theorem mok_Wo_repeat : MOK jWo_repeat 3 := ⟨mt_5 233 rfl rfl, mt_1 13 rfl rfl, by decide +kernel, by decide +kernel, by decide⟩
set_option maxRecDepth 20000 in
theorem mok_Gr_firstArc : MOK jGr_firstArc 2 := ⟨mt_5 237 rfl rfl, mt_1 9 rfl rfl, by decide +kernel, by decide +kernel, by decide⟩
set_option maxRecDepth 20000 in
theorem mok_Gr_nextArc : MOK jGr_nextArc 2 := ⟨mt_6 1 rfl rfl, mt_1 9 rfl rfl, by decide +kernel, by decide +kernel, by decide⟩
set_option maxRecDepth 20000 in
theorem mok_Wo_act : MOK jWo_act 2 := ⟨mt_6 5 rfl rfl, mt_1 13 rfl rfl, by decide +kernel, by decide +kernel, by decide⟩
set_option maxRecDepth 20000 in
theorem mok_Gr_otherEnd : MOK jGr_otherEnd 2 := ⟨mt_6 9 rfl rfl, mt_1 9 rfl rfl, by decide +kernel, by decide +kernel, by decide⟩
set_option maxRecDepth 20000 in
theorem mok_Mo_deliver : MOK jMo_deliver 4 := ⟨mt_6 13 rfl rfl, mt_1 12 rfl rfl, by decide +kernel, by decide +kernel, by decide⟩
set_option maxRecDepth 20000 in
theorem mok_Pr_folded : MOK jPr_folded 4 := ⟨mt_6 16 rfl rfl, mt_1 3 rfl rfl, by decide +kernel, by decide +kernel, by decide⟩
set_option maxRecDepth 20000 in
theorem mok_Mo_give : MOK jMo_give 3 := ⟨mt_6 22 rfl rfl, mt_1 12 rfl rfl, by decide +kernel, by decide +kernel, by decide⟩
set_option maxRecDepth 20000 in
theorem mok_Ma_noteFailure : MOK jMa_noteFailure 2 := ⟨mt_6 26 rfl rfl, mt_1 11 rfl rfl, by decide +kernel, by decide +kernel, by decide⟩
set_option maxRecDepth 20000 in
theorem mok_VL_undo : MOK jVL_undo 0 := ⟨mt_6 31 rfl rfl, mt_1 1 rfl rfl, by decide +kernel, by decide +kernel, by decide⟩
set_option maxRecDepth 20000 in
theorem mok_Ma_goBack : MOK jMa_goBack 0 := ⟨mt_6 35 rfl rfl, mt_1 11 rfl rfl, by decide +kernel, by decide +kernel, by decide⟩
set_option maxRecDepth 20000 in
theorem mok_VL_told : MOK jVL_told 1 := ⟨mt_6 40 rfl rfl, mt_1 1 rfl rfl, by decide +kernel, by decide +kernel, by decide⟩
set_option maxRecDepth 20000 in
theorem mok_Ma_tell : MOK jMa_tell 1 := ⟨mt_6 44 rfl rfl, mt_1 11 rfl rfl, by decide +kernel, by decide +kernel, by decide⟩
set_option maxRecDepth 20000 in
theorem mok_VL_state : MOK jVL_state 2 := ⟨mt_6 49 rfl rfl, mt_1 1 rfl rfl, by decide +kernel, by decide +kernel, by decide⟩
set_option maxRecDepth 20000 in
theorem mok_VL_runsOn : MOK jVL_runsOn 1 := ⟨mt_6 53 rfl rfl, mt_1 1 rfl rfl, by decide +kernel, by decide +kernel, by decide⟩
set_option maxRecDepth 20000 in
theorem mok_VL_message : MOK jVL_message 2 := ⟨mt_6 57 rfl rfl, mt_1 1 rfl rfl, by decide +kernel, by decide +kernel, by decide⟩
set_option maxRecDepth 20000 in
theorem mok_VL_messages : MOK jVL_messages 2 := ⟨mt_6 61 rfl rfl, mt_1 1 rfl rfl, by decide +kernel, by decide +kernel, by decide⟩
set_option maxRecDepth 20000 in
theorem mok_VL_global : MOK jVL_global 1 := ⟨mt_6 65 rfl rfl, mt_1 1 rfl rfl, by decide +kernel, by decide +kernel, by decide⟩
set_option maxRecDepth 20000 in
theorem mok_VL_halted : MOK jVL_halted 1 := ⟨mt_6 69 rfl rfl, mt_1 1 rfl rfl, by decide +kernel, by decide +kernel, by decide⟩
set_option maxRecDepth 20000 in
theorem mok_Md_feed : MOK jMd_feed 5 := ⟨mt_8 7 rfl rfl, mt_1 14 rfl rfl, by decide +kernel, by decide +kernel, by decide⟩
set_option maxRecDepth 20000 in
theorem mok_Md_end : MOK jMd_end 1 := ⟨mt_8 11 rfl rfl, mt_1 14 rfl rfl, by decide +kernel, by decide +kernel, by decide⟩
set_option maxRecDepth 20000 in
theorem mok_Md_in : MOK jMd_in 3 := ⟨mt_8 15 rfl rfl, mt_1 14 rfl rfl, by decide +kernel, by decide +kernel, by decide⟩
set_option maxRecDepth 20000 in
theorem mok_Md_program : MOK jMd_program 0 := ⟨mt_8 19 rfl rfl, mt_1 14 rfl rfl, by decide +kernel, by decide +kernel, by decide⟩
set_option maxRecDepth 20000 in
theorem mok_Md_findTokens : MOK jMd_findTokens 0 := ⟨mt_8 23 rfl rfl, mt_1 14 rfl rfl, by decide +kernel, by decide +kernel, by decide⟩
set_option maxRecDepth 20000 in
theorem mok_Md_token : MOK jMd_token 4 := ⟨mt_8 27 rfl rfl, mt_1 14 rfl rfl, by decide +kernel, by decide +kernel, by decide⟩
set_option maxRecDepth 20000 in
theorem mok_Md_isLetter : MOK jMd_isLetter 1 := ⟨mt_8 30 rfl rfl, mt_1 14 rfl rfl, by decide +kernel, by decide +kernel, by decide⟩
set_option maxRecDepth 20000 in
theorem mok_Md_isDigit : MOK jMd_isDigit 1 := ⟨mt_8 37 rfl rfl, mt_1 14 rfl rfl, by decide +kernel, by decide +kernel, by decide⟩
set_option maxRecDepth 20000 in
theorem mok_Md_isText : MOK jMd_isText 3 := ⟨mt_8 43 rfl rfl, mt_1 14 rfl rfl, by decide +kernel, by decide +kernel, by decide⟩
set_option maxRecDepth 20000 in
theorem mok_Md_readProgram : MOK jMd_readProgram 0 := ⟨mt_8 52 rfl rfl, mt_1 14 rfl rfl, by decide +kernel, by decide +kernel, by decide⟩
set_option maxRecDepth 20000 in
theorem mok_Md_is : MOK jMd_is 1 := ⟨mt_8 56 rfl rfl, mt_1 14 rfl rfl, by decide +kernel, by decide +kernel, by decide⟩
set_option maxRecDepth 20000 in
theorem mok_Md_readTold : MOK jMd_readTold 0 := ⟨mt_8 60 rfl rfl, mt_1 14 rfl rfl, by decide +kernel, by decide +kernel, by decide⟩
set_option maxRecDepth 20000 in
theorem mok_Md_pass : MOK jMd_pass 0 := ⟨mt_8 64 rfl rfl, mt_1 14 rfl rfl, by decide +kernel, by decide +kernel, by decide⟩
set_option maxRecDepth 20000 in
theorem mok_Md_placeOf : MOK jMd_placeOf 1 := ⟨mt_8 68 rfl rfl, mt_1 14 rfl rfl, by decide +kernel, by decide +kernel, by decide⟩
set_option maxRecDepth 20000 in
theorem mok_Md_fail : MOK jMd_fail 2 := ⟨mt_8 72 rfl rfl, mt_1 14 rfl rfl, by decide +kernel, by decide +kernel, by decide⟩
set_option maxRecDepth 20000 in
theorem mok_Md_mustName : MOK jMd_mustName 0 := ⟨mt_8 76 rfl rfl, mt_1 14 rfl rfl, by decide +kernel, by decide +kernel, by decide⟩
set_option maxRecDepth 20000 in
theorem mok_Md_most : MOK jMd_most 1 := ⟨mt_8 79 rfl rfl, mt_1 14 rfl rfl, by decide +kernel, by decide +kernel, by decide⟩
set_option maxRecDepth 20000 in
theorem mok_Md_must : MOK jMd_must 1 := ⟨mt_8 83 rfl rfl, mt_1 14 rfl rfl, by decide +kernel, by decide +kernel, by decide⟩
set_option maxRecDepth 20000 in
theorem mok_Md_readBlock : MOK jMd_readBlock 1 := ⟨mt_8 86 rfl rfl, mt_1 14 rfl rfl, by decide +kernel, by decide +kernel, by decide⟩
set_option maxRecDepth 20000 in
theorem mok_Md_readStatement : MOK jMd_readStatement 1 := ⟨mt_8 89 rfl rfl, mt_1 14 rfl rfl, by decide +kernel, by decide +kernel, by decide⟩
set_option maxRecDepth 20000 in
theorem mok_Md_beginsStatement : MOK jMd_beginsStatement 0 := ⟨mt_8 93 rfl rfl, mt_1 14 rfl rfl, by decide +kernel, by decide +kernel, by decide⟩
set_option maxRecDepth 20000 in
theorem mok_Md_readExp : MOK jMd_readExp 1 := ⟨mt_8 96 rfl rfl, mt_1 14 rfl rfl, by decide +kernel, by decide +kernel, by decide⟩
set_option maxRecDepth 20000 in
theorem mok_Md_mustBeginExp : MOK jMd_mustBeginExp 0 := ⟨mt_8 100 rfl rfl, mt_1 14 rfl rfl, by decide +kernel, by decide +kernel, by decide⟩
set_option maxRecDepth 20000 in
theorem mok_Md_beginsExp : MOK jMd_beginsExp 0 := ⟨mt_8 104 rfl rfl, mt_1 14 rfl rfl, by decide +kernel, by decide +kernel, by decide⟩
set_option maxRecDepth 20000 in
theorem mok_Md_readBoth : MOK jMd_readBoth 1 := ⟨mt_8 107 rfl rfl, mt_1 14 rfl rfl, by decide +kernel, by decide +kernel, by decide⟩
set_option maxRecDepth 20000 in
theorem mok_Md_readTest : MOK jMd_readTest 1 := ⟨mt_8 110 rfl rfl, mt_1 14 rfl rfl, by decide +kernel, by decide +kernel, by decide⟩
set_option maxRecDepth 20000 in
theorem mok_Md_readSum : MOK jMd_readSum 1 := ⟨mt_8 113 rfl rfl, mt_1 14 rfl rfl, by decide +kernel, by decide +kernel, by decide⟩
set_option maxRecDepth 20000 in
theorem mok_Md_readTerm : MOK jMd_readTerm 1 := ⟨mt_8 116 rfl rfl, mt_1 14 rfl rfl, by decide +kernel, by decide +kernel, by decide⟩
set_option maxRecDepth 20000 in
theorem mok_Md_readOne : MOK jMd_readOne 1 := ⟨mt_8 119 rfl rfl, mt_1 14 rfl rfl, by decide +kernel, by decide +kernel, by decide⟩
set_option maxRecDepth 20000 in
theorem mok_Md_exp : MOK jMd_exp 5 := ⟨mt_8 123 rfl rfl, mt_1 14 rfl rfl, by decide +kernel, by decide +kernel, by decide⟩
set_option maxRecDepth 20000 in
theorem mok_Md_isTest : MOK jMd_isTest 0 := ⟨mt_8 127 rfl rfl, mt_1 14 rfl rfl, by decide +kernel, by decide +kernel, by decide⟩
set_option maxRecDepth 20000 in
theorem mok_Md_judgeProgram : MOK jMd_judgeProgram 0 := ⟨mt_8 131 rfl rfl, mt_1 14 rfl rfl, by decide +kernel, by decide +kernel, by decide⟩
set_option maxRecDepth 20000 in
theorem mok_Md_find : MOK jMd_find 1 := ⟨mt_8 135 rfl rfl, mt_1 14 rfl rfl, by decide +kernel, by decide +kernel, by decide⟩
set_option maxRecDepth 20000 in
theorem mok_Md_sameName : MOK jMd_sameName 2 := ⟨mt_8 139 rfl rfl, mt_1 14 rfl rfl, by decide +kernel, by decide +kernel, by decide⟩
set_option maxRecDepth 20000 in
theorem mok_Md_numberOf : MOK jMd_numberOf 1 := ⟨mt_8 143 rfl rfl, mt_1 14 rfl rfl, by decide +kernel, by decide +kernel, by decide⟩
set_option maxRecDepth 20000 in
theorem mok_Md_blame : MOK jMd_blame 2 := ⟨mt_8 147 rfl rfl, mt_1 14 rfl rfl, by decide +kernel, by decide +kernel, by decide⟩
set_option maxRecDepth 20000 in
theorem mok_Md_judgeBlock : MOK jMd_judgeBlock 2 := ⟨mt_8 150 rfl rfl, mt_1 14 rfl rfl, by decide +kernel, by decide +kernel, by decide⟩
set_option maxRecDepth 20000 in
theorem mok_Md_judge : MOK jMd_judge 3 := ⟨mt_8 153 rfl rfl, mt_1 14 rfl rfl, by decide +kernel, by decide +kernel, by decide⟩
set_option maxRecDepth 20000 in
theorem mok_Md_mustBe : MOK jMd_mustBe 3 := ⟨mt_8 157 rfl rfl, mt_1 14 rfl rfl, by decide +kernel, by decide +kernel, by decide⟩
set_option maxRecDepth 20000 in
theorem mok_Md_judgeBinary : MOK jMd_judgeBinary 3 := ⟨mt_8 160 rfl rfl, mt_1 14 rfl rfl, by decide +kernel, by decide +kernel, by decide⟩
set_option maxRecDepth 20000 in
theorem mok_Md_isSign : MOK jMd_isSign 2 := ⟨mt_8 164 rfl rfl, mt_1 14 rfl rfl, by decide +kernel, by decide +kernel, by decide⟩
set_option maxRecDepth 20000 in
theorem mok_Md_printAll : MOK jMd_printAll 0 := ⟨mt_8 168 rfl rfl, mt_1 14 rfl rfl, by decide +kernel, by decide +kernel, by decide⟩
set_option maxRecDepth 20000 in
theorem mok_Md_showText : MOK jMd_showText 1 := ⟨mt_8 172 rfl rfl, mt_1 14 rfl rfl, by decide +kernel, by decide +kernel, by decide⟩
set_option maxRecDepth 20000 in
theorem mok_Md_show : MOK jMd_show 1 := ⟨mt_8 176 rfl rfl, mt_1 14 rfl rfl, by decide +kernel, by decide +kernel, by decide⟩
set_option maxRecDepth 20000 in
theorem mok_Md_showBlock : MOK jMd_showBlock 2 := ⟨mt_8 179 rfl rfl, mt_1 14 rfl rfl, by decide +kernel, by decide +kernel, by decide⟩
set_option maxRecDepth 20000 in
theorem mok_Md_showExp : MOK jMd_showExp 3 := ⟨mt_8 182 rfl rfl, mt_1 14 rfl rfl, by decide +kernel, by decide +kernel, by decide⟩
set_option maxRecDepth 20000 in
theorem mok_Md_line : MOK jMd_line 1 := ⟨mt_8 186 rfl rfl, mt_1 14 rfl rfl, by decide +kernel, by decide +kernel, by decide⟩
set_option maxRecDepth 20000 in
theorem mok_Md_fault : MOK jMd_fault 1 := ⟨mt_8 190 rfl rfl, mt_1 14 rfl rfl, by decide +kernel, by decide +kernel, by decide⟩
set_option maxRecDepth 20000 in
theorem mok_Md_print : MOK jMd_print 1 := ⟨mt_8 194 rfl rfl, mt_1 14 rfl rfl, by decide +kernel, by decide +kernel, by decide⟩
set_option maxRecDepth 20000 in
theorem mok_Md_name : MOK jMd_name 0 := ⟨mt_8 198 rfl rfl, mt_1 14 rfl rfl, by decide +kernel, by decide +kernel, by decide⟩
set_option maxRecDepth 20000 in
theorem mok_Md_count : MOK jMd_count 1 := ⟨mt_8 202 rfl rfl, mt_1 14 rfl rfl, by decide +kernel, by decide +kernel, by decide⟩
set_option maxRecDepth 20000 in
theorem mok_Md_nodes : MOK jMd_nodes 1 := ⟨mt_8 206 rfl rfl, mt_1 14 rfl rfl, by decide +kernel, by decide +kernel, by decide⟩
set_option maxRecDepth 20000 in
theorem mok_Md_arc : MOK jMd_arc 2 := ⟨mt_8 211 rfl rfl, mt_1 14 rfl rfl, by decide +kernel, by decide +kernel, by decide⟩
set_option maxRecDepth 20000 in
theorem mok_Md_weight : MOK jMd_weight 3 := ⟨mt_8 215 rfl rfl, mt_1 14 rfl rfl, by decide +kernel, by decide +kernel, by decide⟩
set_option maxRecDepth 20000 in
theorem mok_Md_begin : MOK jMd_begin 1 := ⟨mt_8 220 rfl rfl, mt_1 14 rfl rfl, by decide +kernel, by decide +kernel, by decide⟩
set_option maxRecDepth 20000 in
theorem mok_Md_wayOf : MOK jMd_wayOf 2 := ⟨mt_8 224 rfl rfl, mt_1 14 rfl rfl, by decide +kernel, by decide +kernel, by decide⟩
set_option maxRecDepth 20000 in
theorem mok_Md_toldOf : MOK jMd_toldOf 2 := ⟨mt_8 228 rfl rfl, mt_1 14 rfl rfl, by decide +kernel, by decide +kernel, by decide⟩
set_option maxRecDepth 20000 in
theorem mok_Md_run : MOK jMd_run 1 := ⟨mt_8 232 rfl rfl, mt_1 14 rfl rfl, by decide +kernel, by decide +kernel, by decide⟩
set_option maxRecDepth 20000 in
theorem mok_Md_hasEnded : MOK jMd_hasEnded 0 := ⟨mt_8 237 rfl rfl, mt_1 14 rfl rfl, by decide +kernel, by decide +kernel, by decide⟩
set_option maxRecDepth 20000 in
theorem mok_Md_underWay : MOK jMd_underWay 0 := ⟨mt_9 1 rfl rfl, mt_1 14 rfl rfl, by decide +kernel, by decide +kernel, by decide⟩
set_option maxRecDepth 20000 in
theorem mok_Md_haltedCount : MOK jMd_haltedCount 0 := ⟨mt_9 5 rfl rfl, mt_1 14 rfl rfl, by decide +kernel, by decide +kernel, by decide⟩
set_option maxRecDepth 20000 in
theorem mok_Md_oneTurn : MOK jMd_oneTurn 0 := ⟨mt_9 9 rfl rfl, mt_1 14 rfl rfl, by decide +kernel, by decide +kernel, by decide⟩
set_option maxRecDepth 20000 in
theorem mok_Md_save : MOK jMd_save 2 := ⟨mt_9 13 rfl rfl, mt_1 14 rfl rfl, by decide +kernel, by decide +kernel, by decide⟩
set_option maxRecDepth 20000 in
theorem mok_Md_goBlock : MOK jMd_goBlock 2 := ⟨mt_9 16 rfl rfl, mt_1 14 rfl rfl, by decide +kernel, by decide +kernel, by decide⟩
set_option maxRecDepth 20000 in
theorem mok_Md_step : MOK jMd_step 0 := ⟨mt_9 20 rfl rfl, mt_1 14 rfl rfl, by decide +kernel, by decide +kernel, by decide⟩
set_option maxRecDepth 20000 in
theorem mok_Md_value : MOK jMd_value 2 := ⟨mt_9 23 rfl rfl, mt_1 14 rfl rfl, by decide +kernel, by decide +kernel, by decide⟩
set_option maxRecDepth 20000 in
theorem mok_Md_drawn : MOK jMd_drawn 1 := ⟨mt_9 27 rfl rfl, mt_1 14 rfl rfl, by decide +kernel, by decide +kernel, by decide⟩
set_option maxRecDepth 20000 in
theorem mok_Md_mixed : MOK jMd_mixed 2 := ⟨mt_9 30 rfl rfl, mt_1 14 rfl rfl, by decide +kernel, by decide +kernel, by decide⟩
set_option maxRecDepth 20000 in
theorem mok_Md_binary : MOK jMd_binary 2 := ⟨mt_9 35 rfl rfl, mt_1 14 rfl rfl, by decide +kernel, by decide +kernel, by decide⟩
set_option maxRecDepth 20000 in
theorem mok_Md_operand : MOK jMd_operand 1 := ⟨mt_9 39 rfl rfl, mt_1 14 rfl rfl, by decide +kernel, by decide +kernel, by decide⟩
set_option maxRecDepth 20000 in
theorem mok_Md_nothing : MOK jMd_nothing 1 := ⟨mt_9 42 rfl rfl, mt_1 14 rfl rfl, by decide +kernel, by decide +kernel, by decide⟩
set_option maxRecDepth 20000 in
theorem mok_Md_deliver : MOK jMd_deliver 3 := ⟨mt_9 48 rfl rfl, mt_1 14 rfl rfl, by decide +kernel, by decide +kernel, by decide⟩
set_option maxRecDepth 20000 in
theorem mok_Md_folded : MOK jMd_folded 4 := ⟨mt_9 51 rfl rfl, mt_1 14 rfl rfl, by decide +kernel, by decide +kernel, by decide⟩
set_option maxRecDepth 20000 in
theorem mok_Md_give : MOK jMd_give 2 := ⟨mt_9 55 rfl rfl, mt_1 14 rfl rfl, by decide +kernel, by decide +kernel, by decide⟩
set_option maxRecDepth 20000 in
theorem mok_Md_bring : MOK jMd_bring 2 := ⟨mt_9 59 rfl rfl, mt_1 14 rfl rfl, by decide +kernel, by decide +kernel, by decide⟩
set_option maxRecDepth 20000 in
theorem mok_Md_undo : MOK jMd_undo 0 := ⟨mt_9 63 rfl rfl, mt_1 14 rfl rfl, by decide +kernel, by decide +kernel, by decide⟩
set_option maxRecDepth 20000 in
theorem mok_Md_told : MOK jMd_told 1 := ⟨mt_9 67 rfl rfl, mt_1 14 rfl rfl, by decide +kernel, by decide +kernel, by decide⟩
set_option maxRecDepth 20000 in
theorem mok_Md_state : MOK jMd_state 2 := ⟨mt_9 71 rfl rfl, mt_1 14 rfl rfl, by decide +kernel, by decide +kernel, by decide⟩
set_option maxRecDepth 20000 in
theorem mok_Md_message : MOK jMd_message 2 := ⟨mt_9 75 rfl rfl, mt_1 14 rfl rfl, by decide +kernel, by decide +kernel, by decide⟩
set_option maxRecDepth 20000 in
theorem mok_Md_noFold : MOK jMd_noFold 2 := ⟨mt_9 79 rfl rfl, mt_1 14 rfl rfl, by decide +kernel, by decide +kernel, by decide⟩
set_option maxRecDepth 20000 in
theorem mok_Md_messages : MOK jMd_messages 2 := ⟨mt_9 83 rfl rfl, mt_1 14 rfl rfl, by decide +kernel, by decide +kernel, by decide⟩
set_option maxRecDepth 20000 in
theorem mok_Md_global : MOK jMd_global 1 := ⟨mt_9 87 rfl rfl, mt_1 14 rfl rfl, by decide +kernel, by decide +kernel, by decide⟩
set_option maxRecDepth 20000 in
theorem mok_Md_halted : MOK jMd_halted 1 := ⟨mt_9 91 rfl rfl, mt_1 14 rfl rfl, by decide +kernel, by decide +kernel, by decide⟩
set_option maxRecDepth 20000 in
theorem ml_Gr_43 : MLV "VertexLanguage$Graph" 43 jGr_clear 1 := ⟨mt_2 54 rfl rfl, mt_2 55 rfl rfl, mt_2 56 rfl rfl, mok_Gr_clear⟩
set_option maxRecDepth 20000 in
theorem ml_Gr_54 : MLS "VertexLanguage$Graph" 54 jAr_fill 2 := ⟨mt_2 58 rfl rfl, mt_2 59 rfl rfl, mok_Ar_fill⟩
set_option maxRecDepth 20000 in
theorem ml_Lw_13 : MLV "VertexLanguageLaw" 13 jVL_feed 5 := ⟨mt_3 48 rfl rfl, mt_3 49 rfl rfl, mt_3 50 rfl rfl, mok_VL_feed⟩
set_option maxRecDepth 20000 in
theorem ml_VL_58 : MLV "VertexLanguage" 58 jVL_putOnTape 1 := ⟨mt_3 52 rfl rfl, mt_3 54 rfl rfl, mp_ 0 rfl rfl, mok_VL_putOnTape⟩
set_option maxRecDepth 20000 in
theorem ml_Lw_18 : MLV "VertexLanguageLaw" 18 jVL_end 1 := ⟨mt_3 56 rfl rfl, mt_3 57 rfl rfl, mt_3 58 rfl rfl, mok_VL_end⟩
set_option maxRecDepth 20000 in
theorem ml_Lw_23 : MLV "VertexLanguageLaw" 23 jVL_program 0 := ⟨mt_3 60 rfl rfl, mt_3 61 rfl rfl, mt_3 62 rfl rfl, mok_VL_program⟩
set_option maxRecDepth 20000 in
theorem ml_VL_66 : MLV "VertexLanguage" 66 jTe_load 2 := ⟨mt_3 64 rfl rfl, mt_3 65 rfl rfl, mt_3 66 rfl rfl, mok_Te_load⟩
set_option maxRecDepth 20000 in
theorem ml_Te_26 : MLS "VertexLanguage$Text" 26 jMt_min 2 := ⟨mt_3 68 rfl rfl, mt_3 69 rfl rfl, mok_Mt_min⟩
set_option maxRecDepth 20000 in
theorem ml_Te_32 : MLS "VertexLanguage$Text" 32 jMt_max 2 := ⟨mt_3 71 rfl rfl, mt_3 72 rfl rfl, mok_Mt_max⟩
set_option maxRecDepth 20000 in
theorem ml_Te_45 : MLV "VertexLanguage$Text" 45 jTe_cut 0 := ⟨mt_3 77 rfl rfl, mt_3 79 rfl rfl, mp_ 1 rfl rfl, mok_Te_cut⟩
set_option maxRecDepth 20000 in
theorem ml_Te_51 : MLV "VertexLanguage$Text" 51 jTe_passBlanks 1 := ⟨mt_3 81 rfl rfl, mt_3 83 rfl rfl, mp_ 2 rfl rfl, mok_Te_passBlanks⟩
set_option maxRecDepth 20000 in
theorem ml_Te_55 : MLV "VertexLanguage$Text" 55 jTe_cutToken 1 := ⟨mt_3 85 rfl rfl, mt_3 87 rfl rfl, mp_ 3 rfl rfl, mok_Te_cutToken⟩
set_option maxRecDepth 20000 in
theorem ml_Te_62 : MLS "VertexLanguage$Text" 62 jTe_isLetter 1 := ⟨mt_3 89 rfl rfl, mt_3 90 rfl rfl, mok_Te_isLetter⟩
set_option maxRecDepth 20000 in
theorem ml_Te_66 : MLV "VertexLanguage$Text" 66 jTe_cutWord 1 := ⟨mt_3 92 rfl rfl, mt_3 94 rfl rfl, mp_ 4 rfl rfl, mok_Te_cutWord⟩
set_option maxRecDepth 20000 in
theorem ml_Te_69 : MLS "VertexLanguage$Text" 69 jTe_isDigit 1 := ⟨mt_3 96 rfl rfl, mt_3 97 rfl rfl, mok_Te_isDigit⟩
set_option maxRecDepth 20000 in
theorem ml_Te_78 : MLV "VertexLanguage$Text" 78 jTe_wordKind 2 := ⟨mt_3 99 rfl rfl, mt_3 101 rfl rfl, mp_ 5 rfl rfl, mok_Te_wordKind⟩
set_option maxRecDepth 20000 in
theorem ml_Te_100 : MLV "VertexLanguage$Text" 100 jSg_length 0 := ⟨mt_3 104 rfl rfl, mt_3 105 rfl rfl, mt_3 106 rfl rfl, mok_Sg_length⟩
set_option maxRecDepth 20000 in
theorem ml_Sg_335 : MLV "java/lang/String" 335 jSg_coder 0 := ⟨mt_3 108 rfl rfl, mt_3 109 rfl rfl, mt_3 110 rfl rfl, mok_Sg_coder⟩
set_option maxRecDepth 20000 in
theorem ml_Te_103 : MLV "VertexLanguage$Text" 103 jSg_charAt 1 := ⟨mt_3 114 rfl rfl, mt_3 115 rfl rfl, mt_3 116 rfl rfl, mok_Sg_charAt⟩
set_option maxRecDepth 20000 in
theorem ml_Sg_492 : MLV "java/lang/String" 492 jSg_isLatin1 0 := ⟨mt_3 118 rfl rfl, mt_3 119 rfl rfl, mt_3 120 rfl rfl, mok_Sg_isLatin1⟩
set_option maxRecDepth 20000 in
theorem ml_Sg_495 : MLS "java/lang/String" 495 jSL_charAt 2 := ⟨mt_3 122 rfl rfl, mt_3 123 rfl rfl, mok_SL_charAt⟩
set_option maxRecDepth 20000 in
theorem ml_SL_9 : MLS "java/lang/StringLatin1" 9 jSg_checkIndex 2 := ⟨mt_3 125 rfl rfl, mt_3 126 rfl rfl, mok_Sg_checkIndex⟩
set_option maxRecDepth 20000 in
theorem ml_Te_109 : MLV "VertexLanguage$Text" 109 jTe_isWord 3 := ⟨mt_3 152 rfl rfl, mt_3 154 rfl rfl, mp_ 6 rfl rfl, mok_Te_isWord⟩
set_option maxRecDepth 20000 in
theorem ml_Te_58 : MLV "VertexLanguage$Text" 58 jTe_put 4 := ⟨mt_3 156 rfl rfl, mt_3 158 rfl rfl, mp_ 7 rfl rfl, mok_Te_put⟩
set_option maxRecDepth 20000 in
theorem ml_Te_72 : MLV "VertexLanguage$Text" 72 jTe_cutNumber 1 := ⟨mt_3 160 rfl rfl, mt_3 162 rfl rfl, mp_ 8 rfl rfl, mok_Te_cutNumber⟩
set_option maxRecDepth 20000 in
theorem ml_Te_85 : MLS "VertexLanguage$Text" 85 jMt_min_2 2 := ⟨mt_3 166 rfl rfl, mt_3 167 rfl rfl, mok_Mt_min_2⟩
set_option maxRecDepth 20000 in
theorem ml_Te_75 : MLV "VertexLanguage$Text" 75 jTe_cutSign 1 := ⟨mt_3 169 rfl rfl, mt_3 171 rfl rfl, mp_ 9 rfl rfl, mok_Te_cutSign⟩
set_option maxRecDepth 20000 in
theorem ml_Te_88 : MLV "VertexLanguage$Text" 88 jTe_pairAt 1 := ⟨mt_3 173 rfl rfl, mt_3 175 rfl rfl, mp_ 10 rfl rfl, mok_Te_pairAt⟩
set_option maxRecDepth 20000 in
theorem ml_Te_93 : MLV "VertexLanguage$Text" 93 jSg_indexOf 1 := ⟨mt_3 179 rfl rfl, mt_3 180 rfl rfl, mt_3 181 rfl rfl, mok_Sg_indexOf⟩
set_option maxRecDepth 20000 in
theorem ml_Sg_633 : MLV "java/lang/String" 633 jSg_indexOf_2 2 := ⟨mt_3 183 rfl rfl, mt_3 184 rfl rfl, mt_3 185 rfl rfl, mok_Sg_indexOf_2⟩
set_option maxRecDepth 20000 in
theorem ml_Sg_505 : MLV "java/lang/String" 505 jSg_length 0 := ⟨mt_3 187 rfl rfl, mt_3 105 rfl rfl, mt_3 106 rfl rfl, mok_Sg_length⟩
set_option maxRecDepth 20000 in
theorem ml_Sg_637 : MLS "java/lang/String" 637 jSL_indexOf 4 := ⟨mt_3 188 rfl rfl, mt_3 189 rfl rfl, mok_SL_indexOf⟩
set_option maxRecDepth 20000 in
theorem ml_SL_88 : MLS "java/lang/StringLatin1" 88 jSL_canEncode 1 := ⟨mt_3 191 rfl rfl, mt_3 192 rfl rfl, mok_SL_canEncode⟩
set_option maxRecDepth 20000 in
theorem ml_SL_92 : MLS "java/lang/StringLatin1" 92 jMt_max 2 := ⟨mt_3 194 rfl rfl, mt_3 72 rfl rfl, mok_Mt_max⟩
set_option maxRecDepth 20000 in
theorem ml_SL_38 : MLS "java/lang/StringLatin1" 38 jMt_min 2 := ⟨mt_3 195 rfl rfl, mt_3 69 rfl rfl, mok_Mt_min⟩
set_option maxRecDepth 20000 in
theorem ml_SL_95 : MLS "java/lang/StringLatin1" 95 jSL_indexOfChar 4 := ⟨mt_3 196 rfl rfl, mt_3 197 rfl rfl, mok_SL_indexOfChar⟩
set_option maxRecDepth 20000 in
theorem ml_VL_70 : MLV "VertexLanguage" 70 jRe_read 0 := ⟨mt_3 234 rfl rfl, mt_3 235 rfl rfl, mt_3 236 rfl rfl, mok_Re_read⟩
set_option maxRecDepth 20000 in
theorem ml_Re_47 : MLV "VertexLanguage$Reader" 47 jPr_clear 0 := ⟨mt_3 238 rfl rfl, mt_3 239 rfl rfl, mt_4 0 rfl rfl, mok_Pr_clear⟩
set_option maxRecDepth 20000 in
theorem ml_Pr_52 : MLV "VertexLanguage$Program" 52 jLo_clear 0 := ⟨mt_4 2 rfl rfl, mt_4 3 rfl rfl, mt_4 4 rfl rfl, mok_Lo_clear⟩
set_option maxRecDepth 20000 in
theorem ml_Lo_36 : MLS "VertexLanguage$Lot" 36 jAr_fill 2 := ⟨mt_4 6 rfl rfl, mt_2 59 rfl rfl, mok_Ar_fill⟩
set_option maxRecDepth 20000 in
theorem ml_Pr_55 : MLV "VertexLanguage$Program" 55 jCo_clear 0 := ⟨mt_4 7 rfl rfl, mt_4 8 rfl rfl, mt_4 9 rfl rfl, mok_Co_clear⟩
set_option maxRecDepth 20000 in
theorem ml_Re_50 : MLV "VertexLanguage$Reader" 50 jCu_rewind 0 := ⟨mt_4 11 rfl rfl, mt_4 12 rfl rfl, mt_4 13 rfl rfl, mok_Cu_rewind⟩
set_option maxRecDepth 20000 in
theorem ml_Re_53 : MLV "VertexLanguage$Reader" 53 jEx_clear 0 := ⟨mt_4 15 rfl rfl, mt_4 16 rfl rfl, mt_4 17 rfl rfl, mok_Ex_clear⟩
set_option maxRecDepth 20000 in
theorem ml_Re_60 : MLV "VertexLanguage$Reader" 60 jCu_kind 0 := ⟨mt_4 19 rfl rfl, mt_4 20 rfl rfl, mt_4 21 rfl rfl, mok_Cu_kind⟩
set_option maxRecDepth 20000 in
theorem ml_Re_64 : MLS "VertexLanguage$Reader" 64 jRe_tells 1 := ⟨mt_4 23 rfl rfl, mt_4 24 rfl rfl, mok_Re_tells⟩
set_option maxRecDepth 20000 in
theorem ml_Re_68 : MLV "VertexLanguage$Reader" 68 jRe_readTold 0 := ⟨mt_4 26 rfl rfl, mt_4 28 rfl rfl, mp_ 11 rfl rfl, mok_Re_readTold⟩
set_option maxRecDepth 20000 in
theorem ml_Re_71 : MLV "VertexLanguage$Reader" 71 jCu_take 1 := ⟨mt_4 30 rfl rfl, mt_4 31 rfl rfl, mt_4 32 rfl rfl, mok_Cu_take⟩
set_option maxRecDepth 20000 in
theorem ml_Cu_32 : MLV "VertexLanguage$Cursor" 32 jCu_stop 1 := ⟨mt_4 34 rfl rfl, mt_4 35 rfl rfl, mt_4 36 rfl rfl, mok_Cu_stop⟩
set_option maxRecDepth 20000 in
theorem ml_Re_136 : MLV "VertexLanguage$Reader" 136 jRe_newName 1 := ⟨mt_4 38 rfl rfl, mt_4 40 rfl rfl, mp_ 12 rfl rfl, mok_Re_newName⟩
set_option maxRecDepth 20000 in
theorem ml_Re_94 : MLV "VertexLanguage$Reader" 94 jCu_sees 1 := ⟨mt_4 42 rfl rfl, mt_4 43 rfl rfl, mt_4 44 rfl rfl, mok_Cu_sees⟩
set_option maxRecDepth 20000 in
theorem ml_Re_153 : MLV "VertexLanguage$Reader" 153 jLo_isFull 1 := ⟨mt_4 46 rfl rfl, mt_4 47 rfl rfl, mt_4 48 rfl rfl, mok_Lo_isFull⟩
set_option maxRecDepth 20000 in
theorem ml_Re_97 : MLV "VertexLanguage$Reader" 97 jCu_stop 1 := ⟨mt_4 50 rfl rfl, mt_4 35 rfl rfl, mt_4 36 rfl rfl, mok_Cu_stop⟩
set_option maxRecDepth 20000 in
theorem ml_Re_156 : MLV "VertexLanguage$Reader" 156 jLo_find 1 := ⟨mt_4 51 rfl rfl, mt_4 52 rfl rfl, mt_4 53 rfl rfl, mok_Lo_find⟩
set_option maxRecDepth 20000 in
theorem ml_Lo_54 : MLV "VertexLanguage$Lot" 54 jTe_reads 4 := ⟨mt_4 55 rfl rfl, mt_4 56 rfl rfl, mt_4 57 rfl rfl, mok_Te_reads⟩
set_option maxRecDepth 20000 in
theorem ml_Re_159 : MLV "VertexLanguage$Reader" 159 jCu_blame 2 := ⟨mt_4 59 rfl rfl, mt_4 60 rfl rfl, mt_4 61 rfl rfl, mok_Cu_blame⟩
set_option maxRecDepth 20000 in
theorem ml_Re_139 : MLV "VertexLanguage$Reader" 139 jLo_add 3 := ⟨mt_4 63 rfl rfl, mt_4 64 rfl rfl, mt_4 65 rfl rfl, mok_Lo_add⟩
set_option maxRecDepth 20000 in
theorem ml_Lo_58 : MLV "VertexLanguage$Lot" 58 jLo_isFull 1 := ⟨mt_4 67 rfl rfl, mt_4 47 rfl rfl, mt_4 48 rfl rfl, mok_Lo_isFull⟩
set_option maxRecDepth 20000 in
theorem ml_Re_140 : MLV "VertexLanguage$Reader" 140 jRe_readState 0 := ⟨mt_4 68 rfl rfl, mt_4 70 rfl rfl, mp_ 13 rfl rfl, mok_Re_readState⟩
set_option maxRecDepth 20000 in
theorem ml_Re_163 : MLV "VertexLanguage$Reader" 163 jRe_readBool 0 := ⟨mt_4 72 rfl rfl, mt_4 74 rfl rfl, mp_ 14 rfl rfl, mok_Re_readBool⟩
set_option maxRecDepth 20000 in
theorem ml_Re_166 : MLV "VertexLanguage$Reader" 166 jRe_readInt 0 := ⟨mt_4 76 rfl rfl, mt_4 78 rfl rfl, mp_ 15 rfl rfl, mok_Re_readInt⟩
set_option maxRecDepth 20000 in
theorem ml_Re_146 : MLV "VertexLanguage$Reader" 146 jRe_readFolded 2 := ⟨mt_4 80 rfl rfl, mt_4 82 rfl rfl, mp_ 16 rfl rfl, mok_Re_readFolded⟩
set_option maxRecDepth 20000 in
theorem ml_Re_175 : MLS "VertexLanguage$Reader" 175 jPr_kindOfWay 1 := ⟨mt_4 84 rfl rfl, mt_4 85 rfl rfl, mok_Pr_kindOfWay⟩
set_option maxRecDepth 20000 in
theorem ml_Re_83 : MLV "VertexLanguage$Reader" 83 jRe_readBlock 1 := ⟨mt_4 87 rfl rfl, mt_4 89 rfl rfl, mp_ 17 rfl rfl, mok_Re_readBlock⟩
set_option maxRecDepth 20000 in
theorem ml_Re_178 : MLV "VertexLanguage$Reader" 178 jLo_size 0 := ⟨mt_4 91 rfl rfl, mt_4 92 rfl rfl, mt_4 93 rfl rfl, mok_Lo_size⟩
set_option maxRecDepth 20000 in
theorem ml_Re_180 : MLS "VertexLanguage$Reader" 180 jRe_beginsStatement 1 := ⟨mt_4 95 rfl rfl, mt_4 96 rfl rfl, mok_Re_beginsStatement⟩
set_option maxRecDepth 20000 in
theorem ml_Re_183 : MLV "VertexLanguage$Reader" 183 jRe_readStatement 1 := ⟨mt_4 98 rfl rfl, mt_4 100 rfl rfl, mp_ 18 rfl rfl, mok_Re_readStatement⟩
set_option maxRecDepth 20000 in
theorem ml_Re_195 : MLV "VertexLanguage$Reader" 195 jCu_here 0 := ⟨mt_4 102 rfl rfl, mt_4 103 rfl rfl, mt_4 104 rfl rfl, mok_Cu_here⟩
set_option maxRecDepth 20000 in
theorem ml_Re_87 : MLV "VertexLanguage$Reader" 87 jCo_add 3 := ⟨mt_4 106 rfl rfl, mt_4 107 rfl rfl, mt_4 108 rfl rfl, mok_Co_add⟩
set_option maxRecDepth 20000 in
theorem ml_Re_198 : MLV "VertexLanguage$Reader" 198 jRe_readSetting 1 := ⟨mt_4 110 rfl rfl, mt_4 112 rfl rfl, mp_ 19 rfl rfl, mok_Re_readSetting⟩
set_option maxRecDepth 20000 in
theorem ml_Re_219 : MLV "VertexLanguage$Reader" 219 jLo_sortOf 1 := ⟨mt_4 114 rfl rfl, mt_4 115 rfl rfl, mt_4 116 rfl rfl, mok_Lo_sortOf⟩
set_option maxRecDepth 20000 in
theorem ml_Re_222 : MLV "VertexLanguage$Reader" 222 jEx_exp 1 := ⟨mt_4 118 rfl rfl, mt_4 119 rfl rfl, mt_4 120 rfl rfl, mok_Ex_exp⟩
set_option maxRecDepth 20000 in
theorem ml_Ex_55 : MLV "VertexLanguage$Exps" 55 jEx_chain 2 := ⟨mt_4 122 rfl rfl, mt_4 124 rfl rfl, mp_ 20 rfl rfl, mok_Ex_chain⟩
set_option maxRecDepth 20000 in
theorem ml_Ex_62 : MLV "VertexLanguage$Exps" 62 jEx_one 1 := ⟨mt_4 126 rfl rfl, mt_4 128 rfl rfl, mp_ 21 rfl rfl, mok_Ex_one⟩
set_option maxRecDepth 20000 in
theorem ml_Ex_66 : MLV "VertexLanguage$Exps" 66 jCu_kind 0 := ⟨mt_4 130 rfl rfl, mt_4 20 rfl rfl, mt_4 21 rfl rfl, mok_Cu_kind⟩
set_option maxRecDepth 20000 in
theorem ml_Ex_102 : MLS "VertexLanguage$Exps" 102 jEx_beginsOne 1 := ⟨mt_4 131 rfl rfl, mt_4 132 rfl rfl, mok_Ex_beginsOne⟩
set_option maxRecDepth 20000 in
theorem ml_Ex_139 : MLS "VertexLanguage$Exps" 139 jEx_factDeed 1 := ⟨mt_4 134 rfl rfl, mt_4 135 rfl rfl, mok_Ex_factDeed⟩
set_option maxRecDepth 20000 in
theorem ml_Ex_106 : MLV "VertexLanguage$Exps" 106 jCu_stop 1 := ⟨mt_4 137 rfl rfl, mt_4 35 rfl rfl, mt_4 36 rfl rfl, mok_Cu_stop⟩
set_option maxRecDepth 20000 in
theorem ml_Ex_109 : MLV "VertexLanguage$Exps" 109 jEx_base 1 := ⟨mt_4 138 rfl rfl, mt_4 140 rfl rfl, mp_ 22 rfl rfl, mok_Ex_base⟩
set_option maxRecDepth 20000 in
theorem ml_Ex_112 : MLV "VertexLanguage$Exps" 112 jEx_constant 0 := ⟨mt_4 142 rfl rfl, mt_4 144 rfl rfl, mp_ 23 rfl rfl, mok_Ex_constant⟩
set_option maxRecDepth 20000 in
theorem ml_Ex_73 : MLV "VertexLanguage$Exps" 73 jCu_take 1 := ⟨mt_4 146 rfl rfl, mt_4 31 rfl rfl, mt_4 32 rfl rfl, mok_Cu_take⟩
set_option maxRecDepth 20000 in
theorem ml_Ex_78 : MLV "VertexLanguage$Exps" 78 jCo_add 3 := ⟨mt_4 147 rfl rfl, mt_4 107 rfl rfl, mt_4 108 rfl rfl, mok_Co_add⟩
set_option maxRecDepth 20000 in
theorem ml_Ex_98 : MLV "VertexLanguage$Exps" 98 jEx_know 3 := ⟨mt_4 148 rfl rfl, mt_4 150 rfl rfl, mp_ 24 rfl rfl, mok_Ex_know⟩
set_option maxRecDepth 20000 in
theorem ml_Ex_115 : MLV "VertexLanguage$Exps" 115 jEx_named 0 := ⟨mt_4 152 rfl rfl, mt_4 154 rfl rfl, mp_ 25 rfl rfl, mok_Ex_named⟩
set_option maxRecDepth 20000 in
theorem ml_Ex_147 : MLV "VertexLanguage$Exps" 147 jLo_find 1 := ⟨mt_4 156 rfl rfl, mt_4 52 rfl rfl, mt_4 53 rfl rfl, mok_Lo_find⟩
set_option maxRecDepth 20000 in
theorem ml_Ex_150 : MLV "VertexLanguage$Exps" 150 jLo_sortOf 1 := ⟨mt_4 157 rfl rfl, mt_4 115 rfl rfl, mt_4 116 rfl rfl, mok_Lo_sortOf⟩
set_option maxRecDepth 20000 in
theorem ml_Ex_153 : MLS "VertexLanguage$Exps" 153 jEx_readingDeed 1 := ⟨mt_4 158 rfl rfl, mt_4 159 rfl rfl, mok_Ex_readingDeed⟩
set_option maxRecDepth 20000 in
theorem ml_Ex_49 : MLV "VertexLanguage$Exps" 49 jCu_blame 2 := ⟨mt_4 161 rfl rfl, mt_4 60 rfl rfl, mt_4 61 rfl rfl, mok_Cu_blame⟩
set_option maxRecDepth 20000 in
theorem ml_Ex_142 : MLS "VertexLanguage$Exps" 142 jMt_max 2 := ⟨mt_4 162 rfl rfl, mt_3 72 rfl rfl, mok_Mt_max⟩
set_option maxRecDepth 20000 in
theorem ml_Ex_156 : MLV "VertexLanguage$Exps" 156 jLo_numberOf 1 := ⟨mt_4 163 rfl rfl, mt_4 164 rfl rfl, mt_4 165 rfl rfl, mok_Lo_numberOf⟩
set_option maxRecDepth 20000 in
theorem ml_Ex_159 : MLV "VertexLanguage$Exps" 159 jLo_kindOf 1 := ⟨mt_4 167 rfl rfl, mt_4 168 rfl rfl, mt_4 169 rfl rfl, mok_Lo_kindOf⟩
set_option maxRecDepth 20000 in
theorem ml_Ex_118 : MLV "VertexLanguage$Exps" 118 jEx_column 0 := ⟨mt_4 171 rfl rfl, mt_4 173 rfl rfl, mp_ 26 rfl rfl, mok_Ex_column⟩
set_option maxRecDepth 20000 in
theorem ml_Ex_121 : MLV "VertexLanguage$Exps" 121 jEx_has 0 := ⟨mt_4 175 rfl rfl, mt_4 177 rfl rfl, mp_ 27 rfl rfl, mok_Ex_has⟩
set_option maxRecDepth 20000 in
theorem ml_Ex_124 : MLV "VertexLanguage$Exps" 124 jEx_draw 1 := ⟨mt_4 179 rfl rfl, mt_4 181 rfl rfl, mp_ 28 rfl rfl, mok_Ex_draw⟩
set_option maxRecDepth 20000 in
theorem ml_Ex_162 : MLV "VertexLanguage$Exps" 162 jEx_exp 1 := ⟨mt_4 183 rfl rfl, mt_4 119 rfl rfl, mt_4 120 rfl rfl, mok_Ex_exp⟩
set_option maxRecDepth 20000 in
theorem ml_Ex_93 : MLV "VertexLanguage$Exps" 93 jEx_demand 2 := ⟨mt_4 184 rfl rfl, mt_4 185 rfl rfl, mt_4 186 rfl rfl, mok_Ex_demand⟩
set_option maxRecDepth 20000 in
theorem ml_Ex_127 : MLV "VertexLanguage$Exps" 127 jEx_choice 1 := ⟨mt_4 188 rfl rfl, mt_4 190 rfl rfl, mp_ 29 rfl rfl, mok_Ex_choice⟩
set_option maxRecDepth 20000 in
theorem ml_Ex_82 : MLV "VertexLanguage$Exps" 82 jCo_aimHere 1 := ⟨mt_4 192 rfl rfl, mt_4 193 rfl rfl, mt_4 194 rfl rfl, mok_Co_aimHere⟩
set_option maxRecDepth 20000 in
theorem ml_Ex_130 : MLV "VertexLanguage$Exps" 130 jEx_group 1 := ⟨mt_4 196 rfl rfl, mt_4 198 rfl rfl, mp_ 30 rfl rfl, mok_Ex_group⟩
set_option maxRecDepth 20000 in
theorem ml_Ex_133 : MLV "VertexLanguage$Exps" 133 jEx_fact 0 := ⟨mt_4 200 rfl rfl, mt_4 202 rfl rfl, mp_ 31 rfl rfl, mok_Ex_fact⟩
set_option maxRecDepth 20000 in
theorem ml_Ex_59 : MLV "VertexLanguage$Exps" 59 jEx_settle 2 := ⟨mt_4 204 rfl rfl, mt_4 206 rfl rfl, mp_ 32 rfl rfl, mok_Ex_settle⟩
set_option maxRecDepth 20000 in
theorem ml_Ex_70 : MLS "VertexLanguage$Exps" 70 jEx_lineOf 1 := ⟨mt_4 208 rfl rfl, mt_4 209 rfl rfl, mok_Ex_lineOf⟩
set_option maxRecDepth 20000 in
theorem ml_Ex_89 : MLV "VertexLanguage$Exps" 89 jEx_join 4 := ⟨mt_4 211 rfl rfl, mt_4 213 rfl rfl, mp_ 33 rfl rfl, mok_Ex_join⟩
set_option maxRecDepth 20000 in
theorem ml_Re_225 : MLV "VertexLanguage$Reader" 225 jLo_kindOf 1 := ⟨mt_4 215 rfl rfl, mt_4 168 rfl rfl, mt_4 169 rfl rfl, mok_Lo_kindOf⟩
set_option maxRecDepth 20000 in
theorem ml_Re_228 : MLV "VertexLanguage$Reader" 228 jEx_demand 2 := ⟨mt_4 216 rfl rfl, mt_4 185 rfl rfl, mt_4 186 rfl rfl, mok_Ex_demand⟩
set_option maxRecDepth 20000 in
theorem ml_Re_231 : MLV "VertexLanguage$Reader" 231 jLo_numberOf 1 := ⟨mt_4 217 rfl rfl, mt_4 164 rfl rfl, mt_4 165 rfl rfl, mok_Lo_numberOf⟩
set_option maxRecDepth 20000 in
theorem ml_Re_201 : MLV "VertexLanguage$Reader" 201 jRe_readLet 1 := ⟨mt_4 218 rfl rfl, mt_4 220 rfl rfl, mp_ 34 rfl rfl, mok_Re_readLet⟩
set_option maxRecDepth 20000 in
theorem ml_Re_234 : MLV "VertexLanguage$Reader" 234 jEx_kindOf 1 := ⟨mt_4 222 rfl rfl, mt_4 223 rfl rfl, mt_4 224 rfl rfl, mok_Ex_kindOf⟩
set_option maxRecDepth 20000 in
theorem ml_Re_204 : MLV "VertexLanguage$Reader" 204 jRe_readSend 1 := ⟨mt_4 226 rfl rfl, mt_4 228 rfl rfl, mp_ 35 rfl rfl, mok_Re_readSend⟩
set_option maxRecDepth 20000 in
theorem ml_Re_235 : MLV "VertexLanguage$Reader" 235 jRe_namedEntry 1 := ⟨mt_4 230 rfl rfl, mt_4 232 rfl rfl, mp_ 36 rfl rfl, mok_Re_namedEntry⟩
set_option maxRecDepth 20000 in
theorem ml_Re_241 : MLV "VertexLanguage$Reader" 241 jCo_mark 2 := ⟨mt_4 234 rfl rfl, mt_4 235 rfl rfl, mt_4 236 rfl rfl, mok_Co_mark⟩
set_option maxRecDepth 20000 in
theorem ml_Re_244 : MLV "VertexLanguage$Reader" 244 jCo_aimHere 1 := ⟨mt_4 238 rfl rfl, mt_4 193 rfl rfl, mt_4 194 rfl rfl, mok_Co_aimHere⟩
set_option maxRecDepth 20000 in
theorem ml_Re_207 : MLV "VertexLanguage$Reader" 207 jRe_readGive 1 := ⟨mt_4 239 rfl rfl, mt_5 1 rfl rfl, mp_ 37 rfl rfl, mok_Re_readGive⟩
set_option maxRecDepth 20000 in
theorem ml_Re_210 : MLV "VertexLanguage$Reader" 210 jRe_readIf 1 := ⟨mt_5 3 rfl rfl, mt_5 5 rfl rfl, mp_ 38 rfl rfl, mok_Re_readIf⟩
set_option maxRecDepth 20000 in
theorem ml_Re_213 : MLV "VertexLanguage$Reader" 213 jRe_readLoop 1 := ⟨mt_5 7 rfl rfl, mt_5 9 rfl rfl, mp_ 39 rfl rfl, mok_Re_readLoop⟩
set_option maxRecDepth 20000 in
theorem ml_Re_216 : MLV "VertexLanguage$Reader" 216 jRe_readHalt 0 := ⟨mt_5 11 rfl rfl, mt_5 13 rfl rfl, mp_ 40 rfl rfl, mok_Re_readHalt⟩
set_option maxRecDepth 20000 in
theorem ml_Re_186 : MLV "VertexLanguage$Reader" 186 jLo_shrinkTo 1 := ⟨mt_5 15 rfl rfl, mt_5 16 rfl rfl, mt_5 17 rfl rfl, mok_Lo_shrinkTo⟩
set_option maxRecDepth 20000 in
theorem ml_Re_100 : MLV "VertexLanguage$Reader" 100 jCu_worst 0 := ⟨mt_5 19 rfl rfl, mt_5 20 rfl rfl, mt_5 21 rfl rfl, mok_Cu_worst⟩
set_option maxRecDepth 20000 in
theorem ml_Re_103 : MLV "VertexLanguage$Reader" 103 jRe_writeOut 0 := ⟨mt_5 23 rfl rfl, mt_5 25 rfl rfl, mp_ 41 rfl rfl, mok_Re_writeOut⟩
set_option maxRecDepth 20000 in
theorem ml_Re_116 : MLV "VertexLanguage$Reader" 116 jEx_isDropped 1 := ⟨mt_5 27 rfl rfl, mt_5 28 rfl rfl, mt_5 29 rfl rfl, mok_Ex_isDropped⟩
set_option maxRecDepth 20000 in
theorem ml_Re_130 : MLV "VertexLanguage$Reader" 130 jPr_write 3 := ⟨mt_5 31 rfl rfl, mt_5 32 rfl rfl, mt_5 33 rfl rfl, mok_Pr_write⟩
set_option maxRecDepth 20000 in
theorem ml_Pr_60 : MLV "VertexLanguage$Program" 60 jPr_writeByte 1 := ⟨mt_5 35 rfl rfl, mt_5 37 rfl rfl, mp_ 42 rfl rfl, mok_Pr_writeByte⟩
set_option maxRecDepth 20000 in
theorem ml_Lw_28 : MLV "VertexLanguageLaw" 28 jVL_fault 1 := ⟨mt_5 39 rfl rfl, mt_5 40 rfl rfl, mt_5 41 rfl rfl, mok_VL_fault⟩
set_option maxRecDepth 20000 in
theorem ml_VL_77 : MLV "VertexLanguage" 77 jRe_faultPlace 0 := ⟨mt_5 43 rfl rfl, mt_5 44 rfl rfl, mt_5 45 rfl rfl, mok_Re_faultPlace⟩
set_option maxRecDepth 20000 in
theorem ml_Re_110 : MLV "VertexLanguage$Reader" 110 jCu_worstPlace 0 := ⟨mt_5 47 rfl rfl, mt_5 48 rfl rfl, mt_5 49 rfl rfl, mok_Cu_worstPlace⟩
set_option maxRecDepth 20000 in
theorem ml_VL_80 : MLV "VertexLanguage" 80 jTe_lineOf 1 := ⟨mt_5 51 rfl rfl, mt_5 52 rfl rfl, mt_5 53 rfl rfl, mok_Te_lineOf⟩
set_option maxRecDepth 20000 in
theorem ml_Lw_32 : MLV "VertexLanguageLaw" 32 jVL_print 1 := ⟨mt_5 55 rfl rfl, mt_5 56 rfl rfl, mt_5 57 rfl rfl, mok_VL_print⟩
set_option maxRecDepth 20000 in
theorem ml_Lw_36 : MLV "VertexLanguageLaw" 36 jVL_name 0 := ⟨mt_5 59 rfl rfl, mt_5 60 rfl rfl, mt_5 61 rfl rfl, mok_VL_name⟩
set_option maxRecDepth 20000 in
theorem ml_VL_97 : MLV "VertexLanguage" 97 jLo_findBytes 2 := ⟨mt_5 63 rfl rfl, mt_5 64 rfl rfl, mt_5 65 rfl rfl, mok_Lo_findBytes⟩
set_option maxRecDepth 20000 in
theorem ml_VL_103 : MLV "VertexLanguage" 103 jLo_sortOf 1 := ⟨mt_5 67 rfl rfl, mt_4 115 rfl rfl, mt_4 116 rfl rfl, mok_Lo_sortOf⟩
set_option maxRecDepth 20000 in
theorem ml_VL_106 : MLV "VertexLanguage" 106 jLo_numberOf 1 := ⟨mt_5 68 rfl rfl, mt_4 164 rfl rfl, mt_4 165 rfl rfl, mok_Lo_numberOf⟩
set_option maxRecDepth 20000 in
theorem ml_Lw_40 : MLV "VertexLanguageLaw" 40 jVL_count 1 := ⟨mt_5 69 rfl rfl, mt_5 70 rfl rfl, mt_5 71 rfl rfl, mok_VL_count⟩
set_option maxRecDepth 20000 in
theorem ml_VL_109 : MLV "VertexLanguage" 109 jPr_howMany 1 := ⟨mt_5 73 rfl rfl, mt_5 74 rfl rfl, mt_5 75 rfl rfl, mok_Pr_howMany⟩
set_option maxRecDepth 20000 in
theorem ml_Pr_56 : MLV "VertexLanguage$Program" 56 jLo_howMany 1 := ⟨mt_5 77 rfl rfl, mt_5 78 rfl rfl, mt_5 79 rfl rfl, mok_Lo_howMany⟩
set_option maxRecDepth 20000 in
theorem ml_Lw_44 : MLV "VertexLanguageLaw" 44 jVL_nodes 1 := ⟨mt_5 81 rfl rfl, mt_5 82 rfl rfl, mt_5 83 rfl rfl, mok_VL_nodes⟩
set_option maxRecDepth 20000 in
theorem ml_VL_118 : MLV "VertexLanguage" 118 jGr_clear 1 := ⟨mt_5 85 rfl rfl, mt_2 55 rfl rfl, mt_2 56 rfl rfl, mok_Gr_clear⟩
set_option maxRecDepth 20000 in
theorem ml_Lw_48 : MLV "VertexLanguageLaw" 48 jVL_arc 2 := ⟨mt_5 86 rfl rfl, mt_5 87 rfl rfl, mt_5 88 rfl rfl, mok_VL_arc⟩
set_option maxRecDepth 20000 in
theorem ml_VL_121 : MLV "VertexLanguage" 121 jGr_hasNode 1 := ⟨mt_5 90 rfl rfl, mt_5 91 rfl rfl, mt_5 92 rfl rfl, mok_Gr_hasNode⟩
set_option maxRecDepth 20000 in
theorem ml_VL_125 : MLV "VertexLanguage" 125 jGr_add 2 := ⟨mt_5 94 rfl rfl, mt_5 95 rfl rfl, mt_5 96 rfl rfl, mok_Gr_add⟩
set_option maxRecDepth 20000 in
theorem ml_Gr_60 : MLS "VertexLanguage$Graph" 60 jGr_hang 5 := ⟨mt_5 98 rfl rfl, mt_5 99 rfl rfl, mok_Gr_hang⟩
set_option maxRecDepth 20000 in
theorem ml_Lw_53 : MLV "VertexLanguageLaw" 53 jVL_weight 3 := ⟨mt_5 101 rfl rfl, mt_5 102 rfl rfl, mt_5 103 rfl rfl, mok_VL_weight⟩
set_option maxRecDepth 20000 in
theorem ml_VL_129 : MLV "VertexLanguage" 129 jGr_setWeight 3 := ⟨mt_5 105 rfl rfl, mt_5 106 rfl rfl, mt_5 107 rfl rfl, mok_Gr_setWeight⟩
set_option maxRecDepth 20000 in
theorem ml_Gr_64 : MLV "VertexLanguage$Graph" 64 jGr_weightOf 2 := ⟨mt_5 109 rfl rfl, mt_5 110 rfl rfl, mt_5 111 rfl rfl, mok_Gr_weightOf⟩
set_option maxRecDepth 20000 in
theorem ml_Lw_58 : MLV "VertexLanguageLaw" 58 jVL_begin 1 := ⟨mt_5 113 rfl rfl, mt_5 114 rfl rfl, mt_5 115 rfl rfl, mok_VL_begin⟩
set_option maxRecDepth 20000 in
theorem ml_VL_133 : MLV "VertexLanguage" 133 jMa_setOut 1 := ⟨mt_5 117 rfl rfl, mt_5 118 rfl rfl, mt_5 119 rfl rfl, mok_Ma_setOut⟩
set_option maxRecDepth 20000 in
theorem ml_Ma_64 : MLV "VertexLanguage$Machine" 64 jMa_now 0 := ⟨mt_5 121 rfl rfl, mt_5 122 rfl rfl, mt_5 123 rfl rfl, mok_Ma_now⟩
set_option maxRecDepth 20000 in
theorem ml_Ma_68 : MLV "VertexLanguage$Machine" 68 jMo_beginAs 1 := ⟨mt_5 125 rfl rfl, mt_5 126 rfl rfl, mt_5 127 rfl rfl, mok_Mo_beginAs⟩
set_option maxRecDepth 20000 in
theorem ml_Mo_48 : MLV "VertexLanguage$Moment" 48 jMo_forgetMessages 1 := ⟨mt_5 130 rfl rfl, mt_5 132 rfl rfl, mp_ 43 rfl rfl, mok_Mo_forgetMessages⟩
set_option maxRecDepth 20000 in
theorem ml_Mo_58 : MLS "VertexLanguage$Moment" 58 jPr_nothing 1 := ⟨mt_5 134 rfl rfl, mt_5 135 rfl rfl, mok_Pr_nothing⟩
set_option maxRecDepth 20000 in
theorem ml_Mo_62 : MLS "VertexLanguage$Moment" 62 jAr_fill 2 := ⟨mt_5 139 rfl rfl, mt_2 59 rfl rfl, mok_Ar_fill⟩
set_option maxRecDepth 20000 in
theorem ml_Lw_62 : MLV "VertexLanguageLaw" 62 jVL_run 1 := ⟨mt_5 140 rfl rfl, mt_5 141 rfl rfl, mt_5 142 rfl rfl, mok_VL_run⟩
set_option maxRecDepth 20000 in
theorem ml_VL_136 : MLV "VertexLanguage" 136 jMa_hasEnded 0 := ⟨mt_5 144 rfl rfl, mt_5 145 rfl rfl, mt_5 146 rfl rfl, mok_Ma_hasEnded⟩
set_option maxRecDepth 20000 in
theorem ml_Ma_80 : MLV "VertexLanguage$Machine" 80 jMo_restingOf 1 := ⟨mt_5 148 rfl rfl, mt_5 149 rfl rfl, mt_5 150 rfl rfl, mok_Mo_restingOf⟩
set_option maxRecDepth 20000 in
theorem ml_VL_140 : MLV "VertexLanguage" 140 jMa_doTurn 0 := ⟨mt_5 152 rfl rfl, mt_5 153 rfl rfl, mt_5 154 rfl rfl, mok_Ma_doTurn⟩
set_option maxRecDepth 20000 in
theorem ml_Ma_84 : MLV "VertexLanguage$Machine" 84 jMo_follow 2 := ⟨mt_5 156 rfl rfl, mt_5 157 rfl rfl, mt_5 158 rfl rfl, mok_Mo_follow⟩
set_option maxRecDepth 20000 in
theorem ml_Ma_88 : MLV "VertexLanguage$Machine" 88 jWo_setTurn 3 := ⟨mt_5 160 rfl rfl, mt_5 161 rfl rfl, mt_5 162 rfl rfl, mok_Wo_setTurn⟩
set_option maxRecDepth 20000 in
theorem ml_Ma_96 : MLV "VertexLanguage$Machine" 96 jMo_wakes 1 := ⟨mt_5 164 rfl rfl, mt_5 165 rfl rfl, mt_5 166 rfl rfl, mok_Mo_wakes⟩
set_option maxRecDepth 20000 in
theorem ml_Ma_100 : MLV "VertexLanguage$Machine" 100 jWo_work 1 := ⟨mt_5 168 rfl rfl, mt_5 169 rfl rfl, mt_5 170 rfl rfl, mok_Wo_work⟩
set_option maxRecDepth 20000 in
theorem ml_Wo_85 : MLV "VertexLanguage$Worker" 85 jWo_perform 2 := ⟨mt_5 173 rfl rfl, mt_5 175 rfl rfl, mp_ 44 rfl rfl, mok_Wo_perform⟩
set_option maxRecDepth 20000 in
theorem ml_Wo_89 : MLV "VertexLanguage$Worker" 89 jWo_countStep 1 := ⟨mt_5 177 rfl rfl, mt_5 179 rfl rfl, mp_ 45 rfl rfl, mok_Wo_countStep⟩
set_option maxRecDepth 20000 in
theorem ml_Wo_116 : MLV "VertexLanguage$Worker" 116 jWo_fail 2 := ⟨mt_5 181 rfl rfl, mt_5 183 rfl rfl, mp_ 46 rfl rfl, mok_Wo_fail⟩
set_option maxRecDepth 20000 in
theorem ml_Wo_96 : MLV "VertexLanguage$Worker" 96 jWo_operand 2 := ⟨mt_5 185 rfl rfl, mt_5 187 rfl rfl, mp_ 47 rfl rfl, mok_Wo_operand⟩
set_option maxRecDepth 20000 in
theorem ml_Wo_134 : MLV "VertexLanguage$Worker" 134 jGr_weightOf 2 := ⟨mt_5 189 rfl rfl, mt_5 110 rfl rfl, mt_5 111 rfl rfl, mok_Gr_weightOf⟩
set_option maxRecDepth 20000 in
theorem ml_Wo_100 : MLV "VertexLanguage$Worker" 100 jWo_push 1 := ⟨mt_5 190 rfl rfl, mt_5 192 rfl rfl, mp_ 48 rfl rfl, mok_Wo_push⟩
set_option maxRecDepth 20000 in
theorem ml_Wo_104 : MLV "VertexLanguage$Worker" 104 jWo_operate 2 := ⟨mt_5 194 rfl rfl, mt_5 196 rfl rfl, mp_ 49 rfl rfl, mok_Wo_operate⟩
set_option maxRecDepth 20000 in
theorem ml_Wo_151 : MLV "VertexLanguage$Worker" 151 jWo_pop 0 := ⟨mt_5 198 rfl rfl, mt_5 200 rfl rfl, mp_ 50 rfl rfl, mok_Wo_pop⟩
set_option maxRecDepth 20000 in
theorem ml_Wo_158 : MLV "VertexLanguage$Worker" 158 jWo_draw 1 := ⟨mt_5 202 rfl rfl, mt_5 204 rfl rfl, mp_ 51 rfl rfl, mok_Wo_draw⟩
set_option maxRecDepth 20000 in
theorem ml_Wo_166 : MLS "VertexLanguage$Worker" 166 jWo_mixed 2 := ⟨mt_5 206 rfl rfl, mt_5 207 rfl rfl, mok_Wo_mixed⟩
set_option maxRecDepth 20000 in
theorem ml_Wo_162 : MLV "VertexLanguage$Worker" 162 jWo_binary 3 := ⟨mt_5 211 rfl rfl, mt_5 213 rfl rfl, mp_ 52 rfl rfl, mok_Wo_binary⟩
set_option maxRecDepth 20000 in
theorem ml_Wo_174 : MLS "VertexLanguage$Worker" 174 jWo_combined 3 := ⟨mt_5 215 rfl rfl, mt_5 216 rfl rfl, mok_Wo_combined⟩
set_option maxRecDepth 20000 in
theorem ml_Wo_107 : MLV "VertexLanguage$Worker" 107 jWo_flow 2 := ⟨mt_5 218 rfl rfl, mt_5 220 rfl rfl, mp_ 53 rfl rfl, mok_Wo_flow⟩
set_option maxRecDepth 20000 in
theorem ml_Wo_178 : MLV "VertexLanguage$Worker" 178 jWo_keepOrDrop 2 := ⟨mt_5 222 rfl rfl, mt_5 224 rfl rfl, mp_ 54 rfl rfl, mok_Wo_keepOrDrop⟩
set_option maxRecDepth 20000 in
theorem ml_Wo_181 : MLV "VertexLanguage$Worker" 181 jWo_setRepeats 2 := ⟨mt_5 226 rfl rfl, mt_5 228 rfl rfl, mp_ 55 rfl rfl, mok_Wo_setRepeats⟩
set_option maxRecDepth 20000 in
theorem ml_Wo_184 : MLV "VertexLanguage$Worker" 184 jWo_repeat 3 := ⟨mt_5 230 rfl rfl, mt_5 232 rfl rfl, mp_ 56 rfl rfl, mok_Wo_repeat⟩
set_option maxRecDepth 20000 in
theorem ml_Wo_191 : MLV "VertexLanguage$Worker" 191 jGr_firstArc 2 := ⟨mt_5 234 rfl rfl, mt_5 235 rfl rfl, mt_5 236 rfl rfl, mok_Gr_firstArc⟩
set_option maxRecDepth 20000 in
theorem ml_Wo_195 : MLV "VertexLanguage$Worker" 195 jGr_nextArc 2 := ⟨mt_5 238 rfl rfl, mt_5 239 rfl rfl, mt_6 0 rfl rfl, mok_Gr_nextArc⟩
set_option maxRecDepth 20000 in
theorem ml_Wo_110 : MLV "VertexLanguage$Worker" 110 jWo_act 2 := ⟨mt_6 2 rfl rfl, mt_6 4 rfl rfl, mp_ 57 rfl rfl, mok_Wo_act⟩
set_option maxRecDepth 20000 in
theorem ml_Wo_198 : MLV "VertexLanguage$Worker" 198 jGr_otherEnd 2 := ⟨mt_6 6 rfl rfl, mt_6 7 rfl rfl, mt_6 8 rfl rfl, mok_Gr_otherEnd⟩
set_option maxRecDepth 20000 in
theorem ml_Wo_201 : MLV "VertexLanguage$Worker" 201 jMo_deliver 4 := ⟨mt_6 10 rfl rfl, mt_6 11 rfl rfl, mt_6 12 rfl rfl, mok_Mo_deliver⟩
set_option maxRecDepth 20000 in
theorem ml_Mo_71 : MLS "VertexLanguage$Moment" 71 jPr_folded 4 := ⟨mt_6 14 rfl rfl, mt_6 15 rfl rfl, mok_Pr_folded⟩
set_option maxRecDepth 20000 in
theorem ml_Pr_68 : MLS "VertexLanguage$Program" 68 jMt_min 2 := ⟨mt_6 17 rfl rfl, mt_3 69 rfl rfl, mok_Mt_min⟩
set_option maxRecDepth 20000 in
theorem ml_Pr_74 : MLS "VertexLanguage$Program" 74 jMt_max 2 := ⟨mt_6 18 rfl rfl, mt_3 72 rfl rfl, mok_Mt_max⟩
set_option maxRecDepth 20000 in
theorem ml_Wo_205 : MLV "VertexLanguage$Worker" 205 jMo_give 3 := ⟨mt_6 19 rfl rfl, mt_6 20 rfl rfl, mt_6 21 rfl rfl, mok_Mo_give⟩
set_option maxRecDepth 20000 in
theorem ml_Ma_108 : MLV "VertexLanguage$Machine" 108 jMa_noteFailure 2 := ⟨mt_6 23 rfl rfl, mt_6 25 rfl rfl, mp_ 58 rfl rfl, mok_Ma_noteFailure⟩
set_option maxRecDepth 20000 in
theorem ml_Ma_115 : MLS "VertexLanguage$Machine" 115 jMt_min 2 := ⟨mt_6 27 rfl rfl, mt_3 69 rfl rfl, mok_Mt_min⟩
set_option maxRecDepth 20000 in
theorem ml_Lw_66 : MLV "VertexLanguageLaw" 66 jVL_undo 0 := ⟨mt_6 28 rfl rfl, mt_6 29 rfl rfl, mt_6 30 rfl rfl, mok_VL_undo⟩
set_option maxRecDepth 20000 in
theorem ml_VL_146 : MLV "VertexLanguage" 146 jMa_goBack 0 := ⟨mt_6 32 rfl rfl, mt_6 33 rfl rfl, mt_6 34 rfl rfl, mok_Ma_goBack⟩
set_option maxRecDepth 20000 in
theorem ml_VL_149 : MLV "VertexLanguage" 149 jMa_now 0 := ⟨mt_6 36 rfl rfl, mt_5 122 rfl rfl, mt_5 123 rfl rfl, mok_Ma_now⟩
set_option maxRecDepth 20000 in
theorem ml_Lw_70 : MLV "VertexLanguageLaw" 70 jVL_told 1 := ⟨mt_6 37 rfl rfl, mt_6 38 rfl rfl, mt_6 39 rfl rfl, mok_VL_told⟩
set_option maxRecDepth 20000 in
theorem ml_VL_158 : MLV "VertexLanguage" 158 jMa_tell 1 := ⟨mt_6 41 rfl rfl, mt_6 42 rfl rfl, mt_6 43 rfl rfl, mok_Ma_tell⟩
set_option maxRecDepth 20000 in
theorem ml_Ma_122 : MLV "VertexLanguage$Machine" 122 jMa_hasEnded 0 := ⟨mt_6 45 rfl rfl, mt_5 145 rfl rfl, mt_5 146 rfl rfl, mok_Ma_hasEnded⟩
set_option maxRecDepth 20000 in
theorem ml_Lw_74 : MLV "VertexLanguageLaw" 74 jVL_state 2 := ⟨mt_6 46 rfl rfl, mt_6 47 rfl rfl, mt_6 48 rfl rfl, mok_VL_state⟩
set_option maxRecDepth 20000 in
theorem ml_VL_161 : MLV "VertexLanguage" 161 jVL_runsOn 1 := ⟨mt_6 50 rfl rfl, mt_6 52 rfl rfl, mp_ 59 rfl rfl, mok_VL_runsOn⟩
set_option maxRecDepth 20000 in
theorem ml_Lw_78 : MLV "VertexLanguageLaw" 78 jVL_message 2 := ⟨mt_6 54 rfl rfl, mt_6 55 rfl rfl, mt_6 56 rfl rfl, mok_VL_message⟩
set_option maxRecDepth 20000 in
theorem ml_Lw_82 : MLV "VertexLanguageLaw" 82 jVL_messages 2 := ⟨mt_6 58 rfl rfl, mt_6 59 rfl rfl, mt_6 60 rfl rfl, mok_VL_messages⟩
set_option maxRecDepth 20000 in
theorem ml_Lw_86 : MLV "VertexLanguageLaw" 86 jVL_global 1 := ⟨mt_6 62 rfl rfl, mt_6 63 rfl rfl, mt_6 64 rfl rfl, mok_VL_global⟩
set_option maxRecDepth 20000 in
theorem ml_Lw_90 : MLV "VertexLanguageLaw" 90 jVL_halted 1 := ⟨mt_6 66 rfl rfl, mt_6 67 rfl rfl, mt_6 68 rfl rfl, mok_VL_halted⟩
set_option maxRecDepth 20000 in
theorem ml_Lw_17 : MLV "VertexLanguageLaw" 17 jMd_feed 5 := ⟨mt_8 4 rfl rfl, mt_8 5 rfl rfl, mt_8 6 rfl rfl, mok_Md_feed⟩
set_option maxRecDepth 20000 in
theorem ml_Lw_22 : MLV "VertexLanguageLaw" 22 jMd_end 1 := ⟨mt_8 8 rfl rfl, mt_8 9 rfl rfl, mt_8 10 rfl rfl, mok_Md_end⟩
set_option maxRecDepth 20000 in
theorem ml_Md_312 : MLS "VertexLanguageModel" 312 jMd_in 3 := ⟨mt_8 13 rfl rfl, mt_8 14 rfl rfl, mok_Md_in⟩
set_option maxRecDepth 20000 in
theorem ml_Lw_27 : MLV "VertexLanguageLaw" 27 jMd_program 0 := ⟨mt_8 16 rfl rfl, mt_8 17 rfl rfl, mt_8 18 rfl rfl, mok_Md_program⟩
set_option maxRecDepth 20000 in
theorem ml_Md_513 : MLV "VertexLanguageModel" 513 jMd_findTokens 0 := ⟨mt_8 20 rfl rfl, mt_8 22 rfl rfl, mp_ 61 rfl rfl, mok_Md_findTokens⟩
set_option maxRecDepth 20000 in
theorem ml_Md_342 : MLV "VertexLanguageModel" 342 jMd_token 4 := ⟨mt_8 24 rfl rfl, mt_8 26 rfl rfl, mp_ 62 rfl rfl, mok_Md_token⟩
set_option maxRecDepth 20000 in
theorem ml_Md_346 : MLS "VertexLanguageModel" 346 jMd_isLetter 1 := ⟨mt_8 28 rfl rfl, mt_8 29 rfl rfl, mok_Md_isLetter⟩
set_option maxRecDepth 20000 in
theorem ml_Md_350 : MLS "VertexLanguageModel" 350 jMd_isDigit 1 := ⟨mt_8 35 rfl rfl, mt_8 36 rfl rfl, mok_Md_isDigit⟩
set_option maxRecDepth 20000 in
theorem ml_Md_353 : MLV "VertexLanguageModel" 353 jMd_isText 3 := ⟨mt_8 40 rfl rfl, mt_8 42 rfl rfl, mp_ 63 rfl rfl, mok_Md_isText⟩
set_option maxRecDepth 20000 in
theorem ml_Md_328 : MLV "VertexLanguageModel" 328 jSg_length 0 := ⟨mt_8 44 rfl rfl, mt_3 105 rfl rfl, mt_3 106 rfl rfl, mok_Sg_length⟩
set_option maxRecDepth 20000 in
theorem ml_Md_332 : MLV "VertexLanguageModel" 332 jSg_charAt 1 := ⟨mt_8 45 rfl rfl, mt_3 115 rfl rfl, mt_3 116 rfl rfl, mok_Sg_charAt⟩
set_option maxRecDepth 20000 in
theorem ml_Md_516 : MLV "VertexLanguageModel" 516 jMd_readProgram 0 := ⟨mt_8 49 rfl rfl, mt_8 51 rfl rfl, mp_ 64 rfl rfl, mok_Md_readProgram⟩
set_option maxRecDepth 20000 in
theorem ml_Md_374 : MLV "VertexLanguageModel" 374 jMd_is 1 := ⟨mt_8 53 rfl rfl, mt_8 55 rfl rfl, mp_ 65 rfl rfl, mok_Md_is⟩
set_option maxRecDepth 20000 in
theorem ml_Md_447 : MLV "VertexLanguageModel" 447 jMd_readTold 0 := ⟨mt_8 57 rfl rfl, mt_8 59 rfl rfl, mp_ 66 rfl rfl, mok_Md_readTold⟩
set_option maxRecDepth 20000 in
theorem ml_Md_378 : MLV "VertexLanguageModel" 378 jMd_pass 0 := ⟨mt_8 61 rfl rfl, mt_8 63 rfl rfl, mp_ 67 rfl rfl, mok_Md_pass⟩
set_option maxRecDepth 20000 in
theorem ml_Md_366 : MLV "VertexLanguageModel" 366 jMd_placeOf 1 := ⟨mt_8 65 rfl rfl, mt_8 67 rfl rfl, mp_ 68 rfl rfl, mok_Md_placeOf⟩
set_option maxRecDepth 20000 in
theorem ml_Md_370 : MLV "VertexLanguageModel" 370 jMd_fail 2 := ⟨mt_8 69 rfl rfl, mt_8 71 rfl rfl, mp_ 69 rfl rfl, mok_Md_fail⟩
set_option maxRecDepth 20000 in
theorem ml_Md_424 : MLV "VertexLanguageModel" 424 jMd_mustName 0 := ⟨mt_8 73 rfl rfl, mt_8 75 rfl rfl, mp_ 70 rfl rfl, mok_Md_mustName⟩
set_option maxRecDepth 20000 in
theorem ml_Md_442 : MLS "VertexLanguageModel" 442 jMd_most 1 := ⟨mt_8 77 rfl rfl, mt_8 78 rfl rfl, mok_Md_most⟩
set_option maxRecDepth 20000 in
theorem ml_Md_420 : MLV "VertexLanguageModel" 420 jMd_must 1 := ⟨mt_8 80 rfl rfl, mt_8 82 rfl rfl, mp_ 71 rfl rfl, mok_Md_must⟩
set_option maxRecDepth 20000 in
theorem ml_Md_439 : MLS "VertexLanguageModel" 439 jMd_readBlock 1 := ⟨mt_8 84 rfl rfl, mt_8 85 rfl rfl, mok_Md_readBlock⟩
set_option maxRecDepth 20000 in
theorem ml_Md_430 : MLS "VertexLanguageModel" 430 jMd_readStatement 1 := ⟨mt_8 87 rfl rfl, mt_8 88 rfl rfl, mok_Md_readStatement⟩
set_option maxRecDepth 20000 in
theorem ml_Md_433 : MLV "VertexLanguageModel" 433 jMd_beginsStatement 0 := ⟨mt_8 90 rfl rfl, mt_8 92 rfl rfl, mp_ 72 rfl rfl, mok_Md_beginsStatement⟩
set_option maxRecDepth 20000 in
theorem ml_Md_417 : MLS "VertexLanguageModel" 417 jMd_readExp 1 := ⟨mt_8 94 rfl rfl, mt_8 95 rfl rfl, mok_Md_readExp⟩
set_option maxRecDepth 20000 in
theorem ml_Md_391 : MLV "VertexLanguageModel" 391 jMd_mustBeginExp 0 := ⟨mt_8 97 rfl rfl, mt_8 99 rfl rfl, mp_ 73 rfl rfl, mok_Md_mustBeginExp⟩
set_option maxRecDepth 20000 in
theorem ml_Md_384 : MLV "VertexLanguageModel" 384 jMd_beginsExp 0 := ⟨mt_8 101 rfl rfl, mt_8 103 rfl rfl, mp_ 74 rfl rfl, mok_Md_beginsExp⟩
set_option maxRecDepth 20000 in
theorem ml_Md_394 : MLS "VertexLanguageModel" 394 jMd_readBoth 1 := ⟨mt_8 105 rfl rfl, mt_8 106 rfl rfl, mok_Md_readBoth⟩
set_option maxRecDepth 20000 in
theorem ml_Md_402 : MLS "VertexLanguageModel" 402 jMd_readTest 1 := ⟨mt_8 108 rfl rfl, mt_8 109 rfl rfl, mok_Md_readTest⟩
set_option maxRecDepth 20000 in
theorem ml_Md_405 : MLS "VertexLanguageModel" 405 jMd_readSum 1 := ⟨mt_8 111 rfl rfl, mt_8 112 rfl rfl, mok_Md_readSum⟩
set_option maxRecDepth 20000 in
theorem ml_Md_411 : MLS "VertexLanguageModel" 411 jMd_readTerm 1 := ⟨mt_8 114 rfl rfl, mt_8 115 rfl rfl, mok_Md_readTerm⟩
set_option maxRecDepth 20000 in
theorem ml_Md_414 : MLS "VertexLanguageModel" 414 jMd_readOne 1 := ⟨mt_8 117 rfl rfl, mt_8 118 rfl rfl, mok_Md_readOne⟩
set_option maxRecDepth 20000 in
theorem ml_Md_398 : MLV "VertexLanguageModel" 398 jMd_exp 5 := ⟨mt_8 120 rfl rfl, mt_8 122 rfl rfl, mp_ 75 rfl rfl, mok_Md_exp⟩
set_option maxRecDepth 20000 in
theorem ml_Md_408 : MLV "VertexLanguageModel" 408 jMd_isTest 0 := ⟨mt_8 124 rfl rfl, mt_8 126 rfl rfl, mp_ 76 rfl rfl, mok_Md_isTest⟩
set_option maxRecDepth 20000 in
theorem ml_Md_519 : MLV "VertexLanguageModel" 519 jMd_judgeProgram 0 := ⟨mt_8 128 rfl rfl, mt_8 130 rfl rfl, mp_ 77 rfl rfl, mok_Md_judgeProgram⟩
set_option maxRecDepth 20000 in
theorem ml_Md_484 : MLV "VertexLanguageModel" 484 jMd_find 1 := ⟨mt_8 132 rfl rfl, mt_8 134 rfl rfl, mp_ 78 rfl rfl, mok_Md_find⟩
set_option maxRecDepth 20000 in
theorem ml_Md_462 : MLV "VertexLanguageModel" 462 jMd_sameName 2 := ⟨mt_8 136 rfl rfl, mt_8 138 rfl rfl, mp_ 79 rfl rfl, mok_Md_sameName⟩
set_option maxRecDepth 20000 in
theorem ml_Md_469 : MLV "VertexLanguageModel" 469 jMd_numberOf 1 := ⟨mt_8 140 rfl rfl, mt_8 142 rfl rfl, mp_ 80 rfl rfl, mok_Md_numberOf⟩
set_option maxRecDepth 20000 in
theorem ml_Md_481 : MLV "VertexLanguageModel" 481 jMd_blame 2 := ⟨mt_8 144 rfl rfl, mt_8 146 rfl rfl, mp_ 81 rfl rfl, mok_Md_blame⟩
set_option maxRecDepth 20000 in
theorem ml_Md_502 : MLS "VertexLanguageModel" 502 jMd_judgeBlock 2 := ⟨mt_8 148 rfl rfl, mt_8 149 rfl rfl, mok_Md_judgeBlock⟩
set_option maxRecDepth 20000 in
theorem ml_Md_487 : MLS "VertexLanguageModel" 487 jMd_judge 3 := ⟨mt_8 151 rfl rfl, mt_8 152 rfl rfl, mok_Md_judge⟩
set_option maxRecDepth 20000 in
theorem ml_Md_491 : MLV "VertexLanguageModel" 491 jMd_mustBe 3 := ⟨mt_8 154 rfl rfl, mt_8 156 rfl rfl, mp_ 82 rfl rfl, mok_Md_mustBe⟩
set_option maxRecDepth 20000 in
theorem ml_Md_495 : MLS "VertexLanguageModel" 495 jMd_judgeBinary 3 := ⟨mt_8 158 rfl rfl, mt_8 159 rfl rfl, mok_Md_judgeBinary⟩
set_option maxRecDepth 20000 in
theorem ml_Md_498 : MLV "VertexLanguageModel" 498 jMd_isSign 2 := ⟨mt_8 161 rfl rfl, mt_8 163 rfl rfl, mp_ 83 rfl rfl, mok_Md_isSign⟩
set_option maxRecDepth 20000 in
theorem ml_Md_522 : MLV "VertexLanguageModel" 522 jMd_printAll 0 := ⟨mt_8 165 rfl rfl, mt_8 167 rfl rfl, mp_ 84 rfl rfl, mok_Md_printAll⟩
set_option maxRecDepth 20000 in
theorem ml_Md_531 : MLV "VertexLanguageModel" 531 jMd_showText 1 := ⟨mt_8 169 rfl rfl, mt_8 171 rfl rfl, mp_ 85 rfl rfl, mok_Md_showText⟩
set_option maxRecDepth 20000 in
theorem ml_Md_539 : MLV "VertexLanguageModel" 539 jMd_show 1 := ⟨mt_8 173 rfl rfl, mt_8 175 rfl rfl, mp_ 86 rfl rfl, mok_Md_show⟩
set_option maxRecDepth 20000 in
theorem ml_Md_543 : MLS "VertexLanguageModel" 543 jMd_showBlock 2 := ⟨mt_8 177 rfl rfl, mt_8 178 rfl rfl, mok_Md_showBlock⟩
set_option maxRecDepth 20000 in
theorem ml_Md_535 : MLS "VertexLanguageModel" 535 jMd_showExp 3 := ⟨mt_8 180 rfl rfl, mt_8 181 rfl rfl, mok_Md_showExp⟩
set_option maxRecDepth 20000 in
theorem ml_Md_528 : MLV "VertexLanguageModel" 528 jMd_line 1 := ⟨mt_8 183 rfl rfl, mt_8 185 rfl rfl, mp_ 87 rfl rfl, mok_Md_line⟩
set_option maxRecDepth 20000 in
theorem ml_Lw_31 : MLV "VertexLanguageLaw" 31 jMd_fault 1 := ⟨mt_8 187 rfl rfl, mt_8 188 rfl rfl, mt_8 189 rfl rfl, mok_Md_fault⟩
set_option maxRecDepth 20000 in
theorem ml_Lw_35 : MLV "VertexLanguageLaw" 35 jMd_print 1 := ⟨mt_8 191 rfl rfl, mt_8 192 rfl rfl, mt_8 193 rfl rfl, mok_Md_print⟩
set_option maxRecDepth 20000 in
theorem ml_Lw_39 : MLV "VertexLanguageLaw" 39 jMd_name 0 := ⟨mt_8 195 rfl rfl, mt_8 196 rfl rfl, mt_8 197 rfl rfl, mok_Md_name⟩
set_option maxRecDepth 20000 in
theorem ml_Lw_43 : MLV "VertexLanguageLaw" 43 jMd_count 1 := ⟨mt_8 199 rfl rfl, mt_8 200 rfl rfl, mt_8 201 rfl rfl, mok_Md_count⟩
set_option maxRecDepth 20000 in
theorem ml_Lw_47 : MLV "VertexLanguageLaw" 47 jMd_nodes 1 := ⟨mt_8 203 rfl rfl, mt_8 204 rfl rfl, mt_8 205 rfl rfl, mok_Md_nodes⟩
set_option maxRecDepth 20000 in
theorem ml_Lw_52 : MLV "VertexLanguageLaw" 52 jMd_arc 2 := ⟨mt_8 208 rfl rfl, mt_8 209 rfl rfl, mt_8 210 rfl rfl, mok_Md_arc⟩
set_option maxRecDepth 20000 in
theorem ml_Lw_57 : MLV "VertexLanguageLaw" 57 jMd_weight 3 := ⟨mt_8 212 rfl rfl, mt_8 213 rfl rfl, mt_8 214 rfl rfl, mok_Md_weight⟩
set_option maxRecDepth 20000 in
theorem ml_Lw_61 : MLV "VertexLanguageLaw" 61 jMd_begin 1 := ⟨mt_8 217 rfl rfl, mt_8 218 rfl rfl, mt_8 219 rfl rfl, mok_Md_begin⟩
set_option maxRecDepth 20000 in
theorem ml_Md_582 : MLV "VertexLanguageModel" 582 jMd_wayOf 2 := ⟨mt_8 221 rfl rfl, mt_8 223 rfl rfl, mp_ 88 rfl rfl, mok_Md_wayOf⟩
set_option maxRecDepth 20000 in
theorem ml_Md_553 : MLV "VertexLanguageModel" 553 jMd_toldOf 2 := ⟨mt_8 225 rfl rfl, mt_8 227 rfl rfl, mp_ 89 rfl rfl, mok_Md_toldOf⟩
set_option maxRecDepth 20000 in
theorem ml_Lw_65 : MLV "VertexLanguageLaw" 65 jMd_run 1 := ⟨mt_8 229 rfl rfl, mt_8 230 rfl rfl, mt_8 231 rfl rfl, mok_Md_run⟩
set_option maxRecDepth 20000 in
theorem ml_Md_657 : MLV "VertexLanguageModel" 657 jMd_hasEnded 0 := ⟨mt_8 234 rfl rfl, mt_8 236 rfl rfl, mp_ 90 rfl rfl, mok_Md_hasEnded⟩
set_option maxRecDepth 20000 in
theorem ml_Md_649 : MLV "VertexLanguageModel" 649 jMd_underWay 0 := ⟨mt_8 238 rfl rfl, mt_9 0 rfl rfl, mp_ 91 rfl rfl, mok_Md_underWay⟩
set_option maxRecDepth 20000 in
theorem ml_Md_652 : MLV "VertexLanguageModel" 652 jMd_haltedCount 0 := ⟨mt_9 2 rfl rfl, mt_9 4 rfl rfl, mp_ 92 rfl rfl, mok_Md_haltedCount⟩
set_option maxRecDepth 20000 in
theorem ml_Md_660 : MLV "VertexLanguageModel" 660 jMd_oneTurn 0 := ⟨mt_9 6 rfl rfl, mt_9 8 rfl rfl, mp_ 93 rfl rfl, mok_Md_oneTurn⟩
set_option maxRecDepth 20000 in
theorem ml_Md_639 : MLV "VertexLanguageModel" 639 jMd_save 2 := ⟨mt_9 10 rfl rfl, mt_9 12 rfl rfl, mp_ 94 rfl rfl, mok_Md_save⟩
set_option maxRecDepth 20000 in
theorem ml_Md_636 : MLS "VertexLanguageModel" 636 jMd_goBlock 2 := ⟨mt_9 14 rfl rfl, mt_9 15 rfl rfl, mok_Md_goBlock⟩
set_option maxRecDepth 20000 in
theorem ml_Md_595 : MLV "VertexLanguageModel" 595 jMd_step 0 := ⟨mt_9 17 rfl rfl, mt_9 19 rfl rfl, mp_ 95 rfl rfl, mok_Md_step⟩
set_option maxRecDepth 20000 in
theorem ml_Md_591 : MLS "VertexLanguageModel" 591 jMd_value 2 := ⟨mt_9 21 rfl rfl, mt_9 22 rfl rfl, mok_Md_value⟩
set_option maxRecDepth 20000 in
theorem ml_Md_598 : MLV "VertexLanguageModel" 598 jMd_drawn 1 := ⟨mt_9 24 rfl rfl, mt_9 26 rfl rfl, mp_ 96 rfl rfl, mok_Md_drawn⟩
set_option maxRecDepth 20000 in
theorem ml_Md_616 : MLS "VertexLanguageModel" 616 jMd_mixed 2 := ⟨mt_9 28 rfl rfl, mt_9 29 rfl rfl, mok_Md_mixed⟩
set_option maxRecDepth 20000 in
theorem ml_Md_601 : MLS "VertexLanguageModel" 601 jMd_binary 2 := ⟨mt_9 33 rfl rfl, mt_9 34 rfl rfl, mok_Md_binary⟩
set_option maxRecDepth 20000 in
theorem ml_Md_604 : MLV "VertexLanguageModel" 604 jMd_operand 1 := ⟨mt_9 36 rfl rfl, mt_9 38 rfl rfl, mp_ 97 rfl rfl, mok_Md_operand⟩
set_option maxRecDepth 20000 in
theorem ml_Md_612 : MLS "VertexLanguageModel" 612 jMd_nothing 1 := ⟨mt_9 40 rfl rfl, mt_9 41 rfl rfl, mok_Md_nothing⟩
set_option maxRecDepth 20000 in
theorem ml_Md_631 : MLV "VertexLanguageModel" 631 jMd_deliver 3 := ⟨mt_9 45 rfl rfl, mt_9 47 rfl rfl, mp_ 98 rfl rfl, mok_Md_deliver⟩
set_option maxRecDepth 20000 in
theorem ml_Md_624 : MLS "VertexLanguageModel" 624 jMd_folded 4 := ⟨mt_9 49 rfl rfl, mt_9 50 rfl rfl, mok_Md_folded⟩
set_option maxRecDepth 20000 in
theorem ml_Md_634 : MLV "VertexLanguageModel" 634 jMd_give 2 := ⟨mt_9 52 rfl rfl, mt_9 54 rfl rfl, mp_ 99 rfl rfl, mok_Md_give⟩
set_option maxRecDepth 20000 in
theorem ml_Md_646 : MLV "VertexLanguageModel" 646 jMd_bring 2 := ⟨mt_9 56 rfl rfl, mt_9 58 rfl rfl, mp_ 100 rfl rfl, mok_Md_bring⟩
set_option maxRecDepth 20000 in
theorem ml_Lw_69 : MLV "VertexLanguageLaw" 69 jMd_undo 0 := ⟨mt_9 60 rfl rfl, mt_9 61 rfl rfl, mt_9 62 rfl rfl, mok_Md_undo⟩
set_option maxRecDepth 20000 in
theorem ml_Lw_73 : MLV "VertexLanguageLaw" 73 jMd_told 1 := ⟨mt_9 64 rfl rfl, mt_9 65 rfl rfl, mt_9 66 rfl rfl, mok_Md_told⟩
set_option maxRecDepth 20000 in
theorem ml_Lw_77 : MLV "VertexLanguageLaw" 77 jMd_state 2 := ⟨mt_9 68 rfl rfl, mt_9 69 rfl rfl, mt_9 70 rfl rfl, mok_Md_state⟩
set_option maxRecDepth 20000 in
theorem ml_Lw_81 : MLV "VertexLanguageLaw" 81 jMd_message 2 := ⟨mt_9 72 rfl rfl, mt_9 73 rfl rfl, mt_9 74 rfl rfl, mok_Md_message⟩
set_option maxRecDepth 20000 in
theorem ml_Md_663 : MLV "VertexLanguageModel" 663 jMd_noFold 2 := ⟨mt_9 76 rfl rfl, mt_9 78 rfl rfl, mp_ 101 rfl rfl, mok_Md_noFold⟩
set_option maxRecDepth 20000 in
theorem ml_Lw_85 : MLV "VertexLanguageLaw" 85 jMd_messages 2 := ⟨mt_9 80 rfl rfl, mt_9 81 rfl rfl, mt_9 82 rfl rfl, mok_Md_messages⟩
set_option maxRecDepth 20000 in
theorem ml_Lw_89 : MLV "VertexLanguageLaw" 89 jMd_global 1 := ⟨mt_9 84 rfl rfl, mt_9 85 rfl rfl, mt_9 86 rfl rfl, mok_Md_global⟩
set_option maxRecDepth 20000 in
theorem ml_Lw_93 : MLV "VertexLanguageLaw" 93 jMd_halted 1 := ⟨mt_9 88 rfl rfl, mt_9 89 rfl rfl, mt_9 90 rfl rfl, mok_Md_halted⟩
set_option maxRecDepth 20000 in
theorem fl_Te_9 : FL "VertexLanguage$Text" 9 9 0 7 := ⟨cR9, cT9, rfl, by decide, by decide, Or.inr trivial, mt_1 40 rfl rfl⟩
set_option maxRecDepth 20000 in
theorem fl_Re_119 : FL "VertexLanguage$Reader" 119 9 0 7 := ⟨cR9, cT9, rfl, by decide, by decide, Or.inr trivial, mt_1 41 rfl rfl⟩
set_option maxRecDepth 20000 in
theorem fl_Lo_42 : FL "VertexLanguage$Lot" 42 9 0 7 := ⟨cR9, cT9, rfl, by decide, by decide, Or.inr trivial, mt_1 42 rfl rfl⟩
set_option maxRecDepth 20000 in
theorem fl_Te_35 : FL "VertexLanguage$Text" 35 9 1 7 := ⟨cR9, cT9, rfl, by decide, by decide, Or.inr trivial, mt_1 43 rfl rfl⟩
set_option maxRecDepth 20000 in
theorem fp_Te_35 : FP "VertexLanguage$Text" 35 9 1 7 := ⟨cR9, cT9, rfl, by decide, by decide, rfl, mt_1 43 rfl rfl⟩
set_option maxRecDepth 20000 in
theorem fl_Te_13 : FL "VertexLanguage$Text" 13 9 2 7 := ⟨cR9, cT9, rfl, by decide, by decide, Or.inr trivial, mt_1 44 rfl rfl⟩
set_option maxRecDepth 20000 in
theorem fl_Cu_23 : FL "VertexLanguage$Cursor" 23 9 2 7 := ⟨cR9, cT9, rfl, by decide, by decide, Or.inr trivial, mt_1 45 rfl rfl⟩
set_option maxRecDepth 20000 in
theorem fl_Te_17 : FL "VertexLanguage$Text" 17 9 3 7 := ⟨cR9, cT9, rfl, by decide, by decide, Or.inr trivial, mt_1 46 rfl rfl⟩
set_option maxRecDepth 20000 in
theorem fl_Re_123 : FL "VertexLanguage$Reader" 123 9 3 7 := ⟨cR9, cT9, rfl, by decide, by decide, Or.inr trivial, mt_1 47 rfl rfl⟩
set_option maxRecDepth 20000 in
theorem fl_Lo_48 : FL "VertexLanguage$Lot" 48 9 3 7 := ⟨cR9, cT9, rfl, by decide, by decide, Or.inr trivial, mt_1 48 rfl rfl⟩
set_option maxRecDepth 20000 in
theorem fl_Cu_36 : FL "VertexLanguage$Cursor" 36 9 3 7 := ⟨cR9, cT9, rfl, by decide, by decide, Or.inr trivial, mt_1 49 rfl rfl⟩
set_option maxRecDepth 20000 in
theorem fl_Ex_86 : FL "VertexLanguage$Exps" 86 9 3 7 := ⟨cR9, cT9, rfl, by decide, by decide, Or.inr trivial, mt_1 50 rfl rfl⟩
set_option maxRecDepth 20000 in
theorem fl_Te_20 : FL "VertexLanguage$Text" 20 9 4 7 := ⟨cR9, cT9, rfl, by decide, by decide, Or.inr trivial, mt_1 51 rfl rfl⟩
set_option maxRecDepth 20000 in
theorem fl_Re_127 : FL "VertexLanguage$Reader" 127 9 4 7 := ⟨cR9, cT9, rfl, by decide, by decide, Or.inr trivial, mt_1 52 rfl rfl⟩
set_option maxRecDepth 20000 in
theorem fl_Lo_51 : FL "VertexLanguage$Lot" 51 9 4 7 := ⟨cR9, cT9, rfl, by decide, by decide, Or.inr trivial, mt_1 53 rfl rfl⟩
set_option maxRecDepth 20000 in
theorem fl_Te_23 : FL "VertexLanguage$Text" 23 9 5 7 := ⟨cR9, cT9, rfl, by decide, by decide, Or.inr trivial, mt_1 54 rfl rfl⟩
set_option maxRecDepth 20000 in
theorem fl_Re_172 : FL "VertexLanguage$Reader" 172 9 5 7 := ⟨cR9, cT9, rfl, by decide, by decide, Or.inr trivial, mt_1 55 rfl rfl⟩
set_option maxRecDepth 20000 in
theorem fl_Ex_136 : FL "VertexLanguage$Exps" 136 9 5 7 := ⟨cR9, cT9, rfl, by decide, by decide, Or.inr trivial, mt_1 56 rfl rfl⟩
set_option maxRecDepth 20000 in
theorem fl_Re_113 : FL "VertexLanguage$Reader" 113 9 6 7 := ⟨cR9, cT9, rfl, by decide, by decide, Or.inr trivial, mt_1 57 rfl rfl⟩
set_option maxRecDepth 20000 in
theorem fp_Re_113 : FP "VertexLanguage$Reader" 113 9 6 7 := ⟨cR9, cT9, rfl, by decide, by decide, rfl, mt_1 57 rfl rfl⟩
set_option maxRecDepth 20000 in
theorem fl_Te_48 : FL "VertexLanguage$Text" 48 9 6 7 := ⟨cR9, cT9, rfl, by decide, by decide, Or.inr trivial, mt_1 58 rfl rfl⟩
set_option maxRecDepth 20000 in
theorem fp_Te_48 : FP "VertexLanguage$Text" 48 9 6 7 := ⟨cR9, cT9, rfl, by decide, by decide, rfl, mt_1 58 rfl rfl⟩
set_option maxRecDepth 20000 in
theorem fl_Cu_29 : FL "VertexLanguage$Cursor" 29 9 6 7 := ⟨cR9, cT9, rfl, by decide, by decide, Or.inr trivial, mt_1 59 rfl rfl⟩
set_option maxRecDepth 20000 in
theorem fp_Cu_29 : FP "VertexLanguage$Cursor" 29 9 6 7 := ⟨cR9, cT9, rfl, by decide, by decide, rfl, mt_1 59 rfl rfl⟩
set_option maxRecDepth 20000 in
theorem fl_Lo_28 : FL "VertexLanguage$Lot" 28 4 0 7 := ⟨cR4, cT4, rfl, by decide, by decide, Or.inr trivial, mt_1 91 rfl rfl⟩
set_option maxRecDepth 20000 in
theorem fl_Lo_9 : FL "VertexLanguage$Lot" 9 4 1 7 := ⟨cR4, cT4, rfl, by decide, by decide, Or.inr trivial, mt_1 92 rfl rfl⟩
set_option maxRecDepth 20000 in
theorem fl_Lo_13 : FL "VertexLanguage$Lot" 13 4 2 7 := ⟨cR4, cT4, rfl, by decide, by decide, Or.inr trivial, mt_1 93 rfl rfl⟩
set_option maxRecDepth 20000 in
theorem fl_Lo_16 : FL "VertexLanguage$Lot" 16 4 3 7 := ⟨cR4, cT4, rfl, by decide, by decide, Or.inr trivial, mt_1 94 rfl rfl⟩
set_option maxRecDepth 20000 in
theorem fl_Lo_19 : FL "VertexLanguage$Lot" 19 4 4 7 := ⟨cR4, cT4, rfl, by decide, by decide, Or.inr trivial, mt_1 95 rfl rfl⟩
set_option maxRecDepth 20000 in
theorem fl_Lo_25 : FL "VertexLanguage$Lot" 25 4 5 7 := ⟨cR4, cT4, rfl, by decide, by decide, Or.inr trivial, mt_1 96 rfl rfl⟩
set_option maxRecDepth 20000 in
theorem fl_Lo_32 : FL "VertexLanguage$Lot" 32 4 6 7 := ⟨cR4, cT4, rfl, by decide, by decide, Or.inr trivial, mt_1 97 rfl rfl⟩
set_option maxRecDepth 20000 in
theorem fp_Lo_32 : FP "VertexLanguage$Lot" 32 4 6 7 := ⟨cR4, cT4, rfl, by decide, by decide, rfl, mt_1 97 rfl rfl⟩
set_option maxRecDepth 20000 in
theorem fl_Co_11 : FL "VertexLanguage$Code" 11 0 0 6 := ⟨cR0, cT0, rfl, by decide, by decide, Or.inr trivial, mt_1 119 rfl rfl⟩
set_option maxRecDepth 20000 in
theorem fl_Wo_82 : FL "VertexLanguage$Worker" 82 0 0 6 := ⟨cR0, cT0, rfl, by decide, by decide, Or.inr trivial, mt_1 120 rfl rfl⟩
set_option maxRecDepth 20000 in
theorem fl_Co_15 : FL "VertexLanguage$Code" 15 0 1 6 := ⟨cR0, cT0, rfl, by decide, by decide, Or.inr trivial, mt_1 121 rfl rfl⟩
set_option maxRecDepth 20000 in
theorem fl_Wo_93 : FL "VertexLanguage$Worker" 93 0 1 6 := ⟨cR0, cT0, rfl, by decide, by decide, Or.inr trivial, mt_1 122 rfl rfl⟩
set_option maxRecDepth 20000 in
theorem fl_Co_18 : FL "VertexLanguage$Code" 18 0 2 6 := ⟨cR0, cT0, rfl, by decide, by decide, Or.inr trivial, mt_1 123 rfl rfl⟩
set_option maxRecDepth 20000 in
theorem fl_Wo_155 : FL "VertexLanguage$Worker" 155 0 2 6 := ⟨cR0, cT0, rfl, by decide, by decide, Or.inr trivial, mt_1 124 rfl rfl⟩
set_option maxRecDepth 20000 in
theorem fl_Co_21 : FL "VertexLanguage$Code" 21 0 3 6 := ⟨cR0, cT0, rfl, by decide, by decide, Or.inr trivial, mt_1 125 rfl rfl⟩
set_option maxRecDepth 20000 in
theorem fl_Wo_113 : FL "VertexLanguage$Worker" 113 0 3 6 := ⟨cR0, cT0, rfl, by decide, by decide, Or.inr trivial, mt_1 126 rfl rfl⟩
set_option maxRecDepth 20000 in
theorem fl_Co_24 : FL "VertexLanguage$Code" 24 0 4 6 := ⟨cR0, cT0, rfl, by decide, by decide, Or.inr trivial, mt_1 127 rfl rfl⟩
set_option maxRecDepth 20000 in
theorem fp_Co_24 : FP "VertexLanguage$Code" 24 0 4 6 := ⟨cR0, cT0, rfl, by decide, by decide, rfl, mt_1 127 rfl rfl⟩
set_option maxRecDepth 20000 in
theorem fl_Re_75 : FL "VertexLanguage$Reader" 75 0 4 6 := ⟨cR0, cT0, rfl, by decide, by decide, Or.inr trivial, mt_1 128 rfl rfl⟩
set_option maxRecDepth 20000 in
theorem fp_Re_75 : FP "VertexLanguage$Reader" 75 0 4 6 := ⟨cR0, cT0, rfl, by decide, by decide, rfl, mt_1 128 rfl rfl⟩
set_option maxRecDepth 20000 in
theorem fl_Wo_77 : FL "VertexLanguage$Worker" 77 0 4 6 := ⟨cR0, cT0, rfl, by decide, by decide, Or.inr trivial, mt_1 129 rfl rfl⟩
set_option maxRecDepth 20000 in
theorem fp_Wo_77 : FP "VertexLanguage$Worker" 77 0 4 6 := ⟨cR0, cT0, rfl, by decide, by decide, rfl, mt_1 129 rfl rfl⟩
set_option maxRecDepth 20000 in
theorem fl_Co_28 : FL "VertexLanguage$Code" 28 0 5 6 := ⟨cR0, cT0, rfl, by decide, by decide, Or.inr trivial, mt_1 130 rfl rfl⟩
set_option maxRecDepth 20000 in
theorem fp_Co_28 : FP "VertexLanguage$Code" 28 0 5 6 := ⟨cR0, cT0, rfl, by decide, by decide, rfl, mt_1 130 rfl rfl⟩
set_option maxRecDepth 20000 in
theorem fl_Re_192 : FL "VertexLanguage$Reader" 192 0 5 6 := ⟨cR0, cT0, rfl, by decide, by decide, Or.inr trivial, mt_1 131 rfl rfl⟩
set_option maxRecDepth 20000 in
theorem fp_Re_192 : FP "VertexLanguage$Reader" 192 0 5 6 := ⟨cR0, cT0, rfl, by decide, by decide, rfl, mt_1 131 rfl rfl⟩
set_option maxRecDepth 20000 in
theorem fl_Re_17 : FL "VertexLanguage$Reader" 17 7 0 11 := ⟨cR7, cT7, rfl, by decide, by decide, Or.inr trivial, mt_1 145 rfl rfl⟩
set_option maxRecDepth 20000 in
theorem fl_Pr_30 : FL "VertexLanguage$Program" 30 7 0 11 := ⟨cR7, cT7, rfl, by decide, by decide, Or.inr trivial, mt_1 146 rfl rfl⟩
set_option maxRecDepth 20000 in
theorem fl_Ex_33 : FL "VertexLanguage$Exps" 33 7 0 11 := ⟨cR7, cT7, rfl, by decide, by decide, Or.inr trivial, mt_1 147 rfl rfl⟩
set_option maxRecDepth 20000 in
theorem fl_VL_93 : FL "VertexLanguage" 93 7 0 11 := ⟨cR7, cT7, rfl, by decide, by decide, Or.inr trivial, mt_1 148 rfl rfl⟩
set_option maxRecDepth 20000 in
theorem fl_Re_24 : FL "VertexLanguage$Reader" 24 7 1 11 := ⟨cR7, cT7, rfl, by decide, by decide, Or.inr trivial, mt_1 149 rfl rfl⟩
set_option maxRecDepth 20000 in
theorem fl_Wo_25 : FL "VertexLanguage$Worker" 25 7 1 11 := ⟨cR7, cT7, rfl, by decide, by decide, Or.inr trivial, mt_1 150 rfl rfl⟩
set_option maxRecDepth 20000 in
theorem fl_Pr_37 : FL "VertexLanguage$Program" 37 7 1 11 := ⟨cR7, cT7, rfl, by decide, by decide, Or.inr trivial, mt_1 151 rfl rfl⟩
set_option maxRecDepth 20000 in
theorem fl_Ex_40 : FL "VertexLanguage$Exps" 40 7 1 11 := ⟨cR7, cT7, rfl, by decide, by decide, Or.inr trivial, mt_1 152 rfl rfl⟩
set_option maxRecDepth 20000 in
theorem fl_Pr_41 : FL "VertexLanguage$Program" 41 7 2 11 := ⟨cR7, cT7, rfl, by decide, by decide, Or.inr trivial, mt_1 153 rfl rfl⟩
set_option maxRecDepth 20000 in
theorem fp_Pr_41 : FP "VertexLanguage$Program" 41 7 2 11 := ⟨cR7, cT7, rfl, by decide, by decide, rfl, mt_1 153 rfl rfl⟩
set_option maxRecDepth 20000 in
theorem fl_Re_106 : FL "VertexLanguage$Reader" 106 7 2 11 := ⟨cR7, cT7, rfl, by decide, by decide, Or.inr trivial, mt_1 154 rfl rfl⟩
set_option maxRecDepth 20000 in
theorem fp_Re_106 : FP "VertexLanguage$Reader" 106 7 2 11 := ⟨cR7, cT7, rfl, by decide, by decide, rfl, mt_1 154 rfl rfl⟩
set_option maxRecDepth 20000 in
theorem fl_VL_84 : FL "VertexLanguage" 84 7 2 11 := ⟨cR7, cT7, rfl, by decide, by decide, Or.inr trivial, mt_1 155 rfl rfl⟩
set_option maxRecDepth 20000 in
theorem fp_VL_84 : FP "VertexLanguage" 84 7 2 11 := ⟨cR7, cT7, rfl, by decide, by decide, rfl, mt_1 155 rfl rfl⟩
set_option maxRecDepth 20000 in
theorem fl_Pr_45 : FL "VertexLanguage$Program" 45 7 3 11 := ⟨cR7, cT7, rfl, by decide, by decide, Or.inr trivial, mt_1 156 rfl rfl⟩
set_option maxRecDepth 20000 in
theorem fp_Pr_45 : FP "VertexLanguage$Program" 45 7 3 11 := ⟨cR7, cT7, rfl, by decide, by decide, rfl, mt_1 156 rfl rfl⟩
set_option maxRecDepth 20000 in
theorem fl_VL_74 : FL "VertexLanguage" 74 7 3 11 := ⟨cR7, cT7, rfl, by decide, by decide, Or.inr trivial, mt_1 157 rfl rfl⟩
set_option maxRecDepth 20000 in
theorem fp_VL_74 : FP "VertexLanguage" 74 7 3 11 := ⟨cR7, cT7, rfl, by decide, by decide, rfl, mt_1 157 rfl rfl⟩
set_option maxRecDepth 20000 in
theorem fl_Re_189 : FL "VertexLanguage$Reader" 189 7 3 11 := ⟨cR7, cT7, rfl, by decide, by decide, Or.inr trivial, mt_1 158 rfl rfl⟩
set_option maxRecDepth 20000 in
theorem fp_Re_189 : FP "VertexLanguage$Reader" 189 7 3 11 := ⟨cR7, cT7, rfl, by decide, by decide, rfl, mt_1 158 rfl rfl⟩
set_option maxRecDepth 20000 in
theorem fl_Re_80 : FL "VertexLanguage$Reader" 80 7 4 11 := ⟨cR7, cT7, rfl, by decide, by decide, Or.inr trivial, mt_1 159 rfl rfl⟩
set_option maxRecDepth 20000 in
theorem fp_Re_80 : FP "VertexLanguage$Reader" 80 7 4 11 := ⟨cR7, cT7, rfl, by decide, by decide, rfl, mt_1 159 rfl rfl⟩
set_option maxRecDepth 20000 in
theorem fl_Wo_67 : FL "VertexLanguage$Worker" 67 7 4 11 := ⟨cR7, cT7, rfl, by decide, by decide, Or.inr trivial, mt_1 160 rfl rfl⟩
set_option maxRecDepth 20000 in
theorem fp_Wo_67 : FP "VertexLanguage$Worker" 67 7 4 11 := ⟨cR7, cT7, rfl, by decide, by decide, rfl, mt_1 160 rfl rfl⟩
set_option maxRecDepth 20000 in
theorem fl_Re_91 : FL "VertexLanguage$Reader" 91 7 5 11 := ⟨cR7, cT7, rfl, by decide, by decide, Or.inr trivial, mt_1 161 rfl rfl⟩
set_option maxRecDepth 20000 in
theorem fp_Re_91 : FP "VertexLanguage$Reader" 91 7 5 11 := ⟨cR7, cT7, rfl, by decide, by decide, rfl, mt_1 161 rfl rfl⟩
set_option maxRecDepth 20000 in
theorem fl_Wo_70 : FL "VertexLanguage$Worker" 70 7 5 11 := ⟨cR7, cT7, rfl, by decide, by decide, Or.inr trivial, mt_1 162 rfl rfl⟩
set_option maxRecDepth 20000 in
theorem fp_Wo_70 : FP "VertexLanguage$Worker" 70 7 5 11 := ⟨cR7, cT7, rfl, by decide, by decide, rfl, mt_1 162 rfl rfl⟩
set_option maxRecDepth 20000 in
theorem fl_Pr_9 : FL "VertexLanguage$Program" 9 7 6 11 := ⟨cR7, cT7, rfl, by decide, by decide, Or.inr trivial, mt_1 163 rfl rfl⟩
set_option maxRecDepth 20000 in
theorem fl_Mo_37 : FL "VertexLanguage$Moment" 37 7 6 11 := ⟨cR7, cT7, rfl, by decide, by decide, Or.inr trivial, mt_1 164 rfl rfl⟩
set_option maxRecDepth 20000 in
theorem fl_Re_169 : FL "VertexLanguage$Reader" 169 7 6 11 := ⟨cR7, cT7, rfl, by decide, by decide, Or.inr trivial, mt_1 165 rfl rfl⟩
set_option maxRecDepth 20000 in
theorem fl_Pr_15 : FL "VertexLanguage$Program" 15 7 7 11 := ⟨cR7, cT7, rfl, by decide, by decide, Or.inr trivial, mt_1 166 rfl rfl⟩
set_option maxRecDepth 20000 in
theorem fl_Mo_55 : FL "VertexLanguage$Moment" 55 7 7 11 := ⟨cR7, cT7, rfl, by decide, by decide, Or.inr trivial, mt_1 167 rfl rfl⟩
set_option maxRecDepth 20000 in
theorem fl_Re_143 : FL "VertexLanguage$Reader" 143 7 7 11 := ⟨cR7, cT7, rfl, by decide, by decide, Or.inr trivial, mt_1 168 rfl rfl⟩
set_option maxRecDepth 20000 in
theorem fl_Pr_18 : FL "VertexLanguage$Program" 18 7 8 11 := ⟨cR7, cT7, rfl, by decide, by decide, Or.inr trivial, mt_1 169 rfl rfl⟩
set_option maxRecDepth 20000 in
theorem fl_Mo_68 : FL "VertexLanguage$Moment" 68 7 8 11 := ⟨cR7, cT7, rfl, by decide, by decide, Or.inr trivial, mt_1 170 rfl rfl⟩
set_option maxRecDepth 20000 in
theorem fl_Re_150 : FL "VertexLanguage$Reader" 150 7 8 11 := ⟨cR7, cT7, rfl, by decide, by decide, Or.inr trivial, mt_1 171 rfl rfl⟩
set_option maxRecDepth 20000 in
theorem fl_Pr_23 : FL "VertexLanguage$Program" 23 7 9 11 := ⟨cR7, cT7, rfl, by decide, by decide, Or.inr trivial, mt_1 172 rfl rfl⟩
set_option maxRecDepth 20000 in
theorem fl_VL_90 : FL "VertexLanguage" 90 7 9 11 := ⟨cR7, cT7, rfl, by decide, by decide, Or.inr trivial, mt_1 173 rfl rfl⟩
set_option maxRecDepth 20000 in
theorem fl_Pr_49 : FL "VertexLanguage$Program" 49 7 10 11 := ⟨cR7, cT7, rfl, by decide, by decide, Or.inr trivial, mt_1 174 rfl rfl⟩
set_option maxRecDepth 20000 in
theorem fp_Pr_49 : FP "VertexLanguage$Program" 49 7 10 11 := ⟨cR7, cT7, rfl, by decide, by decide, rfl, mt_1 174 rfl rfl⟩
set_option maxRecDepth 20000 in
theorem fl_VL_87 : FL "VertexLanguage" 87 7 10 11 := ⟨cR7, cT7, rfl, by decide, by decide, Or.inr trivial, mt_1 175 rfl rfl⟩
set_option maxRecDepth 20000 in
theorem fp_VL_87 : FP "VertexLanguage" 87 7 10 11 := ⟨cR7, cT7, rfl, by decide, by decide, rfl, mt_1 175 rfl rfl⟩
set_option maxRecDepth 20000 in
theorem fl_Cu_7 : FL "VertexLanguage$Cursor" 7 1 0 6 := ⟨cR1, cT1, rfl, by decide, by decide, Or.inr trivial, mt_1 211 rfl rfl⟩
set_option maxRecDepth 20000 in
theorem fl_Cu_13 : FL "VertexLanguage$Cursor" 13 1 1 6 := ⟨cR1, cT1, rfl, by decide, by decide, Or.inr trivial, mt_1 212 rfl rfl⟩
set_option maxRecDepth 20000 in
theorem fp_Cu_13 : FP "VertexLanguage$Cursor" 13 1 1 6 := ⟨cR1, cT1, rfl, by decide, by decide, rfl, mt_1 212 rfl rfl⟩
set_option maxRecDepth 20000 in
theorem fl_Cu_17 : FL "VertexLanguage$Cursor" 17 1 2 6 := ⟨cR1, cT1, rfl, by decide, by decide, Or.inr trivial, mt_1 213 rfl rfl⟩
set_option maxRecDepth 20000 in
theorem fp_Cu_17 : FP "VertexLanguage$Cursor" 17 1 2 6 := ⟨cR1, cT1, rfl, by decide, by decide, rfl, mt_1 213 rfl rfl⟩
set_option maxRecDepth 20000 in
theorem fl_Cu_39 : FL "VertexLanguage$Cursor" 39 1 3 6 := ⟨cR1, cT1, rfl, by decide, by decide, Or.inr trivial, mt_1 214 rfl rfl⟩
set_option maxRecDepth 20000 in
theorem fp_Cu_39 : FP "VertexLanguage$Cursor" 39 1 3 6 := ⟨cR1, cT1, rfl, by decide, by decide, rfl, mt_1 214 rfl rfl⟩
set_option maxRecDepth 20000 in
theorem fl_Cu_20 : FL "VertexLanguage$Cursor" 20 1 4 6 := ⟨cR1, cT1, rfl, by decide, by decide, Or.inr trivial, mt_1 215 rfl rfl⟩
set_option maxRecDepth 20000 in
theorem fp_Cu_20 : FP "VertexLanguage$Cursor" 20 1 4 6 := ⟨cR1, cT1, rfl, by decide, by decide, rfl, mt_1 215 rfl rfl⟩
set_option maxRecDepth 20000 in
theorem fl_Cu_42 : FL "VertexLanguage$Cursor" 42 1 5 6 := ⟨cR1, cT1, rfl, by decide, by decide, Or.inr trivial, mt_1 216 rfl rfl⟩
set_option maxRecDepth 20000 in
theorem fp_Cu_42 : FP "VertexLanguage$Cursor" 42 1 5 6 := ⟨cR1, cT1, rfl, by decide, by decide, rfl, mt_1 216 rfl rfl⟩
set_option maxRecDepth 20000 in
theorem fl_Ex_25 : FL "VertexLanguage$Exps" 25 2 0 9 := ⟨cR2, cT2, rfl, by decide, by decide, Or.inr trivial, mt_1 236 rfl rfl⟩
set_option maxRecDepth 20000 in
theorem fl_Ex_29 : FL "VertexLanguage$Exps" 29 2 1 9 := ⟨cR2, cT2, rfl, by decide, by decide, Or.inr trivial, mt_1 237 rfl rfl⟩
set_option maxRecDepth 20000 in
theorem fl_Ex_39 : FL "VertexLanguage$Exps" 39 2 2 9 := ⟨cR2, cT2, rfl, by decide, by decide, Or.inr trivial, mt_1 238 rfl rfl⟩
set_option maxRecDepth 20000 in
theorem fl_Ex_44 : FL "VertexLanguage$Exps" 44 2 3 9 := ⟨cR2, cT2, rfl, by decide, by decide, Or.inr trivial, mt_1 239 rfl rfl⟩
set_option maxRecDepth 20000 in
theorem fl_Ex_45 : FL "VertexLanguage$Exps" 45 2 4 9 := ⟨cR2, cT2, rfl, by decide, by decide, Or.inr trivial, mt_2 0 rfl rfl⟩
set_option maxRecDepth 20000 in
theorem fp_Ex_45 : FP "VertexLanguage$Exps" 45 2 4 9 := ⟨cR2, cT2, rfl, by decide, by decide, rfl, mt_2 0 rfl rfl⟩
set_option maxRecDepth 20000 in
theorem fl_Re_238 : FL "VertexLanguage$Reader" 238 2 4 9 := ⟨cR2, cT2, rfl, by decide, by decide, Or.inr trivial, mt_2 1 rfl rfl⟩
set_option maxRecDepth 20000 in
theorem fp_Re_238 : FP "VertexLanguage$Reader" 238 2 4 9 := ⟨cR2, cT2, rfl, by decide, by decide, rfl, mt_2 1 rfl rfl⟩
set_option maxRecDepth 20000 in
theorem fl_Ex_9 : FL "VertexLanguage$Exps" 9 2 5 9 := ⟨cR2, cT2, rfl, by decide, by decide, Or.inr trivial, mt_2 2 rfl rfl⟩
set_option maxRecDepth 20000 in
theorem fl_Ex_15 : FL "VertexLanguage$Exps" 15 2 6 9 := ⟨cR2, cT2, rfl, by decide, by decide, Or.inr trivial, mt_2 3 rfl rfl⟩
set_option maxRecDepth 20000 in
theorem fl_Ex_18 : FL "VertexLanguage$Exps" 18 2 7 9 := ⟨cR2, cT2, rfl, by decide, by decide, Or.inr trivial, mt_2 4 rfl rfl⟩
set_option maxRecDepth 20000 in
theorem fl_Ex_21 : FL "VertexLanguage$Exps" 21 2 8 9 := ⟨cR2, cT2, rfl, by decide, by decide, Or.inr trivial, mt_2 5 rfl rfl⟩
set_option maxRecDepth 20000 in
theorem fl_Re_7 : FL "VertexLanguage$Reader" 7 8 0 7 := ⟨cR8, cT8, rfl, by decide, by decide, Or.inr trivial, mt_2 26 rfl rfl⟩
set_option maxRecDepth 20000 in
theorem fl_Re_13 : FL "VertexLanguage$Reader" 13 8 1 7 := ⟨cR8, cT8, rfl, by decide, by decide, Or.inr trivial, mt_2 27 rfl rfl⟩
set_option maxRecDepth 20000 in
theorem fl_Re_23 : FL "VertexLanguage$Reader" 23 8 2 7 := ⟨cR8, cT8, rfl, by decide, by decide, Or.inr trivial, mt_2 28 rfl rfl⟩
set_option maxRecDepth 20000 in
theorem fl_Re_28 : FL "VertexLanguage$Reader" 28 8 3 7 := ⟨cR8, cT8, rfl, by decide, by decide, Or.inr trivial, mt_2 29 rfl rfl⟩
set_option maxRecDepth 20000 in
theorem fl_Re_34 : FL "VertexLanguage$Reader" 34 8 4 7 := ⟨cR8, cT8, rfl, by decide, by decide, Or.inr trivial, mt_2 30 rfl rfl⟩
set_option maxRecDepth 20000 in
theorem fl_Re_43 : FL "VertexLanguage$Reader" 43 8 5 7 := ⟨cR8, cT8, rfl, by decide, by decide, Or.inr trivial, mt_2 31 rfl rfl⟩
set_option maxRecDepth 20000 in
theorem fl_Re_54 : FL "VertexLanguage$Reader" 54 8 6 7 := ⟨cR8, cT8, rfl, by decide, by decide, Or.inr trivial, mt_2 32 rfl rfl⟩
set_option maxRecDepth 20000 in
theorem fp_Re_54 : FP "VertexLanguage$Reader" 54 8 6 7 := ⟨cR8, cT8, rfl, by decide, by decide, rfl, mt_2 32 rfl rfl⟩
set_option maxRecDepth 20000 in
theorem fl_Gr_47 : FL "VertexLanguage$Graph" 47 3 0 13 := ⟨cR3, cT3, rfl, by decide, by decide, Or.inr trivial, mt_2 61 rfl rfl⟩
set_option maxRecDepth 20000 in
theorem fp_Gr_47 : FP "VertexLanguage$Graph" 47 3 0 13 := ⟨cR3, cT3, rfl, by decide, by decide, rfl, mt_2 61 rfl rfl⟩
set_option maxRecDepth 20000 in
theorem fl_Ma_75 : FL "VertexLanguage$Machine" 75 3 0 13 := ⟨cR3, cT3, rfl, by decide, by decide, Or.inr trivial, mt_2 62 rfl rfl⟩
set_option maxRecDepth 20000 in
theorem fp_Ma_75 : FP "VertexLanguage$Machine" 75 3 0 13 := ⟨cR3, cT3, rfl, by decide, by decide, rfl, mt_2 62 rfl rfl⟩
set_option maxRecDepth 20000 in
theorem fl_VL_112 : FL "VertexLanguage" 112 3 0 13 := ⟨cR3, cT3, rfl, by decide, by decide, Or.inr trivial, mt_2 63 rfl rfl⟩
set_option maxRecDepth 20000 in
theorem fp_VL_112 : FP "VertexLanguage" 112 3 0 13 := ⟨cR3, cT3, rfl, by decide, by decide, rfl, mt_2 63 rfl rfl⟩
set_option maxRecDepth 20000 in
theorem fl_Wo_142 : FL "VertexLanguage$Worker" 142 3 0 13 := ⟨cR3, cT3, rfl, by decide, by decide, Or.inr trivial, mt_2 64 rfl rfl⟩
set_option maxRecDepth 20000 in
theorem fp_Wo_142 : FP "VertexLanguage$Worker" 142 3 0 13 := ⟨cR3, cT3, rfl, by decide, by decide, rfl, mt_2 64 rfl rfl⟩
set_option maxRecDepth 20000 in
theorem fl_Gr_51 : FL "VertexLanguage$Graph" 51 3 1 13 := ⟨cR3, cT3, rfl, by decide, by decide, Or.inr trivial, mt_2 65 rfl rfl⟩
set_option maxRecDepth 20000 in
theorem fp_Gr_51 : FP "VertexLanguage$Graph" 51 3 1 13 := ⟨cR3, cT3, rfl, by decide, by decide, rfl, mt_2 65 rfl rfl⟩
set_option maxRecDepth 20000 in
theorem fl_VL_115 : FL "VertexLanguage" 115 3 1 13 := ⟨cR3, cT3, rfl, by decide, by decide, Or.inr trivial, mt_2 66 rfl rfl⟩
set_option maxRecDepth 20000 in
theorem fp_VL_115 : FP "VertexLanguage" 115 3 1 13 := ⟨cR3, cT3, rfl, by decide, by decide, rfl, mt_2 66 rfl rfl⟩
set_option maxRecDepth 20000 in
theorem fl_Gr_9 : FL "VertexLanguage$Graph" 9 3 2 13 := ⟨cR3, cT3, rfl, by decide, by decide, Or.inr trivial, mt_2 67 rfl rfl⟩
set_option maxRecDepth 20000 in
theorem fl_Gr_13 : FL "VertexLanguage$Graph" 13 3 3 13 := ⟨cR3, cT3, rfl, by decide, by decide, Or.inr trivial, mt_2 68 rfl rfl⟩
set_option maxRecDepth 20000 in
theorem fl_Gr_16 : FL "VertexLanguage$Graph" 16 3 4 13 := ⟨cR3, cT3, rfl, by decide, by decide, Or.inr trivial, mt_2 69 rfl rfl⟩
set_option maxRecDepth 20000 in
theorem fl_Gr_19 : FL "VertexLanguage$Graph" 19 3 5 13 := ⟨cR3, cT3, rfl, by decide, by decide, Or.inr trivial, mt_2 70 rfl rfl⟩
set_option maxRecDepth 20000 in
theorem fl_Wo_145 : FL "VertexLanguage$Worker" 145 3 5 13 := ⟨cR3, cT3, rfl, by decide, by decide, Or.inr trivial, mt_2 71 rfl rfl⟩
set_option maxRecDepth 20000 in
theorem fl_Gr_22 : FL "VertexLanguage$Graph" 22 3 6 13 := ⟨cR3, cT3, rfl, by decide, by decide, Or.inr trivial, mt_2 72 rfl rfl⟩
set_option maxRecDepth 20000 in
theorem fl_Wo_148 : FL "VertexLanguage$Worker" 148 3 6 13 := ⟨cR3, cT3, rfl, by decide, by decide, Or.inr trivial, mt_2 73 rfl rfl⟩
set_option maxRecDepth 20000 in
theorem fl_Gr_25 : FL "VertexLanguage$Graph" 25 3 7 13 := ⟨cR3, cT3, rfl, by decide, by decide, Or.inr trivial, mt_2 74 rfl rfl⟩
set_option maxRecDepth 20000 in
theorem fl_Gr_28 : FL "VertexLanguage$Graph" 28 3 8 13 := ⟨cR3, cT3, rfl, by decide, by decide, Or.inr trivial, mt_2 75 rfl rfl⟩
set_option maxRecDepth 20000 in
theorem fl_Gr_31 : FL "VertexLanguage$Graph" 31 3 9 13 := ⟨cR3, cT3, rfl, by decide, by decide, Or.inr trivial, mt_2 76 rfl rfl⟩
set_option maxRecDepth 20000 in
theorem fl_Gr_34 : FL "VertexLanguage$Graph" 34 3 10 13 := ⟨cR3, cT3, rfl, by decide, by decide, Or.inr trivial, mt_2 77 rfl rfl⟩
set_option maxRecDepth 20000 in
theorem fl_Gr_37 : FL "VertexLanguage$Graph" 37 3 11 13 := ⟨cR3, cT3, rfl, by decide, by decide, Or.inr trivial, mt_2 78 rfl rfl⟩
set_option maxRecDepth 20000 in
theorem fl_Gr_40 : FL "VertexLanguage$Graph" 40 3 12 13 := ⟨cR3, cT3, rfl, by decide, by decide, Or.inr trivial, mt_2 79 rfl rfl⟩
set_option maxRecDepth 20000 in
theorem fl_Mo_33 : FL "VertexLanguage$Moment" 33 6 0 8 := ⟨cR6, cT6, rfl, by decide, by decide, Or.inr trivial, mt_2 120 rfl rfl⟩
set_option maxRecDepth 20000 in
theorem fp_Mo_33 : FP "VertexLanguage$Moment" 33 6 0 8 := ⟨cR6, cT6, rfl, by decide, by decide, rfl, mt_2 120 rfl rfl⟩
set_option maxRecDepth 20000 in
theorem fl_Wo_62 : FL "VertexLanguage$Worker" 62 6 0 8 := ⟨cR6, cT6, rfl, by decide, by decide, Or.inr trivial, mt_2 121 rfl rfl⟩
set_option maxRecDepth 20000 in
theorem fp_Wo_62 : FP "VertexLanguage$Worker" 62 6 0 8 := ⟨cR6, cT6, rfl, by decide, by decide, rfl, mt_2 121 rfl rfl⟩
set_option maxRecDepth 20000 in
theorem fl_Ma_105 : FL "VertexLanguage$Machine" 105 6 0 8 := ⟨cR6, cT6, rfl, by decide, by decide, Or.inr trivial, mt_2 122 rfl rfl⟩
set_option maxRecDepth 20000 in
theorem fp_Ma_105 : FP "VertexLanguage$Machine" 105 6 0 8 := ⟨cR6, cT6, rfl, by decide, by decide, rfl, mt_2 122 rfl rfl⟩
set_option maxRecDepth 20000 in
theorem fl_VL_153 : FL "VertexLanguage" 153 6 0 8 := ⟨cR6, cT6, rfl, by decide, by decide, Or.inr trivial, mt_2 123 rfl rfl⟩
set_option maxRecDepth 20000 in
theorem fp_VL_153 : FP "VertexLanguage" 153 6 0 8 := ⟨cR6, cT6, rfl, by decide, by decide, rfl, mt_2 123 rfl rfl⟩
set_option maxRecDepth 20000 in
theorem fl_Mo_52 : FL "VertexLanguage$Moment" 52 6 1 8 := ⟨cR6, cT6, rfl, by decide, by decide, Or.inr trivial, mt_2 124 rfl rfl⟩
set_option maxRecDepth 20000 in
theorem fp_Mo_52 : FP "VertexLanguage$Moment" 52 6 1 8 := ⟨cR6, cT6, rfl, by decide, by decide, rfl, mt_2 124 rfl rfl⟩
set_option maxRecDepth 20000 in
theorem fl_Ma_72 : FL "VertexLanguage$Machine" 72 6 1 8 := ⟨cR6, cT6, rfl, by decide, by decide, Or.inr trivial, mt_2 125 rfl rfl⟩
set_option maxRecDepth 20000 in
theorem fp_Ma_72 : FP "VertexLanguage$Machine" 72 6 1 8 := ⟨cR6, cT6, rfl, by decide, by decide, rfl, mt_2 125 rfl rfl⟩
set_option maxRecDepth 20000 in
theorem fl_Mo_11 : FL "VertexLanguage$Moment" 11 6 2 8 := ⟨cR6, cT6, rfl, by decide, by decide, Or.inr trivial, mt_2 126 rfl rfl⟩
set_option maxRecDepth 20000 in
theorem fl_Wo_122 : FL "VertexLanguage$Worker" 122 6 2 8 := ⟨cR6, cT6, rfl, by decide, by decide, Or.inr trivial, mt_2 127 rfl rfl⟩
set_option maxRecDepth 20000 in
theorem fl_VL_164 : FL "VertexLanguage" 164 6 2 8 := ⟨cR6, cT6, rfl, by decide, by decide, Or.inr trivial, mt_2 128 rfl rfl⟩
set_option maxRecDepth 20000 in
theorem fl_Mo_17 : FL "VertexLanguage$Moment" 17 6 3 8 := ⟨cR6, cT6, rfl, by decide, by decide, Or.inr trivial, mt_2 129 rfl rfl⟩
set_option maxRecDepth 20000 in
theorem fl_Ma_92 : FL "VertexLanguage$Machine" 92 6 3 8 := ⟨cR6, cT6, rfl, by decide, by decide, Or.inr trivial, mt_2 130 rfl rfl⟩
set_option maxRecDepth 20000 in
theorem fl_Wo_209 : FL "VertexLanguage$Worker" 209 6 3 8 := ⟨cR6, cT6, rfl, by decide, by decide, Or.inr trivial, mt_2 131 rfl rfl⟩
set_option maxRecDepth 20000 in
theorem fl_VL_177 : FL "VertexLanguage" 177 6 3 8 := ⟨cR6, cT6, rfl, by decide, by decide, Or.inr trivial, mt_2 132 rfl rfl⟩
set_option maxRecDepth 20000 in
theorem fl_Mo_21 : FL "VertexLanguage$Moment" 21 6 4 8 := ⟨cR6, cT6, rfl, by decide, by decide, Or.inr trivial, mt_2 133 rfl rfl⟩
set_option maxRecDepth 20000 in
theorem fl_Wo_125 : FL "VertexLanguage$Worker" 125 6 4 8 := ⟨cR6, cT6, rfl, by decide, by decide, Or.inr trivial, mt_2 134 rfl rfl⟩
set_option maxRecDepth 20000 in
theorem fl_VL_168 : FL "VertexLanguage" 168 6 4 8 := ⟨cR6, cT6, rfl, by decide, by decide, Or.inr trivial, mt_2 135 rfl rfl⟩
set_option maxRecDepth 20000 in
theorem fl_Mo_24 : FL "VertexLanguage$Moment" 24 6 5 8 := ⟨cR6, cT6, rfl, by decide, by decide, Or.inr trivial, mt_2 136 rfl rfl⟩
set_option maxRecDepth 20000 in
theorem fl_Wo_139 : FL "VertexLanguage$Worker" 139 6 5 8 := ⟨cR6, cT6, rfl, by decide, by decide, Or.inr trivial, mt_2 137 rfl rfl⟩
set_option maxRecDepth 20000 in
theorem fl_VL_171 : FL "VertexLanguage" 171 6 5 8 := ⟨cR6, cT6, rfl, by decide, by decide, Or.inr trivial, mt_2 138 rfl rfl⟩
set_option maxRecDepth 20000 in
theorem fl_Mo_27 : FL "VertexLanguage$Moment" 27 6 6 8 := ⟨cR6, cT6, rfl, by decide, by decide, Or.inr trivial, mt_2 139 rfl rfl⟩
set_option maxRecDepth 20000 in
theorem fl_Wo_128 : FL "VertexLanguage$Worker" 128 6 6 8 := ⟨cR6, cT6, rfl, by decide, by decide, Or.inr trivial, mt_2 140 rfl rfl⟩
set_option maxRecDepth 20000 in
theorem fl_VL_174 : FL "VertexLanguage" 174 6 6 8 := ⟨cR6, cT6, rfl, by decide, by decide, Or.inr trivial, mt_2 141 rfl rfl⟩
set_option maxRecDepth 20000 in
theorem fl_Mo_30 : FL "VertexLanguage$Moment" 30 6 7 8 := ⟨cR6, cT6, rfl, by decide, by decide, Or.inr trivial, mt_2 142 rfl rfl⟩
set_option maxRecDepth 20000 in
theorem fl_Wo_21 : FL "VertexLanguage$Worker" 21 10 0 18 := ⟨cR10, cT10, rfl, by decide, by decide, Or.inr trivial, mt_2 166 rfl rfl⟩
set_option maxRecDepth 20000 in
theorem fl_Wo_31 : FL "VertexLanguage$Worker" 31 10 1 18 := ⟨cR10, cT10, rfl, by decide, by decide, Or.inr trivial, mt_2 167 rfl rfl⟩
set_option maxRecDepth 20000 in
theorem fl_Wo_32 : FL "VertexLanguage$Worker" 32 10 2 18 := ⟨cR10, cT10, rfl, by decide, by decide, Or.inr trivial, mt_2 168 rfl rfl⟩
set_option maxRecDepth 20000 in
theorem fl_Wo_9 : FL "VertexLanguage$Worker" 9 10 3 18 := ⟨cR10, cT10, rfl, by decide, by decide, Or.inr trivial, mt_2 169 rfl rfl⟩
set_option maxRecDepth 20000 in
theorem fl_Wo_15 : FL "VertexLanguage$Worker" 15 10 4 18 := ⟨cR10, cT10, rfl, by decide, by decide, Or.inr trivial, mt_2 170 rfl rfl⟩
set_option maxRecDepth 20000 in
theorem fl_Wo_18 : FL "VertexLanguage$Worker" 18 10 5 18 := ⟨cR10, cT10, rfl, by decide, by decide, Or.inr trivial, mt_2 171 rfl rfl⟩
set_option maxRecDepth 20000 in
theorem fl_Wo_36 : FL "VertexLanguage$Worker" 36 10 6 18 := ⟨cR10, cT10, rfl, by decide, by decide, Or.inr trivial, mt_2 172 rfl rfl⟩
set_option maxRecDepth 20000 in
theorem fp_Wo_36 : FP "VertexLanguage$Worker" 36 10 6 18 := ⟨cR10, cT10, rfl, by decide, by decide, rfl, mt_2 172 rfl rfl⟩
set_option maxRecDepth 20000 in
theorem fl_Wo_40 : FL "VertexLanguage$Worker" 40 10 7 18 := ⟨cR10, cT10, rfl, by decide, by decide, Or.inr trivial, mt_2 173 rfl rfl⟩
set_option maxRecDepth 20000 in
theorem fp_Wo_40 : FP "VertexLanguage$Worker" 40 10 7 18 := ⟨cR10, cT10, rfl, by decide, by decide, rfl, mt_2 173 rfl rfl⟩
set_option maxRecDepth 20000 in
theorem fl_Wo_43 : FL "VertexLanguage$Worker" 43 10 8 18 := ⟨cR10, cT10, rfl, by decide, by decide, Or.inr trivial, mt_2 174 rfl rfl⟩
set_option maxRecDepth 20000 in
theorem fp_Wo_43 : FP "VertexLanguage$Worker" 43 10 8 18 := ⟨cR10, cT10, rfl, by decide, by decide, rfl, mt_2 174 rfl rfl⟩
set_option maxRecDepth 20000 in
theorem fl_Wo_47 : FL "VertexLanguage$Worker" 47 10 9 18 := ⟨cR10, cT10, rfl, by decide, by decide, Or.inr trivial, mt_2 175 rfl rfl⟩
set_option maxRecDepth 20000 in
theorem fp_Wo_47 : FP "VertexLanguage$Worker" 47 10 9 18 := ⟨cR10, cT10, rfl, by decide, by decide, rfl, mt_2 175 rfl rfl⟩
set_option maxRecDepth 20000 in
theorem fl_Wo_50 : FL "VertexLanguage$Worker" 50 10 10 18 := ⟨cR10, cT10, rfl, by decide, by decide, Or.inr trivial, mt_2 176 rfl rfl⟩
set_option maxRecDepth 20000 in
theorem fp_Wo_50 : FP "VertexLanguage$Worker" 50 10 10 18 := ⟨cR10, cT10, rfl, by decide, by decide, rfl, mt_2 176 rfl rfl⟩
set_option maxRecDepth 20000 in
theorem fl_Wo_73 : FL "VertexLanguage$Worker" 73 10 11 18 := ⟨cR10, cT10, rfl, by decide, by decide, Or.inr trivial, mt_2 177 rfl rfl⟩
set_option maxRecDepth 20000 in
theorem fp_Wo_73 : FP "VertexLanguage$Worker" 73 10 11 18 := ⟨cR10, cT10, rfl, by decide, by decide, rfl, mt_2 177 rfl rfl⟩
set_option maxRecDepth 20000 in
theorem fl_Wo_131 : FL "VertexLanguage$Worker" 131 10 12 18 := ⟨cR10, cT10, rfl, by decide, by decide, Or.inr trivial, mt_2 178 rfl rfl⟩
set_option maxRecDepth 20000 in
theorem fp_Wo_131 : FP "VertexLanguage$Worker" 131 10 12 18 := ⟨cR10, cT10, rfl, by decide, by decide, rfl, mt_2 178 rfl rfl⟩
set_option maxRecDepth 20000 in
theorem fl_Wo_187 : FL "VertexLanguage$Worker" 187 10 13 18 := ⟨cR10, cT10, rfl, by decide, by decide, Or.inr trivial, mt_2 179 rfl rfl⟩
set_option maxRecDepth 20000 in
theorem fp_Wo_187 : FP "VertexLanguage$Worker" 187 10 13 18 := ⟨cR10, cT10, rfl, by decide, by decide, rfl, mt_2 179 rfl rfl⟩
set_option maxRecDepth 20000 in
theorem fl_Wo_53 : FL "VertexLanguage$Worker" 53 10 14 18 := ⟨cR10, cT10, rfl, by decide, by decide, Or.inr trivial, mt_2 180 rfl rfl⟩
set_option maxRecDepth 20000 in
theorem fp_Wo_53 : FP "VertexLanguage$Worker" 53 10 14 18 := ⟨cR10, cT10, rfl, by decide, by decide, rfl, mt_2 180 rfl rfl⟩
set_option maxRecDepth 20000 in
theorem fl_Wo_56 : FL "VertexLanguage$Worker" 56 10 15 18 := ⟨cR10, cT10, rfl, by decide, by decide, Or.inr trivial, mt_2 181 rfl rfl⟩
set_option maxRecDepth 20000 in
theorem fp_Wo_56 : FP "VertexLanguage$Worker" 56 10 15 18 := ⟨cR10, cT10, rfl, by decide, by decide, rfl, mt_2 181 rfl rfl⟩
set_option maxRecDepth 20000 in
theorem fl_Ma_112 : FL "VertexLanguage$Machine" 112 10 15 18 := ⟨cR10, cT10, rfl, by decide, by decide, Or.inr trivial, mt_2 182 rfl rfl⟩
set_option maxRecDepth 20000 in
theorem fp_Ma_112 : FP "VertexLanguage$Machine" 112 10 15 18 := ⟨cR10, cT10, rfl, by decide, by decide, rfl, mt_2 182 rfl rfl⟩
set_option maxRecDepth 20000 in
theorem fl_Wo_59 : FL "VertexLanguage$Worker" 59 10 16 18 := ⟨cR10, cT10, rfl, by decide, by decide, Or.inr trivial, mt_2 183 rfl rfl⟩
set_option maxRecDepth 20000 in
theorem fp_Wo_59 : FP "VertexLanguage$Worker" 59 10 16 18 := ⟨cR10, cT10, rfl, by decide, by decide, rfl, mt_2 183 rfl rfl⟩
set_option maxRecDepth 20000 in
theorem fl_Ma_104 : FL "VertexLanguage$Machine" 104 10 16 18 := ⟨cR10, cT10, rfl, by decide, by decide, Or.inr trivial, mt_2 184 rfl rfl⟩
set_option maxRecDepth 20000 in
theorem fp_Ma_104 : FP "VertexLanguage$Machine" 104 10 16 18 := ⟨cR10, cT10, rfl, by decide, by decide, rfl, mt_2 184 rfl rfl⟩
set_option maxRecDepth 20000 in
theorem fl_Wo_119 : FL "VertexLanguage$Worker" 119 10 17 18 := ⟨cR10, cT10, rfl, by decide, by decide, Or.inr trivial, mt_2 185 rfl rfl⟩
set_option maxRecDepth 20000 in
theorem fp_Wo_119 : FP "VertexLanguage$Worker" 119 10 17 18 := ⟨cR10, cT10, rfl, by decide, by decide, rfl, mt_2 185 rfl rfl⟩
set_option maxRecDepth 20000 in
theorem fl_Ma_121 : FL "VertexLanguage$Machine" 121 10 17 18 := ⟨cR10, cT10, rfl, by decide, by decide, Or.inr trivial, mt_2 186 rfl rfl⟩
set_option maxRecDepth 20000 in
theorem fp_Ma_121 : FP "VertexLanguage$Machine" 121 10 17 18 := ⟨cR10, cT10, rfl, by decide, by decide, rfl, mt_2 186 rfl rfl⟩
set_option maxRecDepth 20000 in
theorem fl_Ma_17 : FL "VertexLanguage$Machine" 17 5 0 13 := ⟨cR5, cT5, rfl, by decide, by decide, Or.inr trivial, mt_2 224 rfl rfl⟩
set_option maxRecDepth 20000 in
theorem fl_Ma_21 : FL "VertexLanguage$Machine" 21 5 1 13 := ⟨cR5, cT5, rfl, by decide, by decide, Or.inr trivial, mt_2 225 rfl rfl⟩
set_option maxRecDepth 20000 in
theorem fl_Ma_31 : FL "VertexLanguage$Machine" 31 5 2 13 := ⟨cR5, cT5, rfl, by decide, by decide, Or.inr trivial, mt_2 226 rfl rfl⟩
set_option maxRecDepth 20000 in
theorem fl_Ma_13 : FL "VertexLanguage$Machine" 13 5 3 13 := ⟨cR5, cT5, rfl, by decide, by decide, Or.inr trivial, mt_2 227 rfl rfl⟩
set_option maxRecDepth 20000 in
theorem fl_Ma_35 : FL "VertexLanguage$Machine" 35 5 4 13 := ⟨cR5, cT5, rfl, by decide, by decide, Or.inr trivial, mt_2 228 rfl rfl⟩
set_option maxRecDepth 20000 in
theorem fp_Ma_35 : FP "VertexLanguage$Machine" 35 5 4 13 := ⟨cR5, cT5, rfl, by decide, by decide, rfl, mt_2 228 rfl rfl⟩
set_option maxRecDepth 20000 in
theorem fl_Ma_43 : FL "VertexLanguage$Machine" 43 5 5 13 := ⟨cR5, cT5, rfl, by decide, by decide, Or.inr trivial, mt_2 229 rfl rfl⟩
set_option maxRecDepth 20000 in
theorem fp_Ma_43 : FP "VertexLanguage$Machine" 43 5 5 13 := ⟨cR5, cT5, rfl, by decide, by decide, rfl, mt_2 229 rfl rfl⟩
set_option maxRecDepth 20000 in
theorem fl_Ma_49 : FL "VertexLanguage$Machine" 49 5 6 13 := ⟨cR5, cT5, rfl, by decide, by decide, Or.inr trivial, mt_2 230 rfl rfl⟩
set_option maxRecDepth 20000 in
theorem fp_Ma_49 : FP "VertexLanguage$Machine" 49 5 6 13 := ⟨cR5, cT5, rfl, by decide, by decide, rfl, mt_2 230 rfl rfl⟩
set_option maxRecDepth 20000 in
theorem fl_Ma_52 : FL "VertexLanguage$Machine" 52 5 7 13 := ⟨cR5, cT5, rfl, by decide, by decide, Or.inr trivial, mt_2 231 rfl rfl⟩
set_option maxRecDepth 20000 in
theorem fp_Ma_52 : FP "VertexLanguage$Machine" 52 5 7 13 := ⟨cR5, cT5, rfl, by decide, by decide, rfl, mt_2 231 rfl rfl⟩
set_option maxRecDepth 20000 in
theorem fl_Ma_55 : FL "VertexLanguage$Machine" 55 5 8 13 := ⟨cR5, cT5, rfl, by decide, by decide, Or.inr trivial, mt_2 232 rfl rfl⟩
set_option maxRecDepth 20000 in
theorem fp_Ma_55 : FP "VertexLanguage$Machine" 55 5 8 13 := ⟨cR5, cT5, rfl, by decide, by decide, rfl, mt_2 232 rfl rfl⟩
set_option maxRecDepth 20000 in
theorem fl_Ma_58 : FL "VertexLanguage$Machine" 58 5 9 13 := ⟨cR5, cT5, rfl, by decide, by decide, Or.inr trivial, mt_2 233 rfl rfl⟩
set_option maxRecDepth 20000 in
theorem fp_Ma_58 : FP "VertexLanguage$Machine" 58 5 9 13 := ⟨cR5, cT5, rfl, by decide, by decide, rfl, mt_2 233 rfl rfl⟩
set_option maxRecDepth 20000 in
theorem fl_Ma_61 : FL "VertexLanguage$Machine" 61 5 10 13 := ⟨cR5, cT5, rfl, by decide, by decide, Or.inr trivial, mt_2 234 rfl rfl⟩
set_option maxRecDepth 20000 in
theorem fp_Ma_61 : FP "VertexLanguage$Machine" 61 5 10 13 := ⟨cR5, cT5, rfl, by decide, by decide, rfl, mt_2 234 rfl rfl⟩
set_option maxRecDepth 20000 in
theorem fl_Ma_39 : FL "VertexLanguage$Machine" 39 5 11 13 := ⟨cR5, cT5, rfl, by decide, by decide, Or.inr trivial, mt_2 235 rfl rfl⟩
set_option maxRecDepth 20000 in
theorem fp_Ma_39 : FP "VertexLanguage$Machine" 39 5 11 13 := ⟨cR5, cT5, rfl, by decide, by decide, rfl, mt_2 235 rfl rfl⟩
set_option maxRecDepth 20000 in
theorem fl_VL_62 : FL "VertexLanguage" 62 5 11 13 := ⟨cR5, cT5, rfl, by decide, by decide, Or.inr trivial, mt_2 236 rfl rfl⟩
set_option maxRecDepth 20000 in
theorem fp_VL_62 : FP "VertexLanguage" 62 5 11 13 := ⟨cR5, cT5, rfl, by decide, by decide, rfl, mt_2 236 rfl rfl⟩
set_option maxRecDepth 20000 in
theorem fl_Ma_46 : FL "VertexLanguage$Machine" 46 5 12 13 := ⟨cR5, cT5, rfl, by decide, by decide, Or.inr trivial, mt_2 237 rfl rfl⟩
set_option maxRecDepth 20000 in
theorem fp_Ma_46 : FP "VertexLanguage$Machine" 46 5 12 13 := ⟨cR5, cT5, rfl, by decide, by decide, rfl, mt_2 237 rfl rfl⟩
set_option maxRecDepth 20000 in
theorem fl_VL_143 : FL "VertexLanguage" 143 5 12 13 := ⟨cR5, cT5, rfl, by decide, by decide, Or.inr trivial, mt_2 238 rfl rfl⟩
set_option maxRecDepth 20000 in
theorem fp_VL_143 : FP "VertexLanguage" 143 5 12 13 := ⟨cR5, cT5, rfl, by decide, by decide, rfl, mt_2 238 rfl rfl⟩
set_option maxRecDepth 20000 in
theorem fl_VL_9 : FL "VertexLanguage" 9 11 0 7 := ⟨cR11, cT11, rfl, by decide, by decide, Or.inr trivial, mt_3 26 rfl rfl⟩
set_option maxRecDepth 20000 in
theorem fl_VL_54 : FL "VertexLanguage" 54 11 1 7 := ⟨cR11, cT11, rfl, by decide, by decide, Or.inr trivial, mt_3 27 rfl rfl⟩
set_option maxRecDepth 20000 in
theorem fp_VL_54 : FP "VertexLanguage" 54 11 1 7 := ⟨cR11, cT11, rfl, by decide, by decide, rfl, mt_3 27 rfl rfl⟩
set_option maxRecDepth 20000 in
theorem fl_VL_16 : FL "VertexLanguage" 16 11 2 7 := ⟨cR11, cT11, rfl, by decide, by decide, Or.inr trivial, mt_3 28 rfl rfl⟩
set_option maxRecDepth 20000 in
theorem fl_VL_25 : FL "VertexLanguage" 25 11 3 7 := ⟨cR11, cT11, rfl, by decide, by decide, Or.inr trivial, mt_3 29 rfl rfl⟩
set_option maxRecDepth 20000 in
theorem fl_VL_34 : FL "VertexLanguage" 34 11 4 7 := ⟨cR11, cT11, rfl, by decide, by decide, Or.inr trivial, mt_3 30 rfl rfl⟩
set_option maxRecDepth 20000 in
theorem fl_VL_41 : FL "VertexLanguage" 41 11 5 7 := ⟨cR11, cT11, rfl, by decide, by decide, Or.inr trivial, mt_3 31 rfl rfl⟩
set_option maxRecDepth 20000 in
theorem fl_VL_50 : FL "VertexLanguage" 50 11 6 7 := ⟨cR11, cT11, rfl, by decide, by decide, Or.inr trivial, mt_3 32 rfl rfl⟩
set_option maxRecDepth 20000 in
theorem fl_Md_1 : FL "VertexLanguageModel" 1 13 0 93 := ⟨cR13, cT13, rfl, by decide, by decide, Or.inr trivial, mt_6 204 rfl rfl⟩
set_option maxRecDepth 20000 in
theorem fp_Md_1 : FP "VertexLanguageModel" 1 13 0 93 := ⟨cR13, cT13, rfl, by decide, by decide, rfl, mt_6 204 rfl rfl⟩
set_option maxRecDepth 20000 in
theorem fl_Md_7 : FL "VertexLanguageModel" 7 13 1 93 := ⟨cR13, cT13, rfl, by decide, by decide, Or.inr trivial, mt_6 205 rfl rfl⟩
set_option maxRecDepth 20000 in
theorem fl_Md_26 : FL "VertexLanguageModel" 26 13 2 93 := ⟨cR13, cT13, rfl, by decide, by decide, Or.inr trivial, mt_6 206 rfl rfl⟩
set_option maxRecDepth 20000 in
theorem fl_Md_307 : FL "VertexLanguageModel" 307 13 3 93 := ⟨cR13, cT13, rfl, by decide, by decide, Or.inr trivial, mt_6 207 rfl rfl⟩
set_option maxRecDepth 20000 in
theorem fp_Md_307 : FP "VertexLanguageModel" 307 13 3 93 := ⟨cR13, cT13, rfl, by decide, by decide, rfl, mt_6 207 rfl rfl⟩
set_option maxRecDepth 20000 in
theorem fl_Md_30 : FL "VertexLanguageModel" 30 13 4 93 := ⟨cR13, cT13, rfl, by decide, by decide, Or.inr trivial, mt_6 208 rfl rfl⟩
set_option maxRecDepth 20000 in
theorem fl_Md_339 : FL "VertexLanguageModel" 339 13 5 93 := ⟨cR13, cT13, rfl, by decide, by decide, Or.inr trivial, mt_6 209 rfl rfl⟩
set_option maxRecDepth 20000 in
theorem fp_Md_339 : FP "VertexLanguageModel" 339 13 5 93 := ⟨cR13, cT13, rfl, by decide, by decide, rfl, mt_6 209 rfl rfl⟩
set_option maxRecDepth 20000 in
theorem fl_Md_33 : FL "VertexLanguageModel" 33 13 6 93 := ⟨cR13, cT13, rfl, by decide, by decide, Or.inr trivial, mt_6 210 rfl rfl⟩
set_option maxRecDepth 20000 in
theorem fl_Md_37 : FL "VertexLanguageModel" 37 13 7 93 := ⟨cR13, cT13, rfl, by decide, by decide, Or.inr trivial, mt_6 211 rfl rfl⟩
set_option maxRecDepth 20000 in
theorem fl_Md_40 : FL "VertexLanguageModel" 40 13 8 93 := ⟨cR13, cT13, rfl, by decide, by decide, Or.inr trivial, mt_6 212 rfl rfl⟩
set_option maxRecDepth 20000 in
theorem fl_Md_43 : FL "VertexLanguageModel" 43 13 9 93 := ⟨cR13, cT13, rfl, by decide, by decide, Or.inr trivial, mt_6 213 rfl rfl⟩
set_option maxRecDepth 20000 in
theorem fl_Md_336 : FL "VertexLanguageModel" 336 13 10 93 := ⟨cR13, cT13, rfl, by decide, by decide, Or.inr trivial, mt_6 214 rfl rfl⟩
set_option maxRecDepth 20000 in
theorem fp_Md_336 : FP "VertexLanguageModel" 336 13 10 93 := ⟨cR13, cT13, rfl, by decide, by decide, rfl, mt_6 214 rfl rfl⟩
set_option maxRecDepth 20000 in
theorem fl_Md_363 : FL "VertexLanguageModel" 363 13 11 93 := ⟨cR13, cT13, rfl, by decide, by decide, Or.inr trivial, mt_6 215 rfl rfl⟩
set_option maxRecDepth 20000 in
theorem fp_Md_363 : FP "VertexLanguageModel" 363 13 11 93 := ⟨cR13, cT13, rfl, by decide, by decide, rfl, mt_6 215 rfl rfl⟩
set_option maxRecDepth 20000 in
theorem fl_Md_114 : FL "VertexLanguageModel" 114 13 12 93 := ⟨cR13, cT13, rfl, by decide, by decide, Or.inr trivial, mt_6 216 rfl rfl⟩
set_option maxRecDepth 20000 in
theorem fl_Md_164 : FL "VertexLanguageModel" 164 13 13 93 := ⟨cR13, cT13, rfl, by decide, by decide, Or.inr trivial, mt_6 217 rfl rfl⟩
set_option maxRecDepth 20000 in
theorem fl_Md_167 : FL "VertexLanguageModel" 167 13 14 93 := ⟨cR13, cT13, rfl, by decide, by decide, Or.inr trivial, mt_6 218 rfl rfl⟩
set_option maxRecDepth 20000 in
theorem fl_Md_170 : FL "VertexLanguageModel" 170 13 15 93 := ⟨cR13, cT13, rfl, by decide, by decide, Or.inr trivial, mt_6 219 rfl rfl⟩
set_option maxRecDepth 20000 in
theorem fl_Md_173 : FL "VertexLanguageModel" 173 13 16 93 := ⟨cR13, cT13, rfl, by decide, by decide, Or.inr trivial, mt_6 220 rfl rfl⟩
set_option maxRecDepth 20000 in
theorem fl_Md_176 : FL "VertexLanguageModel" 176 13 17 93 := ⟨cR13, cT13, rfl, by decide, by decide, Or.inr trivial, mt_6 221 rfl rfl⟩
set_option maxRecDepth 20000 in
theorem fl_Md_179 : FL "VertexLanguageModel" 179 13 18 93 := ⟨cR13, cT13, rfl, by decide, by decide, Or.inr trivial, mt_6 222 rfl rfl⟩
set_option maxRecDepth 20000 in
theorem fl_Md_182 : FL "VertexLanguageModel" 182 13 19 93 := ⟨cR13, cT13, rfl, by decide, by decide, Or.inr trivial, mt_6 223 rfl rfl⟩
set_option maxRecDepth 20000 in
theorem fl_Md_444 : FL "VertexLanguageModel" 444 13 20 93 := ⟨cR13, cT13, rfl, by decide, by decide, Or.inr trivial, mt_6 224 rfl rfl⟩
set_option maxRecDepth 20000 in
theorem fp_Md_444 : FP "VertexLanguageModel" 444 13 20 93 := ⟨cR13, cT13, rfl, by decide, by decide, rfl, mt_6 224 rfl rfl⟩
set_option maxRecDepth 20000 in
theorem fl_Md_185 : FL "VertexLanguageModel" 185 13 21 93 := ⟨cR13, cT13, rfl, by decide, by decide, Or.inr trivial, mt_6 225 rfl rfl⟩
set_option maxRecDepth 20000 in
theorem fl_Md_188 : FL "VertexLanguageModel" 188 13 22 93 := ⟨cR13, cT13, rfl, by decide, by decide, Or.inr trivial, mt_6 226 rfl rfl⟩
set_option maxRecDepth 20000 in
theorem fl_Md_191 : FL "VertexLanguageModel" 191 13 23 93 := ⟨cR13, cT13, rfl, by decide, by decide, Or.inr trivial, mt_6 227 rfl rfl⟩
set_option maxRecDepth 20000 in
theorem fl_Md_194 : FL "VertexLanguageModel" 194 13 24 93 := ⟨cR13, cT13, rfl, by decide, by decide, Or.inr trivial, mt_6 228 rfl rfl⟩
set_option maxRecDepth 20000 in
theorem fl_Md_197 : FL "VertexLanguageModel" 197 13 25 93 := ⟨cR13, cT13, rfl, by decide, by decide, Or.inr trivial, mt_6 229 rfl rfl⟩
set_option maxRecDepth 20000 in
theorem fl_Md_200 : FL "VertexLanguageModel" 200 13 26 93 := ⟨cR13, cT13, rfl, by decide, by decide, Or.inr trivial, mt_6 230 rfl rfl⟩
set_option maxRecDepth 20000 in
theorem fl_Md_203 : FL "VertexLanguageModel" 203 13 27 93 := ⟨cR13, cT13, rfl, by decide, by decide, Or.inr trivial, mt_6 231 rfl rfl⟩
set_option maxRecDepth 20000 in
theorem fl_Md_206 : FL "VertexLanguageModel" 206 13 28 93 := ⟨cR13, cT13, rfl, by decide, by decide, Or.inr trivial, mt_6 232 rfl rfl⟩
set_option maxRecDepth 20000 in
theorem fl_Md_209 : FL "VertexLanguageModel" 209 13 29 93 := ⟨cR13, cT13, rfl, by decide, by decide, Or.inr trivial, mt_6 233 rfl rfl⟩
set_option maxRecDepth 20000 in
theorem fl_Md_212 : FL "VertexLanguageModel" 212 13 30 93 := ⟨cR13, cT13, rfl, by decide, by decide, Or.inr trivial, mt_6 234 rfl rfl⟩
set_option maxRecDepth 20000 in
theorem fl_Md_436 : FL "VertexLanguageModel" 436 13 31 93 := ⟨cR13, cT13, rfl, by decide, by decide, Or.inr trivial, mt_6 235 rfl rfl⟩
set_option maxRecDepth 20000 in
theorem fp_Md_436 : FP "VertexLanguageModel" 436 13 31 93 := ⟨cR13, cT13, rfl, by decide, by decide, rfl, mt_6 235 rfl rfl⟩
set_option maxRecDepth 20000 in
theorem fl_Md_216 : FL "VertexLanguageModel" 216 13 32 93 := ⟨cR13, cT13, rfl, by decide, by decide, Or.inr trivial, mt_6 236 rfl rfl⟩
set_option maxRecDepth 20000 in
theorem fl_Md_219 : FL "VertexLanguageModel" 219 13 33 93 := ⟨cR13, cT13, rfl, by decide, by decide, Or.inr trivial, mt_6 237 rfl rfl⟩
set_option maxRecDepth 20000 in
theorem fl_Md_222 : FL "VertexLanguageModel" 222 13 34 93 := ⟨cR13, cT13, rfl, by decide, by decide, Or.inr trivial, mt_6 238 rfl rfl⟩
set_option maxRecDepth 20000 in
theorem fl_Md_225 : FL "VertexLanguageModel" 225 13 35 93 := ⟨cR13, cT13, rfl, by decide, by decide, Or.inr trivial, mt_6 239 rfl rfl⟩
set_option maxRecDepth 20000 in
theorem fl_Md_228 : FL "VertexLanguageModel" 228 13 36 93 := ⟨cR13, cT13, rfl, by decide, by decide, Or.inr trivial, mt_7 0 rfl rfl⟩
set_option maxRecDepth 20000 in
theorem fl_Md_231 : FL "VertexLanguageModel" 231 13 37 93 := ⟨cR13, cT13, rfl, by decide, by decide, Or.inr trivial, mt_7 1 rfl rfl⟩
set_option maxRecDepth 20000 in
theorem fl_Md_234 : FL "VertexLanguageModel" 234 13 38 93 := ⟨cR13, cT13, rfl, by decide, by decide, Or.inr trivial, mt_7 2 rfl rfl⟩
set_option maxRecDepth 20000 in
theorem fl_Md_237 : FL "VertexLanguageModel" 237 13 39 93 := ⟨cR13, cT13, rfl, by decide, by decide, Or.inr trivial, mt_7 3 rfl rfl⟩
set_option maxRecDepth 20000 in
theorem fl_Md_381 : FL "VertexLanguageModel" 381 13 40 93 := ⟨cR13, cT13, rfl, by decide, by decide, Or.inr trivial, mt_7 4 rfl rfl⟩
set_option maxRecDepth 20000 in
theorem fp_Md_381 : FP "VertexLanguageModel" 381 13 40 93 := ⟨cR13, cT13, rfl, by decide, by decide, rfl, mt_7 4 rfl rfl⟩
set_option maxRecDepth 20000 in
theorem fl_Md_450 : FL "VertexLanguageModel" 450 13 41 93 := ⟨cR13, cT13, rfl, by decide, by decide, Or.inr trivial, mt_7 5 rfl rfl⟩
set_option maxRecDepth 20000 in
theorem fp_Md_450 : FP "VertexLanguageModel" 450 13 41 93 := ⟨cR13, cT13, rfl, by decide, by decide, rfl, mt_7 5 rfl rfl⟩
set_option maxRecDepth 20000 in
theorem fl_Md_453 : FL "VertexLanguageModel" 453 13 42 93 := ⟨cR13, cT13, rfl, by decide, by decide, Or.inr trivial, mt_7 6 rfl rfl⟩
set_option maxRecDepth 20000 in
theorem fp_Md_453 : FP "VertexLanguageModel" 453 13 42 93 := ⟨cR13, cT13, rfl, by decide, by decide, rfl, mt_7 6 rfl rfl⟩
set_option maxRecDepth 20000 in
theorem fl_Md_506 : FL "VertexLanguageModel" 506 13 43 93 := ⟨cR13, cT13, rfl, by decide, by decide, Or.inr trivial, mt_7 7 rfl rfl⟩
set_option maxRecDepth 20000 in
theorem fp_Md_506 : FP "VertexLanguageModel" 506 13 43 93 := ⟨cR13, cT13, rfl, by decide, by decide, rfl, mt_7 7 rfl rfl⟩
set_option maxRecDepth 20000 in
theorem fl_Md_388 : FL "VertexLanguageModel" 388 13 44 93 := ⟨cR13, cT13, rfl, by decide, by decide, Or.inr trivial, mt_7 8 rfl rfl⟩
set_option maxRecDepth 20000 in
theorem fp_Md_388 : FP "VertexLanguageModel" 388 13 44 93 := ⟨cR13, cT13, rfl, by decide, by decide, rfl, mt_7 8 rfl rfl⟩
set_option maxRecDepth 20000 in
theorem fl_Md_427 : FL "VertexLanguageModel" 427 13 45 93 := ⟨cR13, cT13, rfl, by decide, by decide, Or.inr trivial, mt_7 9 rfl rfl⟩
set_option maxRecDepth 20000 in
theorem fp_Md_427 : FP "VertexLanguageModel" 427 13 45 93 := ⟨cR13, cT13, rfl, by decide, by decide, rfl, mt_7 9 rfl rfl⟩
set_option maxRecDepth 20000 in
theorem fl_Md_456 : FL "VertexLanguageModel" 456 13 46 93 := ⟨cR13, cT13, rfl, by decide, by decide, Or.inr trivial, mt_7 10 rfl rfl⟩
set_option maxRecDepth 20000 in
theorem fp_Md_456 : FP "VertexLanguageModel" 456 13 46 93 := ⟨cR13, cT13, rfl, by decide, by decide, rfl, mt_7 10 rfl rfl⟩
set_option maxRecDepth 20000 in
theorem fl_Md_459 : FL "VertexLanguageModel" 459 13 47 93 := ⟨cR13, cT13, rfl, by decide, by decide, Or.inr trivial, mt_7 11 rfl rfl⟩
set_option maxRecDepth 20000 in
theorem fp_Md_459 : FP "VertexLanguageModel" 459 13 47 93 := ⟨cR13, cT13, rfl, by decide, by decide, rfl, mt_7 11 rfl rfl⟩
set_option maxRecDepth 20000 in
theorem fl_Md_240 : FL "VertexLanguageModel" 240 13 48 93 := ⟨cR13, cT13, rfl, by decide, by decide, Or.inr trivial, mt_7 12 rfl rfl⟩
set_option maxRecDepth 20000 in
theorem fl_Md_243 : FL "VertexLanguageModel" 243 13 49 93 := ⟨cR13, cT13, rfl, by decide, by decide, Or.inr trivial, mt_7 13 rfl rfl⟩
set_option maxRecDepth 20000 in
theorem fl_Md_478 : FL "VertexLanguageModel" 478 13 50 93 := ⟨cR13, cT13, rfl, by decide, by decide, Or.inr trivial, mt_7 14 rfl rfl⟩
set_option maxRecDepth 20000 in
theorem fp_Md_478 : FP "VertexLanguageModel" 478 13 50 93 := ⟨cR13, cT13, rfl, by decide, by decide, rfl, mt_7 14 rfl rfl⟩
set_option maxRecDepth 20000 in
theorem fl_Md_466 : FL "VertexLanguageModel" 466 13 51 93 := ⟨cR13, cT13, rfl, by decide, by decide, Or.inr trivial, mt_7 15 rfl rfl⟩
set_option maxRecDepth 20000 in
theorem fp_Md_466 : FP "VertexLanguageModel" 466 13 51 93 := ⟨cR13, cT13, rfl, by decide, by decide, rfl, mt_7 15 rfl rfl⟩
set_option maxRecDepth 20000 in
theorem fl_Md_472 : FL "VertexLanguageModel" 472 13 52 93 := ⟨cR13, cT13, rfl, by decide, by decide, Or.inr trivial, mt_7 16 rfl rfl⟩
set_option maxRecDepth 20000 in
theorem fp_Md_472 : FP "VertexLanguageModel" 472 13 52 93 := ⟨cR13, cT13, rfl, by decide, by decide, rfl, mt_7 16 rfl rfl⟩
set_option maxRecDepth 20000 in
theorem fl_Md_475 : FL "VertexLanguageModel" 475 13 53 93 := ⟨cR13, cT13, rfl, by decide, by decide, Or.inr trivial, mt_7 17 rfl rfl⟩
set_option maxRecDepth 20000 in
theorem fp_Md_475 : FP "VertexLanguageModel" 475 13 53 93 := ⟨cR13, cT13, rfl, by decide, by decide, rfl, mt_7 17 rfl rfl⟩
set_option maxRecDepth 20000 in
theorem fl_Md_246 : FL "VertexLanguageModel" 246 13 54 93 := ⟨cR13, cT13, rfl, by decide, by decide, Or.inr trivial, mt_7 18 rfl rfl⟩
set_option maxRecDepth 20000 in
theorem fl_Md_249 : FL "VertexLanguageModel" 249 13 55 93 := ⟨cR13, cT13, rfl, by decide, by decide, Or.inr trivial, mt_7 19 rfl rfl⟩
set_option maxRecDepth 20000 in
theorem fp_Md_249 : FP "VertexLanguageModel" 249 13 55 93 := ⟨cR13, cT13, rfl, by decide, by decide, rfl, mt_7 19 rfl rfl⟩
set_option maxRecDepth 20000 in
theorem fl_Md_252 : FL "VertexLanguageModel" 252 13 56 93 := ⟨cR13, cT13, rfl, by decide, by decide, Or.inr trivial, mt_7 20 rfl rfl⟩
set_option maxRecDepth 20000 in
theorem fp_Md_252 : FP "VertexLanguageModel" 252 13 56 93 := ⟨cR13, cT13, rfl, by decide, by decide, rfl, mt_7 20 rfl rfl⟩
set_option maxRecDepth 20000 in
theorem fl_Md_255 : FL "VertexLanguageModel" 255 13 57 93 := ⟨cR13, cT13, rfl, by decide, by decide, Or.inr trivial, mt_7 21 rfl rfl⟩
set_option maxRecDepth 20000 in
theorem fl_Md_525 : FL "VertexLanguageModel" 525 13 58 93 := ⟨cR13, cT13, rfl, by decide, by decide, Or.inr trivial, mt_7 22 rfl rfl⟩
set_option maxRecDepth 20000 in
theorem fp_Md_525 : FP "VertexLanguageModel" 525 13 58 93 := ⟨cR13, cT13, rfl, by decide, by decide, rfl, mt_7 22 rfl rfl⟩
set_option maxRecDepth 20000 in
theorem fl_Md_305 : FL "VertexLanguageModel" 305 13 59 93 := ⟨cR13, cT13, rfl, by decide, by decide, Or.inr trivial, mt_7 23 rfl rfl⟩
set_option maxRecDepth 20000 in
theorem fp_Md_305 : FP "VertexLanguageModel" 305 13 59 93 := ⟨cR13, cT13, rfl, by decide, by decide, rfl, mt_7 23 rfl rfl⟩
set_option maxRecDepth 20000 in
theorem fl_Md_546 : FL "VertexLanguageModel" 546 13 60 93 := ⟨cR13, cT13, rfl, by decide, by decide, Or.inr trivial, mt_7 24 rfl rfl⟩
set_option maxRecDepth 20000 in
theorem fp_Md_546 : FP "VertexLanguageModel" 546 13 60 93 := ⟨cR13, cT13, rfl, by decide, by decide, rfl, mt_7 24 rfl rfl⟩
set_option maxRecDepth 20000 in
theorem fl_Md_258 : FL "VertexLanguageModel" 258 13 61 93 := ⟨cR13, cT13, rfl, by decide, by decide, Or.inr trivial, mt_7 25 rfl rfl⟩
set_option maxRecDepth 20000 in
theorem fl_Md_261 : FL "VertexLanguageModel" 261 13 62 93 := ⟨cR13, cT13, rfl, by decide, by decide, Or.inr trivial, mt_7 26 rfl rfl⟩
set_option maxRecDepth 20000 in
theorem fl_Md_264 : FL "VertexLanguageModel" 264 13 63 93 := ⟨cR13, cT13, rfl, by decide, by decide, Or.inr trivial, mt_7 27 rfl rfl⟩
set_option maxRecDepth 20000 in
theorem fl_Md_510 : FL "VertexLanguageModel" 510 13 64 93 := ⟨cR13, cT13, rfl, by decide, by decide, Or.inr trivial, mt_7 28 rfl rfl⟩
set_option maxRecDepth 20000 in
theorem fp_Md_510 : FP "VertexLanguageModel" 510 13 64 93 := ⟨cR13, cT13, rfl, by decide, by decide, rfl, mt_7 28 rfl rfl⟩
set_option maxRecDepth 20000 in
theorem fl_Md_559 : FL "VertexLanguageModel" 559 13 65 93 := ⟨cR13, cT13, rfl, by decide, by decide, Or.inr trivial, mt_7 29 rfl rfl⟩
set_option maxRecDepth 20000 in
theorem fp_Md_559 : FP "VertexLanguageModel" 559 13 65 93 := ⟨cR13, cT13, rfl, by decide, by decide, rfl, mt_7 29 rfl rfl⟩
set_option maxRecDepth 20000 in
theorem fl_Md_562 : FL "VertexLanguageModel" 562 13 66 93 := ⟨cR13, cT13, rfl, by decide, by decide, Or.inr trivial, mt_7 30 rfl rfl⟩
set_option maxRecDepth 20000 in
theorem fp_Md_562 : FP "VertexLanguageModel" 562 13 66 93 := ⟨cR13, cT13, rfl, by decide, by decide, rfl, mt_7 30 rfl rfl⟩
set_option maxRecDepth 20000 in
theorem fl_Md_267 : FL "VertexLanguageModel" 267 13 67 93 := ⟨cR13, cT13, rfl, by decide, by decide, Or.inr trivial, mt_7 31 rfl rfl⟩
set_option maxRecDepth 20000 in
theorem fl_Md_270 : FL "VertexLanguageModel" 270 13 68 93 := ⟨cR13, cT13, rfl, by decide, by decide, Or.inr trivial, mt_7 32 rfl rfl⟩
set_option maxRecDepth 20000 in
theorem fl_Md_273 : FL "VertexLanguageModel" 273 13 69 93 := ⟨cR13, cT13, rfl, by decide, by decide, Or.inr trivial, mt_7 33 rfl rfl⟩
set_option maxRecDepth 20000 in
theorem fl_Md_276 : FL "VertexLanguageModel" 276 13 70 93 := ⟨cR13, cT13, rfl, by decide, by decide, Or.inr trivial, mt_7 34 rfl rfl⟩
set_option maxRecDepth 20000 in
theorem fl_Md_279 : FL "VertexLanguageModel" 279 13 71 93 := ⟨cR13, cT13, rfl, by decide, by decide, Or.inr trivial, mt_7 35 rfl rfl⟩
set_option maxRecDepth 20000 in
theorem fl_Md_282 : FL "VertexLanguageModel" 282 13 72 93 := ⟨cR13, cT13, rfl, by decide, by decide, Or.inr trivial, mt_7 36 rfl rfl⟩
set_option maxRecDepth 20000 in
theorem fl_Md_285 : FL "VertexLanguageModel" 285 13 73 93 := ⟨cR13, cT13, rfl, by decide, by decide, Or.inr trivial, mt_7 37 rfl rfl⟩
set_option maxRecDepth 20000 in
theorem fl_Md_288 : FL "VertexLanguageModel" 288 13 74 93 := ⟨cR13, cT13, rfl, by decide, by decide, Or.inr trivial, mt_7 38 rfl rfl⟩
set_option maxRecDepth 20000 in
theorem fl_Md_291 : FL "VertexLanguageModel" 291 13 75 93 := ⟨cR13, cT13, rfl, by decide, by decide, Or.inr trivial, mt_7 39 rfl rfl⟩
set_option maxRecDepth 20000 in
theorem fl_Md_294 : FL "VertexLanguageModel" 294 13 76 93 := ⟨cR13, cT13, rfl, by decide, by decide, Or.inr trivial, mt_7 40 rfl rfl⟩
set_option maxRecDepth 20000 in
theorem fl_Md_297 : FL "VertexLanguageModel" 297 13 77 93 := ⟨cR13, cT13, rfl, by decide, by decide, Or.inr trivial, mt_7 41 rfl rfl⟩
set_option maxRecDepth 20000 in
theorem fl_Md_564 : FL "VertexLanguageModel" 564 13 78 93 := ⟨cR13, cT13, rfl, by decide, by decide, Or.inr trivial, mt_7 42 rfl rfl⟩
set_option maxRecDepth 20000 in
theorem fp_Md_564 : FP "VertexLanguageModel" 564 13 78 93 := ⟨cR13, cT13, rfl, by decide, by decide, rfl, mt_7 42 rfl rfl⟩
set_option maxRecDepth 20000 in
theorem fl_Md_300 : FL "VertexLanguageModel" 300 13 79 93 := ⟨cR13, cT13, rfl, by decide, by decide, Or.inr trivial, mt_7 43 rfl rfl⟩
set_option maxRecDepth 20000 in
theorem fl_Md_567 : FL "VertexLanguageModel" 567 13 80 93 := ⟨cR13, cT13, rfl, by decide, by decide, Or.inr trivial, mt_7 44 rfl rfl⟩
set_option maxRecDepth 20000 in
theorem fp_Md_567 : FP "VertexLanguageModel" 567 13 80 93 := ⟨cR13, cT13, rfl, by decide, by decide, rfl, mt_7 44 rfl rfl⟩
set_option maxRecDepth 20000 in
theorem fl_Md_570 : FL "VertexLanguageModel" 570 13 81 93 := ⟨cR13, cT13, rfl, by decide, by decide, Or.inr trivial, mt_7 45 rfl rfl⟩
set_option maxRecDepth 20000 in
theorem fp_Md_570 : FP "VertexLanguageModel" 570 13 81 93 := ⟨cR13, cT13, rfl, by decide, by decide, rfl, mt_7 45 rfl rfl⟩
set_option maxRecDepth 20000 in
theorem fl_Md_573 : FL "VertexLanguageModel" 573 13 82 93 := ⟨cR13, cT13, rfl, by decide, by decide, Or.inr trivial, mt_7 46 rfl rfl⟩
set_option maxRecDepth 20000 in
theorem fp_Md_573 : FP "VertexLanguageModel" 573 13 82 93 := ⟨cR13, cT13, rfl, by decide, by decide, rfl, mt_7 46 rfl rfl⟩
set_option maxRecDepth 20000 in
theorem fl_Md_576 : FL "VertexLanguageModel" 576 13 83 93 := ⟨cR13, cT13, rfl, by decide, by decide, Or.inr trivial, mt_7 47 rfl rfl⟩
set_option maxRecDepth 20000 in
theorem fp_Md_576 : FP "VertexLanguageModel" 576 13 83 93 := ⟨cR13, cT13, rfl, by decide, by decide, rfl, mt_7 47 rfl rfl⟩
set_option maxRecDepth 20000 in
theorem fl_Md_643 : FL "VertexLanguageModel" 643 13 84 93 := ⟨cR13, cT13, rfl, by decide, by decide, Or.inr trivial, mt_7 48 rfl rfl⟩
set_option maxRecDepth 20000 in
theorem fp_Md_643 : FP "VertexLanguageModel" 643 13 84 93 := ⟨cR13, cT13, rfl, by decide, by decide, rfl, mt_7 48 rfl rfl⟩
set_option maxRecDepth 20000 in
theorem fl_Md_579 : FL "VertexLanguageModel" 579 13 85 93 := ⟨cR13, cT13, rfl, by decide, by decide, Or.inr trivial, mt_7 49 rfl rfl⟩
set_option maxRecDepth 20000 in
theorem fp_Md_579 : FP "VertexLanguageModel" 579 13 85 93 := ⟨cR13, cT13, rfl, by decide, by decide, rfl, mt_7 49 rfl rfl⟩
set_option maxRecDepth 20000 in
theorem fl_Md_610 : FL "VertexLanguageModel" 610 13 86 93 := ⟨cR13, cT13, rfl, by decide, by decide, Or.inr trivial, mt_7 50 rfl rfl⟩
set_option maxRecDepth 20000 in
theorem fp_Md_610 : FP "VertexLanguageModel" 610 13 86 93 := ⟨cR13, cT13, rfl, by decide, by decide, rfl, mt_7 50 rfl rfl⟩
set_option maxRecDepth 20000 in
theorem fl_Md_585 : FL "VertexLanguageModel" 585 13 87 93 := ⟨cR13, cT13, rfl, by decide, by decide, Or.inr trivial, mt_7 51 rfl rfl⟩
set_option maxRecDepth 20000 in
theorem fp_Md_585 : FP "VertexLanguageModel" 585 13 87 93 := ⟨cR13, cT13, rfl, by decide, by decide, rfl, mt_7 51 rfl rfl⟩
set_option maxRecDepth 20000 in
theorem fl_Md_619 : FL "VertexLanguageModel" 619 13 88 93 := ⟨cR13, cT13, rfl, by decide, by decide, Or.inr trivial, mt_7 52 rfl rfl⟩
set_option maxRecDepth 20000 in
theorem fp_Md_619 : FP "VertexLanguageModel" 619 13 88 93 := ⟨cR13, cT13, rfl, by decide, by decide, rfl, mt_7 52 rfl rfl⟩
set_option maxRecDepth 20000 in
theorem fl_Md_628 : FL "VertexLanguageModel" 628 13 89 93 := ⟨cR13, cT13, rfl, by decide, by decide, Or.inr trivial, mt_7 53 rfl rfl⟩
set_option maxRecDepth 20000 in
theorem fp_Md_628 : FP "VertexLanguageModel" 628 13 89 93 := ⟨cR13, cT13, rfl, by decide, by decide, rfl, mt_7 53 rfl rfl⟩
set_option maxRecDepth 20000 in
theorem fl_Md_607 : FL "VertexLanguageModel" 607 13 90 93 := ⟨cR13, cT13, rfl, by decide, by decide, Or.inr trivial, mt_7 54 rfl rfl⟩
set_option maxRecDepth 20000 in
theorem fp_Md_607 : FP "VertexLanguageModel" 607 13 90 93 := ⟨cR13, cT13, rfl, by decide, by decide, rfl, mt_7 54 rfl rfl⟩
set_option maxRecDepth 20000 in
theorem fl_Md_588 : FL "VertexLanguageModel" 588 13 91 93 := ⟨cR13, cT13, rfl, by decide, by decide, Or.inr trivial, mt_7 55 rfl rfl⟩
set_option maxRecDepth 20000 in
theorem fp_Md_588 : FP "VertexLanguageModel" 588 13 91 93 := ⟨cR13, cT13, rfl, by decide, by decide, rfl, mt_7 55 rfl rfl⟩
set_option maxRecDepth 20000 in
theorem fl_Md_303 : FL "VertexLanguageModel" 303 13 92 93 := ⟨cR13, cT13, rfl, by decide, by decide, Or.inr trivial, mt_7 56 rfl rfl⟩
