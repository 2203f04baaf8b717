def y_Content_finishTag : MethodName := ⟨"MarkupJudge$Content", "finishTag", "(IIZ)V"⟩
abbrev b_Content_finishTag : ByteArray := prog_2_method_16_code
def y_Content_isTagAround : MethodName := ⟨"MarkupJudge$Content", "isTagAround", "()Z"⟩
abbrev b_Content_isTagAround : ByteArray := prog_2_method_8_code
def y_Content_isTagInside : MethodName := ⟨"MarkupJudge$Content", "isTagInside", "()Z"⟩
abbrev b_Content_isTagInside : ByteArray := prog_2_method_9_code
def y_Content_readEnd : MethodName := ⟨"MarkupJudge$Content", "readEnd", "()V"⟩
abbrev b_Content_readEnd : ByteArray := prog_2_method_14_code
def y_Content_readHead : MethodName := ⟨"MarkupJudge$Content", "readHead", "()V"⟩
abbrev b_Content_readHead : ByteArray := prog_2_method_4_code
def y_Content_readInstruction : MethodName := ⟨"MarkupJudge$Content", "readInstruction", "()V"⟩
abbrev b_Content_readInstruction : ByteArray := prog_2_method_10_code
def y_Content_readLetters : MethodName := ⟨"MarkupJudge$Content", "readLetters", "(Z)V"⟩
abbrev b_Content_readLetters : ByteArray := prog_2_method_7_code
def y_Content_readQuote : MethodName := ⟨"MarkupJudge$Content", "readQuote", "(I)V"⟩
abbrev b_Content_readQuote : ByteArray := prog_2_method_6_code
def y_Content_readQuoteOf : MethodName := ⟨"MarkupJudge$Content", "readQuoteOf", "(Ljava/lang/String;)I"⟩
abbrev b_Content_readQuoteOf : ByteArray := prog_2_method_5_code
def y_Content_readReference : MethodName := ⟨"MarkupJudge$Content", "readReference", "()V"⟩
abbrev b_Content_readReference : ByteArray := prog_2_method_11_code
def y_Content_readRun : MethodName := ⟨"MarkupJudge$Content", "readRun", "()V"⟩
abbrev b_Content_readRun : ByteArray := prog_2_method_12_code
def y_Content_readSection : MethodName := ⟨"MarkupJudge$Content", "readSection", "()V"⟩
abbrev b_Content_readSection : ByteArray := prog_2_method_13_code
def y_Content_readTag : MethodName := ⟨"MarkupJudge$Content", "readTag", "(Z)V"⟩
abbrev b_Content_readTag : ByteArray := prog_2_method_15_code
def y_Declared_addAttribute : MethodName := ⟨"MarkupJudge$Declared", "addAttribute", "(IIIIII)V"⟩
abbrev b_Declared_addAttribute : ByteArray := prog_3_method_7_code
def y_Declared_addElement : MethodName := ⟨"MarkupJudge$Declared", "addElement", "(III)V"⟩
abbrev b_Declared_addElement : ByteArray := prog_3_method_3_code
def y_Declared_addListed : MethodName := ⟨"MarkupJudge$Declared", "addListed", "(I)V"⟩
abbrev b_Declared_addListed : ByteArray := prog_3_method_5_code
def y_Declared_addNotation : MethodName := ⟨"MarkupJudge$Declared", "addNotation", "(I)V"⟩
abbrev b_Declared_addNotation : ByteArray := prog_3_method_4_code
def y_Declared_find : MethodName := ⟨"MarkupJudge$Declared", "find", "(II)I"⟩
abbrev b_Declared_find : ByteArray := prog_3_method_6_code
def y_Declared_isEmpty : MethodName := ⟨"MarkupJudge$Declared", "isEmpty", "(I)Z"⟩
abbrev b_Declared_isEmpty : ByteArray := prog_3_method_8_code
def y_Doctype_readAttributes : MethodName := ⟨"MarkupJudge$Doctype", "readAttributes", "(Z)V"⟩
abbrev b_Doctype_readAttributes : ByteArray := prog_4_method_11_code
def y_Doctype_readBegin : MethodName := ⟨"MarkupJudge$Doctype", "readBegin", "()V"⟩
abbrev b_Doctype_readBegin : ByteArray := prog_4_method_3_code
def y_Doctype_readElement : MethodName := ⟨"MarkupJudge$Doctype", "readElement", "()V"⟩
abbrev b_Doctype_readElement : ByteArray := prog_4_method_7_code
def y_Doctype_readEnd : MethodName := ⟨"MarkupJudge$Doctype", "readEnd", "()V"⟩
abbrev b_Doctype_readEnd : ByteArray := prog_4_method_5_code
def y_Doctype_readEntity : MethodName := ⟨"MarkupJudge$Doctype", "readEntity", "()V"⟩
abbrev b_Doctype_readEntity : ByteArray := prog_4_method_15_code
def y_Doctype_readHow : MethodName := ⟨"MarkupJudge$Doctype", "readHow", "()I"⟩
abbrev b_Doctype_readHow : ByteArray := prog_4_method_14_code
def y_Doctype_readItem : MethodName := ⟨"MarkupJudge$Doctype", "readItem", "()V"⟩
abbrev b_Doctype_readItem : ByteArray := prog_4_method_4_code
def y_Doctype_readList : MethodName := ⟨"MarkupJudge$Doctype", "readList", "(ZZ)V"⟩
abbrev b_Doctype_readList : ByteArray := prog_4_method_13_code
def y_Doctype_readMixed : MethodName := ⟨"MarkupJudge$Doctype", "readMixed", "()V"⟩
abbrev b_Doctype_readMixed : ByteArray := prog_4_method_8_code
def y_Doctype_readModel : MethodName := ⟨"MarkupJudge$Doctype", "readModel", "()V"⟩
abbrev b_Doctype_readModel : ByteArray := prog_4_method_9_code
def y_Doctype_readNotation : MethodName := ⟨"MarkupJudge$Doctype", "readNotation", "()V"⟩
abbrev b_Doctype_readNotation : ByteArray := prog_4_method_16_code
def y_Doctype_readParameterReference : MethodName := ⟨"MarkupJudge$Doctype", "readParameterReference", "()V"⟩
abbrev b_Doctype_readParameterReference : ByteArray := prog_4_method_6_code
def y_Doctype_readType : MethodName := ⟨"MarkupJudge$Doctype", "readType", "(Z)I"⟩
abbrev b_Doctype_readType : ByteArray := prog_4_method_12_code
def y_Doctype_skipHowOften : MethodName := ⟨"MarkupJudge$Doctype", "skipHowOften", "()V"⟩
abbrev b_Doctype_skipHowOften : ByteArray := prog_4_method_10_code
def y_Entities_addReference : MethodName := ⟨"MarkupJudge$Entities", "addReference", "(I)V"⟩
abbrev b_Entities_addReference : ByteArray := prog_5_method_5_code
def y_Entities_declare : MethodName := ⟨"MarkupJudge$Entities", "declare", "(IZII)V"⟩
abbrev b_Entities_declare : ByteArray := prog_5_method_4_code
def y_Entities_elementBefore : MethodName := ⟨"MarkupJudge$Entities", "elementBefore", "()I"⟩
abbrev b_Entities_elementBefore : ByteArray := prog_5_method_9_code
def y_Entities_enter : MethodName := ⟨"MarkupJudge$Entities", "enter", "(II)V"⟩
abbrev b_Entities_enter : ByteArray := prog_5_method_8_code
def y_Entities_enterParameter : MethodName := ⟨"MarkupJudge$Entities", "enterParameter", "(I)V"⟩
abbrev b_Entities_enterParameter : ByteArray := prog_5_method_6_code
def y_Entities_keepValue : MethodName := ⟨"MarkupJudge$Entities", "keepValue", "(II)I"⟩
abbrev b_Entities_keepValue : ByteArray := prog_5_method_12_code
def y_Entities_leave : MethodName := ⟨"MarkupJudge$Entities", "leave", "()V"⟩
abbrev b_Entities_leave : ByteArray := prog_5_method_10_code
def y_Entities_mean : MethodName := ⟨"MarkupJudge$Entities", "mean", "(I)I"⟩
abbrev b_Entities_mean : ByteArray := prog_5_method_7_code
def y_Entities_readValue : MethodName := ⟨"MarkupJudge$Entities", "readValue", "()I"⟩
abbrev b_Entities_readValue : ByteArray := prog_5_method_11_code
def y_Meanings_countAll : MethodName := ⟨"MarkupJudge$Meanings", "countAll", "(I)V"⟩
abbrev b_Meanings_countAll : ByteArray := prog_6_method_4_code
def y_Meanings_countDeclarations : MethodName := ⟨"MarkupJudge$Meanings", "countDeclarations", "(II)V"⟩
abbrev b_Meanings_countDeclarations : ByteArray := prog_6_method_17_code
def y_Meanings_countName : MethodName := ⟨"MarkupJudge$Meanings", "countName", "(I)V"⟩
abbrev b_Meanings_countName : ByteArray := prog_6_method_15_code
def y_Meanings_countNames : MethodName := ⟨"MarkupJudge$Meanings", "countNames", "(I)V"⟩
abbrev b_Meanings_countNames : ByteArray := prog_6_method_14_code
def y_Meanings_declares : MethodName := ⟨"MarkupJudge$Meanings", "declares", "(I)I"⟩
abbrev b_Meanings_declares : ByteArray := prog_6_method_8_code
def y_Meanings_enter : MethodName := ⟨"MarkupJudge$Meanings", "enter", "(I)V"⟩
abbrev b_Meanings_enter : ByteArray := prog_6_method_12_code
def y_Meanings_hasBefore : MethodName := ⟨"MarkupJudge$Meanings", "hasBefore", "(II)Z"⟩
abbrev b_Meanings_hasBefore : ByteArray := prog_6_method_16_code
def y_Meanings_isAbsolute : MethodName := ⟨"MarkupJudge$Meanings", "isAbsolute", "(I)Z"⟩
abbrev b_Meanings_isAbsolute : ByteArray := prog_6_method_18_code
def y_Meanings_isIdle : MethodName := ⟨"MarkupJudge$Meanings", "isIdle", "(I)Z"⟩
abbrev b_Meanings_isIdle : ByteArray := prog_6_method_9_code
def y_Meanings_leave : MethodName := ⟨"MarkupJudge$Meanings", "leave", "(I)V"⟩
abbrev b_Meanings_leave : ByteArray := prog_6_method_13_code
def y_Meanings_local : MethodName := ⟨"MarkupJudge$Meanings", "local", "(I)I"⟩
abbrev b_Meanings_local : ByteArray := prog_6_method_11_code
def y_Meanings_meaning : MethodName := ⟨"MarkupJudge$Meanings", "meaning", "(I)I"⟩
abbrev b_Meanings_meaning : ByteArray := prog_6_method_10_code
def y_Meanings_prefix : MethodName := ⟨"MarkupJudge$Meanings", "prefix", "(I)I"⟩
abbrev b_Meanings_prefix : ByteArray := prog_6_method_7_code
def y_Meanings_split : MethodName := ⟨"MarkupJudge$Meanings", "split", "(I)V"⟩
abbrev b_Meanings_split : ByteArray := prog_6_method_6_code
def y_Meanings_splitAll : MethodName := ⟨"MarkupJudge$Meanings", "splitAll", "()V"⟩
abbrev b_Meanings_splitAll : ByteArray := prog_6_method_5_code
def y_Meanings_sum : MethodName := ⟨"MarkupJudge$Meanings", "sum", "()I"⟩
abbrev b_Meanings_sum : ByteArray := prog_6_method_3_code
def y_Model_accept : MethodName := ⟨"MarkupJudge$Model", "accept", "(I)Z"⟩
abbrev b_Model_accept : ByteArray := prog_7_method_12_code
def y_Model_begin : MethodName := ⟨"MarkupJudge$Model", "begin", "()V"⟩
abbrev b_Model_begin : ByteArray := prog_7_method_11_code
def y_Model_followAll : MethodName := ⟨"MarkupJudge$Model", "followAll", "(II)V"⟩
abbrev b_Model_followAll : ByteArray := prog_7_method_5_code
def y_Model_has : MethodName := ⟨"MarkupJudge$Model", "has", "([III)Z"⟩
abbrev b_Model_has : ByteArray := prog_7_method_6_code
def y_Model_isComplete : MethodName := ⟨"MarkupJudge$Model", "isComplete", "()Z"⟩
abbrev b_Model_isComplete : ByteArray := prog_7_method_13_code
def y_Model_isDeterministic : MethodName := ⟨"MarkupJudge$Model", "isDeterministic", "()Z"⟩
abbrev b_Model_isDeterministic : ByteArray := prog_7_method_9_code
def y_Model_isSingle : MethodName := ⟨"MarkupJudge$Model", "isSingle", "([II)Z"⟩
abbrev b_Model_isSingle : ByteArray := prog_7_method_10_code
def y_Model_join : MethodName := ⟨"MarkupJudge$Model", "join", "(I)V"⟩
abbrev b_Model_join : ByteArray := prog_7_method_8_code
def y_Model_read : MethodName := ⟨"MarkupJudge$Model", "read", "(I)V"⟩
abbrev b_Model_read : ByteArray := prog_7_method_2_code
def y_Model_readHowOften : MethodName := ⟨"MarkupJudge$Model", "readHowOften", "(I)V"⟩
abbrev b_Model_readHowOften : ByteArray := prog_7_method_4_code
def y_Model_readOccurrence : MethodName := ⟨"MarkupJudge$Model", "readOccurrence", "(I)V"⟩
abbrev b_Model_readOccurrence : ByteArray := prog_7_method_3_code
def y_Model_unite : MethodName := ⟨"MarkupJudge$Model", "unite", "([II[II)V"⟩
abbrev b_Model_unite : ByteArray := prog_7_method_7_code
def y_Reader_atQuote : MethodName := ⟨"MarkupJudge$Reader", "atQuote", "()Z"⟩
abbrev b_Reader_atQuote : ByteArray := prog_8_method_27_code
def y_Reader_checkEntityText : MethodName := ⟨"MarkupJudge$Reader", "checkEntityText", "()V"⟩
abbrev b_Reader_checkEntityText : ByteArray := prog_8_method_32_code
def y_Reader_checkValue : MethodName := ⟨"MarkupJudge$Reader", "checkValue", "()V"⟩
abbrev b_Reader_checkValue : ByteArray := prog_8_method_31_code
def y_Reader_isCharacter : MethodName := ⟨"MarkupJudge$Reader", "isCharacter", "(I)Z"⟩
abbrev b_Reader_isCharacter : ByteArray := prog_8_method_4_code
def y_Reader_isDigit : MethodName := ⟨"MarkupJudge$Reader", "isDigit", "(I)Z"⟩
abbrev b_Reader_isDigit : ByteArray := prog_8_method_7_code
def y_Reader_isLetter : MethodName := ⟨"MarkupJudge$Reader", "isLetter", "(I)Z"⟩
abbrev b_Reader_isLetter : ByteArray := prog_8_method_6_code
def y_Reader_isNameCharacter : MethodName := ⟨"MarkupJudge$Reader", "isNameCharacter", "(I)Z"⟩
abbrev b_Reader_isNameCharacter : ByteArray := prog_8_method_8_code
def y_Reader_isNoStart : MethodName := ⟨"MarkupJudge$Reader", "isNoStart", "(I)Z"⟩
abbrev b_Reader_isNoStart : ByteArray := prog_8_method_9_code
def y_Reader_isSpace : MethodName := ⟨"MarkupJudge$Reader", "isSpace", "(I)Z"⟩
abbrev b_Reader_isSpace : ByteArray := prog_8_method_5_code
def y_Reader_isWrittenAs : MethodName := ⟨"MarkupJudge$Reader", "isWrittenAs", "(IILjava/lang/String;)Z"⟩
abbrev b_Reader_isWrittenAs : ByteArray := prog_8_method_21_code
def y_Reader_lookForColon : MethodName := ⟨"MarkupJudge$Reader", "lookForColon", "(II)V"⟩
abbrev b_Reader_lookForColon : ByteArray := prog_8_method_22_code
def y_Reader_need : MethodName := ⟨"MarkupJudge$Reader", "need", "(Ljava/lang/String;)V"⟩
abbrev b_Reader_need : ByteArray := prog_8_method_13_code
def y_Reader_needSpace : MethodName := ⟨"MarkupJudge$Reader", "needSpace", "()V"⟩
abbrev b_Reader_needSpace : ByteArray := prog_8_method_15_code
def y_Reader_peek : MethodName := ⟨"MarkupJudge$Reader", "peek", "()I"⟩
abbrev b_Reader_peek : ByteArray := prog_8_method_10_code
def y_Reader_readComment : MethodName := ⟨"MarkupJudge$Reader", "readComment", "()V"⟩
abbrev b_Reader_readComment : ByteArray := prog_8_method_19_code
def y_Reader_readInstruction : MethodName := ⟨"MarkupJudge$Reader", "readInstruction", "()V"⟩
abbrev b_Reader_readInstruction : ByteArray := prog_8_method_20_code
def y_Reader_readLiteral : MethodName := ⟨"MarkupJudge$Reader", "readLiteral", "()V"⟩
abbrev b_Reader_readLiteral : ByteArray := prog_8_method_28_code
def y_Reader_readName : MethodName := ⟨"MarkupJudge$Reader", "readName", "()I"⟩
abbrev b_Reader_readName : ByteArray := prog_8_method_17_code
def y_Reader_readNumber : MethodName := ⟨"MarkupJudge$Reader", "readNumber", "(I)V"⟩
abbrev b_Reader_readNumber : ByteArray := prog_8_method_26_code
def y_Reader_readOutside : MethodName := ⟨"MarkupJudge$Reader", "readOutside", "(Z)V"⟩
abbrev b_Reader_readOutside : ByteArray := prog_8_method_30_code
def y_Reader_readPublicLiteral : MethodName := ⟨"MarkupJudge$Reader", "readPublicLiteral", "()V"⟩
abbrev b_Reader_readPublicLiteral : ByteArray := prog_8_method_29_code
def y_Reader_readReference : MethodName := ⟨"MarkupJudge$Reader", "readReference", "()V"⟩
abbrev b_Reader_readReference : ByteArray := prog_8_method_25_code
def y_Reader_readRun : MethodName := ⟨"MarkupJudge$Reader", "readRun", "()V"⟩
abbrev b_Reader_readRun : ByteArray := prog_8_method_24_code
def y_Reader_readSection : MethodName := ⟨"MarkupJudge$Reader", "readSection", "()V"⟩
abbrev b_Reader_readSection : ByteArray := prog_8_method_23_code
def y_Reader_readToken : MethodName := ⟨"MarkupJudge$Reader", "readToken", "()I"⟩
abbrev b_Reader_readToken : ByteArray := prog_8_method_18_code
def y_Reader_seek : MethodName := ⟨"MarkupJudge$Reader", "seek", "(Ljava/lang/String;)V"⟩
abbrev b_Reader_seek : ByteArray := prog_8_method_16_code
def y_Reader_skip : MethodName := ⟨"MarkupJudge$Reader", "skip", "(Ljava/lang/String;)Z"⟩
abbrev b_Reader_skip : ByteArray := prog_8_method_12_code
def y_Reader_skipSpace : MethodName := ⟨"MarkupJudge$Reader", "skipSpace", "()Z"⟩
abbrev b_Reader_skipSpace : ByteArray := prog_8_method_14_code
def y_Store_addToText : MethodName := ⟨"MarkupJudge$Store", "addToText", "(I)V"⟩
abbrev b_Store_addToText : ByteArray := prog_9_method_8_code
def y_Store_compare : MethodName := ⟨"MarkupJudge$Store", "compare", "(II)I"⟩
abbrev b_Store_compare : ByteArray := prog_9_method_13_code
def y_Store_internAdded : MethodName := ⟨"MarkupJudge$Store", "internAdded", "(I)I"⟩
abbrev b_Store_internAdded : ByteArray := prog_9_method_11_code
def y_Store_letter : MethodName := ⟨"MarkupJudge$Store", "letter", "(II)I"⟩
abbrev b_Store_letter : ByteArray := prog_9_method_12_code
def y_Store_loadWide : MethodName := ⟨"MarkupJudge$Store", "loadWide", "([BII)I"⟩
abbrev b_Store_loadWide : ByteArray := prog_9_method_7_code
def y_Store_newMark : MethodName := ⟨"MarkupJudge$Store", "newMark", "()I"⟩
abbrev b_Store_newMark : ByteArray := prog_9_method_14_code
def y_Tree_addAttribute : MethodName := ⟨"MarkupJudge$Tree", "addAttribute", "(IIIZ)V"⟩
abbrev b_Tree_addAttribute : ByteArray := prog_10_method_7_code
def y_Tree_addCharacter : MethodName := ⟨"MarkupJudge$Tree", "addCharacter", "(I)V"⟩
abbrev b_Tree_addCharacter : ByteArray := prog_10_method_9_code
def y_Tree_addInstruction : MethodName := ⟨"MarkupJudge$Tree", "addInstruction", "(IIII)V"⟩
abbrev b_Tree_addInstruction : ByteArray := prog_10_method_10_code
def y_Tree_beginElement : MethodName := ⟨"MarkupJudge$Tree", "beginElement", "(I)V"⟩
abbrev b_Tree_beginElement : ByteArray := prog_10_method_6_code
def y_Tree_endElement : MethodName := ⟨"MarkupJudge$Tree", "endElement", "()V"⟩
abbrev b_Tree_endElement : ByteArray := prog_10_method_8_code
def y_Tree_note : MethodName := ⟨"MarkupJudge$Tree", "note", "(I)V"⟩
abbrev b_Tree_note : ByteArray := prog_10_method_11_code
def y_Tree_put : MethodName := ⟨"MarkupJudge$Tree", "put", "(I)V"⟩
abbrev b_Tree_put : ByteArray := prog_10_method_5_code
def y_Tree_tooMany : MethodName := ⟨"MarkupJudge$Tree", "tooMany", "()Z"⟩
abbrev b_Tree_tooMany : ByteArray := prog_10_method_4_code
def y_Validator_countAll : MethodName := ⟨"MarkupJudge$Validator", "countAll", "()V"⟩
abbrev b_Validator_countAll : ByteArray := prog_11_method_3_code
def y_Validator_countAttributes : MethodName := ⟨"MarkupJudge$Validator", "countAttributes", "()V"⟩
abbrev b_Validator_countAttributes : ByteArray := prog_11_method_15_code
def y_Validator_countElements : MethodName := ⟨"MarkupJudge$Validator", "countElements", "()V"⟩
abbrev b_Validator_countElements : ByteArray := prog_11_method_5_code
def y_Validator_countIdentities : MethodName := ⟨"MarkupJudge$Validator", "countIdentities", "()V"⟩
abbrev b_Validator_countIdentities : ByteArray := prog_11_method_12_code
def y_Validator_countListed : MethodName := ⟨"MarkupJudge$Validator", "countListed", "(IZ)V"⟩
abbrev b_Validator_countListed : ByteArray := prog_11_method_16_code
def y_Validator_countReferences : MethodName := ⟨"MarkupJudge$Validator", "countReferences", "()V"⟩
abbrev b_Validator_countReferences : ByteArray := prog_11_method_13_code
def y_Validator_countTags : MethodName := ⟨"MarkupJudge$Validator", "countTags", "()V"⟩
abbrev b_Validator_countTags : ByteArray := prog_11_method_8_code
def y_Validator_countWords : MethodName := ⟨"MarkupJudge$Validator", "countWords", "(III)V"⟩
abbrev b_Validator_countWords : ByteArray := prog_11_method_14_code
def y_Validator_fits : MethodName := ⟨"MarkupJudge$Validator", "fits", "(III)Z"⟩
abbrev b_Validator_fits : ByteArray := prog_11_method_7_code
def y_Validator_isAsWanted : MethodName := ⟨"MarkupJudge$Validator", "isAsWanted", "(II)Z"⟩
abbrev b_Validator_isAsWanted : ByteArray := prog_11_method_9_code
def y_Validator_isListed : MethodName := ⟨"MarkupJudge$Validator", "isListed", "(II)Z"⟩
abbrev b_Validator_isListed : ByteArray := prog_11_method_10_code
def y_Validator_isMadeOf : MethodName := ⟨"MarkupJudge$Validator", "isMadeOf", "(IZZ)Z"⟩
abbrev b_Validator_isMadeOf : ByteArray := prog_11_method_11_code
def y_Validator_link : MethodName := ⟨"MarkupJudge$Validator", "link", "()V"⟩
abbrev b_Validator_link : ByteArray := prog_11_method_4_code
def y_Validator_markMixed : MethodName := ⟨"MarkupJudge$Validator", "markMixed", "(I)I"⟩
abbrev b_Validator_markMixed : ByteArray := prog_11_method_6_code
def y_Validator_sum : MethodName := ⟨"MarkupJudge$Validator", "sum", "()I"⟩
abbrev b_Validator_sum : ByteArray := prog_11_method_2_code
def y_Writer_isBefore : MethodName := ⟨"MarkupJudge$Writer", "isBefore", "(II)Z"⟩
abbrev b_Writer_isBefore : ByteArray := prog_12_method_15_code
def y_Writer_put : MethodName := ⟨"MarkupJudge$Writer", "put", "(I)V"⟩
abbrev b_Writer_put : ByteArray := prog_12_method_11_code
def y_Writer_putBegin : MethodName := ⟨"MarkupJudge$Writer", "putBegin", "(I)V"⟩
abbrev b_Writer_putBegin : ByteArray := prog_12_method_3_code
def y_Writer_putBytes : MethodName := ⟨"MarkupJudge$Writer", "putBytes", "(I)V"⟩
abbrev b_Writer_putBytes : ByteArray := prog_12_method_10_code
def y_Writer_putCharacter : MethodName := ⟨"MarkupJudge$Writer", "putCharacter", "(IZ)V"⟩
abbrev b_Writer_putCharacter : ByteArray := prog_12_method_8_code
def y_Writer_putEnd : MethodName := ⟨"MarkupJudge$Writer", "putEnd", "()V"⟩
abbrev b_Writer_putEnd : ByteArray := prog_12_method_4_code
def y_Writer_putInstruction : MethodName := ⟨"MarkupJudge$Writer", "putInstruction", "(I)V"⟩
abbrev b_Writer_putInstruction : ByteArray := prog_12_method_5_code
def y_Writer_putText : MethodName := ⟨"MarkupJudge$Writer", "putText", "(Ljava/lang/String;)V"⟩
abbrev b_Writer_putText : ByteArray := prog_12_method_9_code
def y_Writer_putValue : MethodName := ⟨"MarkupJudge$Writer", "putValue", "(I)V"⟩
abbrev b_Writer_putValue : ByteArray := prog_12_method_7_code
def y_Writer_putWord : MethodName := ⟨"MarkupJudge$Writer", "putWord", "(I)V"⟩
abbrev b_Writer_putWord : ByteArray := prog_12_method_6_code
def y_Writer_sink : MethodName := ⟨"MarkupJudge$Writer", "sink", "(II)V"⟩
abbrev b_Writer_sink : ByteArray := prog_12_method_13_code
def y_Writer_sort : MethodName := ⟨"MarkupJudge$Writer", "sort", "(I)V"⟩
abbrev b_Writer_sort : ByteArray := prog_12_method_12_code
def y_Writer_swap : MethodName := ⟨"MarkupJudge$Writer", "swap", "(II)V"⟩
abbrev b_Writer_swap : ByteArray := prog_12_method_14_code
def y_Writer_write : MethodName := ⟨"MarkupJudge$Writer", "write", "()Z"⟩
abbrev b_Writer_write : ByteArray := prog_12_method_2_code
def y_K_isAbsolute : MethodName := ⟨"MarkupJudgeModel", "isAbsolute", "(I)Z"⟩
abbrev b_K_isAbsolute : ByteArray := prog_14_method_29_code
def y_K_isCharacter : MethodName := ⟨"MarkupJudgeModel", "isCharacter", "(I)Z"⟩
abbrev b_K_isCharacter : ByteArray := prog_14_method_3_code
def y_K_isDigit : MethodName := ⟨"MarkupJudgeModel", "isDigit", "(I)Z"⟩
abbrev b_K_isDigit : ByteArray := prog_14_method_7_code
def y_K_isIn : MethodName := ⟨"MarkupJudgeModel", "isIn", "(III)Z"⟩
abbrev b_K_isIn : ByteArray := prog_14_method_2_code
def y_K_isLetter : MethodName := ⟨"MarkupJudgeModel", "isLetter", "(I)Z"⟩
abbrev b_K_isLetter : ByteArray := prog_14_method_6_code
def y_K_isNaming : MethodName := ⟨"MarkupJudgeModel", "isNaming", "(I)Z"⟩
abbrev b_K_isNaming : ByteArray := prog_14_method_5_code
def y_K_isSpace : MethodName := ⟨"MarkupJudgeModel", "isSpace", "(I)Z"⟩
abbrev b_K_isSpace : ByteArray := prog_14_method_1_code
def y_K_isStart : MethodName := ⟨"MarkupJudgeModel", "isStart", "(I)Z"⟩
abbrev b_K_isStart : ByteArray := prog_14_method_4_code
def y_K_letterOf : MethodName := ⟨"MarkupJudgeModel", "letterOf", "(II)I"⟩
abbrev b_K_letterOf : ByteArray := prog_14_method_24_code
def y_K_lower : MethodName := ⟨"MarkupJudgeModel", "lower", "(I)I"⟩
abbrev b_K_lower : ByteArray := prog_14_method_8_code
def y_KBook_at : MethodName := ⟨"MarkupJudgeModel$Book", "at", "(II)I"⟩
abbrev b_KBook_at : ByteArray := prog_15_method_8_code
def y_KBook_bucket : MethodName := ⟨"MarkupJudgeModel$Book", "bucket", "([III)I"⟩
abbrev b_KBook_bucket : ByteArray := prog_15_method_3_code
def y_KBook_find : MethodName := ⟨"MarkupJudgeModel$Book", "find", "([III)I"⟩
abbrev b_KBook_find : ByteArray := prog_15_method_4_code
def y_KBook_is : MethodName := ⟨"MarkupJudgeModel$Book", "is", "(I[III)Z"⟩
abbrev b_KBook_is : ByteArray := prog_15_method_5_code
def y_KBook_keep : MethodName := ⟨"MarkupJudgeModel$Book", "keep", "([III)I"⟩
abbrev b_KBook_keep : ByteArray := prog_15_method_6_code
def y_KBook_length : MethodName := ⟨"MarkupJudgeModel$Book", "length", "(I)I"⟩
abbrev b_KBook_length : ByteArray := prog_15_method_7_code
def y_KBook_says : MethodName := ⟨"MarkupJudgeModel$Book", "says", "(ILjava/lang/String;)Z"⟩
abbrev b_KBook_says : ByteArray := prog_15_method_10_code
def y_KBook_start : MethodName := ⟨"MarkupJudgeModel$Book", "start", "(I)I"⟩
abbrev b_KBook_start : ByteArray := prog_15_method_9_code
def y_KDoc_add : MethodName := ⟨"MarkupJudgeModel$Doc", "add", "(I)V"⟩
abbrev b_KDoc_add : ByteArray := prog_16_method_4_code
def y_KDoc_colon : MethodName := ⟨"MarkupJudgeModel$Doc", "colon", "(I)I"⟩
abbrev b_KDoc_colon : ByteArray := prog_16_method_8_code
def y_KDoc_declares : MethodName := ⟨"MarkupJudgeModel$Doc", "declares", "(II)Z"⟩
abbrev b_KDoc_declares : ByteArray := prog_16_method_11_code
def y_KDoc_event : MethodName := ⟨"MarkupJudgeModel$Doc", "event", "(I)V"⟩
abbrev b_KDoc_event : ByteArray := prog_16_method_3_code
def y_KDoc_isDeclaration : MethodName := ⟨"MarkupJudgeModel$Doc", "isDeclaration", "(I)Z"⟩
abbrev b_KDoc_isDeclaration : ByteArray := prog_16_method_12_code
def y_KDoc_isValue : MethodName := ⟨"MarkupJudgeModel$Doc", "isValue", "(ILjava/lang/String;)Z"⟩
abbrev b_KDoc_isValue : ByteArray := prog_16_method_14_code
def y_KDoc_local : MethodName := ⟨"MarkupJudgeModel$Doc", "local", "(I)I"⟩
abbrev b_KDoc_local : ByteArray := prog_16_method_10_code
def y_KDoc_prefix : MethodName := ⟨"MarkupJudgeModel$Doc", "prefix", "(I)I"⟩
abbrev b_KDoc_prefix : ByteArray := prog_16_method_9_code
def y_KDoc_same : MethodName := ⟨"MarkupJudgeModel$Doc", "same", "(IIII)Z"⟩
abbrev b_KDoc_same : ByteArray := prog_16_method_7_code
def y_KDoc_sameValue : MethodName := ⟨"MarkupJudgeModel$Doc", "sameValue", "(II)Z"⟩
abbrev b_KDoc_sameValue : ByteArray := prog_16_method_6_code
def y_KDoc_saying : MethodName := ⟨"MarkupJudgeModel$Doc", "saying", "(II)I"⟩
abbrev b_KDoc_saying : ByteArray := prog_16_method_13_code
def y_KDoc_text : MethodName := ⟨"MarkupJudgeModel$Doc", "text", "(I)V"⟩
abbrev b_KDoc_text : ByteArray := prog_16_method_5_code
def y_KReader_add : MethodName := ⟨"MarkupJudgeModel$Reader", "add", "(IIII)V"⟩
abbrev b_KReader_add : ByteArray := prog_17_method_87_code
def y_KReader_addLetter : MethodName := ⟨"MarkupJudgeModel$Reader", "addLetter", "(I)V"⟩
abbrev b_KReader_addLetter : ByteArray := prog_17_method_108_code
def y_KReader_always : MethodName := ⟨"MarkupJudgeModel$Reader", "always", "(II)I"⟩
abbrev b_KReader_always : ByteArray := prog_17_method_80_code
def y_KReader_anySpaces : MethodName := ⟨"MarkupJudgeModel$Reader", "anySpaces", "(I)I"⟩
abbrev b_KReader_anySpaces : ByteArray := prog_17_method_17_code
def y_KReader_attributeOf : MethodName := ⟨"MarkupJudgeModel$Reader", "attributeOf", "(II)I"⟩
abbrev b_KReader_attributeOf : ByteArray := prog_17_method_7_code
def y_KReader_attributes : MethodName := ⟨"MarkupJudgeModel$Reader", "attributes", "()V"⟩
abbrev b_KReader_attributes : ByteArray := prog_17_method_69_code
def y_KReader_beginLetters : MethodName := ⟨"MarkupJudgeModel$Reader", "beginLetters", "()V"⟩
abbrev b_KReader_beginLetters : ByteArray := prog_17_method_107_code
def y_KReader_bracketed : MethodName := ⟨"MarkupJudgeModel$Reader", "bracketed", "(IZ)I"⟩
abbrev b_KReader_bracketed : ByteArray := prog_17_method_64_code
def y_KReader_build : MethodName := ⟨"MarkupJudgeModel$Reader", "build", "(II)V"⟩
abbrev b_KReader_build : ByteArray := prog_17_method_55_code
def y_KReader_clearLater : MethodName := ⟨"MarkupJudgeModel$Reader", "clearLater", "(I)V"⟩
abbrev b_KReader_clearLater : ByteArray := prog_17_method_60_code
def y_KReader_close : MethodName := ⟨"MarkupJudgeModel$Reader", "close", "()V"⟩
abbrev b_KReader_close : ByteArray := prog_17_method_89_code
def y_KReader_colons : MethodName := ⟨"MarkupJudgeModel$Reader", "colons", "(I)V"⟩
abbrev b_KReader_colons : ByteArray := prog_17_method_42_code
def y_KReader_comment : MethodName := ⟨"MarkupJudgeModel$Reader", "comment", "()V"⟩
abbrev b_KReader_comment : ByteArray := prog_17_method_39_code
def y_KReader_contentItem : MethodName := ⟨"MarkupJudgeModel$Reader", "contentItem", "()V"⟩
abbrev b_KReader_contentItem : ByteArray := prog_17_method_77_code
def y_KReader_contentOf : MethodName := ⟨"MarkupJudgeModel$Reader", "contentOf", "(I)I"⟩
abbrev b_KReader_contentOf : ByteArray := prog_17_method_6_code
def y_KReader_contentReference : MethodName := ⟨"MarkupJudgeModel$Reader", "contentReference", "()V"⟩
abbrev b_KReader_contentReference : ByteArray := prog_17_method_82_code
def y_KReader_declaration : MethodName := ⟨"MarkupJudgeModel$Reader", "declaration", "()V"⟩
abbrev b_KReader_declaration : ByteArray := prog_17_method_43_code
def y_KReader_defaultAt : MethodName := ⟨"MarkupJudgeModel$Reader", "defaultAt", "(I)I"⟩
abbrev b_KReader_defaultAt : ByteArray := prog_17_method_67_code
def y_KReader_defaults : MethodName := ⟨"MarkupJudgeModel$Reader", "defaults", "(II)V"⟩
abbrev b_KReader_defaults : ByteArray := prog_17_method_88_code
def y_KReader_define : MethodName := ⟨"MarkupJudgeModel$Reader", "define", "(II)V"⟩
abbrev b_KReader_define : ByteArray := prog_17_method_70_code
def y_KReader_definition : MethodName := ⟨"MarkupJudgeModel$Reader", "definition", "(I)I"⟩
abbrev b_KReader_definition : ByteArray := prog_17_method_68_code
def y_KReader_doubles : MethodName := ⟨"MarkupJudgeModel$Reader", "doubles", "(II)I"⟩
abbrev b_KReader_doubles : ByteArray := prog_17_method_49_code
def y_KReader_eight : MethodName := ⟨"MarkupJudgeModel$Reader", "eight", "([BII)I"⟩
abbrev b_KReader_eight : ByteArray := prog_17_method_11_code
def y_KReader_element : MethodName := ⟨"MarkupJudgeModel$Reader", "element", "()V"⟩
abbrev b_KReader_element : ByteArray := prog_17_method_48_code
def y_KReader_endTag : MethodName := ⟨"MarkupJudgeModel$Reader", "endTag", "()V"⟩
abbrev b_KReader_endTag : ByteArray := prog_17_method_84_code
def y_KReader_enter : MethodName := ⟨"MarkupJudgeModel$Reader", "enter", "(I)V"⟩
abbrev b_KReader_enter : ByteArray := prog_17_method_57_code
def y_KReader_entity : MethodName := ⟨"MarkupJudgeModel$Reader", "entity", "()V"⟩
abbrev b_KReader_entity : ByteArray := prog_17_method_73_code
def y_KReader_entityOf : MethodName := ⟨"MarkupJudgeModel$Reader", "entityOf", "(IZ)I"⟩
abbrev b_KReader_entityOf : ByteArray := prog_17_method_5_code
def y_KReader_entityText : MethodName := ⟨"MarkupJudgeModel$Reader", "entityText", "(I)I"⟩
abbrev b_KReader_entityText : ByteArray := prog_17_method_72_code
def y_KReader_equal : MethodName := ⟨"MarkupJudgeModel$Reader", "equal", "(I)I"⟩
abbrev b_KReader_equal : ByteArray := prog_17_method_28_code
def y_KReader_find : MethodName := ⟨"MarkupJudgeModel$Reader", "find", "(I)Z"⟩
abbrev b_KReader_find : ByteArray := prog_17_method_91_code
def y_KReader_finish : MethodName := ⟨"MarkupJudgeModel$Reader", "finish", "()V"⟩
abbrev b_KReader_finish : ByteArray := prog_17_method_96_code
def y_KReader_fits : MethodName := ⟨"MarkupJudgeModel$Reader", "fits", "(I)Z"⟩
abbrev b_KReader_fits : ByteArray := prog_17_method_46_code
def y_KReader_given : MethodName := ⟨"MarkupJudgeModel$Reader", "given", "(IIII)V"⟩
abbrev b_KReader_given : ByteArray := prog_17_method_86_code
def y_KReader_goThrough : MethodName := ⟨"MarkupJudgeModel$Reader", "goThrough", "(II)V"⟩
abbrev b_KReader_goThrough : ByteArray := prog_17_method_47_code
def y_KReader_hasTwin : MethodName := ⟨"MarkupJudgeModel$Reader", "hasTwin", "(IIII)Z"⟩
abbrev b_KReader_hasTwin : ByteArray := prog_17_method_103_code
def y_KReader_hasTwins : MethodName := ⟨"MarkupJudgeModel$Reader", "hasTwins", "(I)Z"⟩
abbrev b_KReader_hasTwins : ByteArray := prog_17_method_61_code
def y_KReader_hasType : MethodName := ⟨"MarkupJudgeModel$Reader", "hasType", "(III)Z"⟩
abbrev b_KReader_hasType : ByteArray := prog_17_method_71_code
def y_KReader_head : MethodName := ⟨"MarkupJudgeModel$Reader", "head", "()V"⟩
abbrev b_KReader_head : ByteArray := prog_17_method_37_code
def y_KReader_identities : MethodName := ⟨"MarkupJudgeModel$Reader", "identities", "()V"⟩
abbrev b_KReader_identities : ByteArray := prog_17_method_98_code
def y_KReader_instruction : MethodName := ⟨"MarkupJudgeModel$Reader", "instruction", "(Z)V"⟩
abbrev b_KReader_instruction : ByteArray := prog_17_method_40_code
def y_KReader_isDeterministic : MethodName := ⟨"MarkupJudgeModel$Reader", "isDeterministic", "(I)Z"⟩
abbrev b_KReader_isDeterministic : ByteArray := prog_17_method_62_code
def y_KReader_isFit : MethodName := ⟨"MarkupJudgeModel$Reader", "isFit", "(I)Z"⟩
abbrev b_KReader_isFit : ByteArray := prog_17_method_90_code
def y_KReader_isNamed : MethodName := ⟨"MarkupJudgeModel$Reader", "isNamed", "(IILjava/lang/String;)Z"⟩
abbrev b_KReader_isNamed : ByteArray := prog_17_method_38_code
def y_KReader_isNamedSo : MethodName := ⟨"MarkupJudgeModel$Reader", "isNamedSo", "(IILjava/lang/String;)Z"⟩
abbrev b_KReader_isNamedSo : ByteArray := prog_17_method_81_code
def y_KReader_isNotation : MethodName := ⟨"MarkupJudgeModel$Reader", "isNotation", "(I)Z"⟩
abbrev b_KReader_isNotation : ByteArray := prog_17_method_8_code
def y_KReader_isNullable : MethodName := ⟨"MarkupJudgeModel$Reader", "isNullable", "(I)Z"⟩
abbrev b_KReader_isNullable : ByteArray := prog_17_method_56_code
def y_KReader_isQuote : MethodName := ⟨"MarkupJudgeModel$Reader", "isQuote", "(I)Z"⟩
abbrev b_KReader_isQuote : ByteArray := prog_17_method_21_code
def y_KReader_isWanted : MethodName := ⟨"MarkupJudgeModel$Reader", "isWanted", "(III)Z"⟩
abbrev b_KReader_isWanted : ByteArray := prog_17_method_95_code
def y_KReader_isWord : MethodName := ⟨"MarkupJudgeModel$Reader", "isWord", "(IIZ)Z"⟩
abbrev b_KReader_isWord : ByteArray := prog_17_method_94_code
def y_KReader_isWrong : MethodName := ⟨"MarkupJudgeModel$Reader", "isWrong", "(I)Z"⟩
abbrev b_KReader_isWrong : ByteArray := prog_17_method_104_code
def y_KReader_keep : MethodName := ⟨"MarkupJudgeModel$Reader", "keep", "(II)I"⟩
abbrev b_KReader_keep : ByteArray := prog_17_method_4_code
def y_KReader_leafs : MethodName := ⟨"MarkupJudgeModel$Reader", "leafs", "(I)I"⟩
abbrev b_KReader_leafs : ByteArray := prog_17_method_59_code
def y_KReader_leave : MethodName := ⟨"MarkupJudgeModel$Reader", "leave", "(I)V"⟩
abbrev b_KReader_leave : ByteArray := prog_17_method_58_code
def y_KReader_letter : MethodName := ⟨"MarkupJudgeModel$Reader", "letter", "(I)I"⟩
abbrev b_KReader_letter : ByteArray := prog_17_method_106_code
def y_KReader_letters : MethodName := ⟨"MarkupJudgeModel$Reader", "letters", "()I"⟩
abbrev b_KReader_letters : ByteArray := prog_17_method_105_code
def y_KReader_list : MethodName := ⟨"MarkupJudgeModel$Reader", "list", "(II)V"⟩
abbrev b_KReader_list : ByteArray := prog_17_method_50_code
def y_KReader_lists : MethodName := ⟨"MarkupJudgeModel$Reader", "lists", "()V"⟩
abbrev b_KReader_lists : ByteArray := prog_17_method_97_code
def y_KReader_literal : MethodName := ⟨"MarkupJudgeModel$Reader", "literal", "(I)I"⟩
abbrev b_KReader_literal : ByteArray := prog_17_method_22_code
def y_KReader_makes : MethodName := ⟨"MarkupJudgeModel$Reader", "makes", "(II)Z"⟩
abbrev b_KReader_makes : ByteArray := prog_17_method_63_code
def y_KReader_meanSame : MethodName := ⟨"MarkupJudgeModel$Reader", "meanSame", "(III)Z"⟩
abbrev b_KReader_meanSame : ByteArray := prog_17_method_101_code
def y_KReader_means : MethodName := ⟨"MarkupJudgeModel$Reader", "means", "(II)Z"⟩
abbrev b_KReader_means : ByteArray := prog_17_method_100_code
def y_KReader_meant : MethodName := ⟨"MarkupJudgeModel$Reader", "meant", "([II)I"⟩
abbrev b_KReader_meant : ByteArray := prog_17_method_26_code
def y_KReader_mixed : MethodName := ⟨"MarkupJudgeModel$Reader", "mixed", "(I)I"⟩
abbrev b_KReader_mixed : ByteArray := prog_17_method_51_code
def y_KReader_model : MethodName := ⟨"MarkupJudgeModel$Reader", "model", "(I)I"⟩
abbrev b_KReader_model : ByteArray := prog_17_method_53_code
def y_KReader_name : MethodName := ⟨"MarkupJudgeModel$Reader", "name", "(I)I"⟩
abbrev b_KReader_name : ByteArray := prog_17_method_20_code
def y_KReader_naming : MethodName := ⟨"MarkupJudgeModel$Reader", "naming", "(IZ)I"⟩
abbrev b_KReader_naming : ByteArray := prog_17_method_19_code
def y_KReader_newNode : MethodName := ⟨"MarkupJudgeModel$Reader", "newNode", "(III)I"⟩
abbrev b_KReader_newNode : ByteArray := prog_17_method_52_code
def y_KReader_node : MethodName := ⟨"MarkupJudgeModel$Reader", "node", "()Z"⟩
abbrev b_KReader_node : ByteArray := prog_17_method_41_code
def y_KReader_normalise : MethodName := ⟨"MarkupJudgeModel$Reader", "normalise", "(II)I"⟩
abbrev b_KReader_normalise : ByteArray := prog_17_method_93_code
def y_KReader_notation : MethodName := ⟨"MarkupJudgeModel$Reader", "notation", "()V"⟩
abbrev b_KReader_notation : ByteArray := prog_17_method_74_code
def y_KReader_often : MethodName := ⟨"MarkupJudgeModel$Reader", "often", "(I)I"⟩
abbrev b_KReader_often : ByteArray := prog_17_method_54_code
def y_KReader_outerItem : MethodName := ⟨"MarkupJudgeModel$Reader", "outerItem", "()V"⟩
abbrev b_KReader_outerItem : ByteArray := prog_17_method_35_code
def y_KReader_outside : MethodName := ⟨"MarkupJudgeModel$Reader", "outside", "(I)I"⟩
abbrev b_KReader_outside : ByteArray := prog_17_method_24_code
def y_KReader_pair : MethodName := ⟨"MarkupJudgeModel$Reader", "pair", "([BIZ)I"⟩
abbrev b_KReader_pair : ByteArray := prog_17_method_12_code
def y_KReader_parameterReference : MethodName := ⟨"MarkupJudgeModel$Reader", "parameterReference", "()V"⟩
abbrev b_KReader_parameterReference : ByteArray := prog_17_method_45_code
def y_KReader_pop : MethodName := ⟨"MarkupJudgeModel$Reader", "pop", "()V"⟩
abbrev b_KReader_pop : ByteArray := prog_17_method_32_code
def y_KReader_publicLiteral : MethodName := ⟨"MarkupJudgeModel$Reader", "publicLiteral", "(I)I"⟩
abbrev b_KReader_publicLiteral : ByteArray := prog_17_method_23_code
def y_KReader_quoted : MethodName := ⟨"MarkupJudgeModel$Reader", "quoted", "(ILjava/lang/String;)I"⟩
abbrev b_KReader_quoted : ByteArray := prog_17_method_36_code
def y_KReader_readLetters : MethodName := ⟨"MarkupJudgeModel$Reader", "readLetters", "(LMarkupJudgeModel$Doc;II)Z"⟩
abbrev b_KReader_readLetters : ByteArray := prog_17_method_109_code
def y_KReader_reference : MethodName := ⟨"MarkupJudgeModel$Reader", "reference", "(I)I"⟩
abbrev b_KReader_reference : ByteArray := prog_17_method_25_code
def y_KReader_run : MethodName := ⟨"MarkupJudgeModel$Reader", "run", "()V"⟩
abbrev b_KReader_run : ByteArray := prog_17_method_79_code
def y_KReader_section : MethodName := ⟨"MarkupJudgeModel$Reader", "section", "()V"⟩
abbrev b_KReader_section : ByteArray := prog_17_method_78_code
def y_KReader_spaces : MethodName := ⟨"MarkupJudgeModel$Reader", "spaces", "(I)I"⟩
abbrev b_KReader_spaces : ByteArray := prog_17_method_18_code
def y_KReader_spacesOf : MethodName := ⟨"MarkupJudgeModel$Reader", "spacesOf", "(I)V"⟩
abbrev b_KReader_spacesOf : ByteArray := prog_17_method_102_code
def y_KReader_spoil : MethodName := ⟨"MarkupJudgeModel$Reader", "spoil", "()V"⟩
abbrev b_KReader_spoil : ByteArray := prog_17_method_76_code
def y_KReader_subsetItem : MethodName := ⟨"MarkupJudgeModel$Reader", "subsetItem", "()V"⟩
abbrev b_KReader_subsetItem : ByteArray := prog_17_method_44_code
def y_KReader_tag : MethodName := ⟨"MarkupJudgeModel$Reader", "tag", "()V"⟩
abbrev b_KReader_tag : ByteArray := prog_17_method_85_code
def y_KReader_touch : MethodName := ⟨"MarkupJudgeModel$Reader", "touch", "()V"⟩
abbrev b_KReader_touch : ByteArray := prog_17_method_75_code
def y_KReader_typeAt : MethodName := ⟨"MarkupJudgeModel$Reader", "typeAt", "(I)I"⟩
abbrev b_KReader_typeAt : ByteArray := prog_17_method_65_code
def y_KReader_undeclared : MethodName := ⟨"MarkupJudgeModel$Reader", "undeclared", "()Z"⟩
abbrev b_KReader_undeclared : ByteArray := prog_17_method_83_code
def y_KReader_unit : MethodName := ⟨"MarkupJudgeModel$Reader", "unit", "([BIIZ)I"⟩
abbrev b_KReader_unit : ByteArray := prog_17_method_13_code
def y_KReader_value : MethodName := ⟨"MarkupJudgeModel$Reader", "value", "(I)I"⟩
abbrev b_KReader_value : ByteArray := prog_17_method_27_code
def y_KReader_valueReference : MethodName := ⟨"MarkupJudgeModel$Reader", "valueReference", "(II)I"⟩
abbrev b_KReader_valueReference : ByteArray := prog_17_method_92_code
def y_KReader_word : MethodName := ⟨"MarkupJudgeModel$Reader", "word", "(ILjava/lang/String;)I"⟩
abbrev b_KReader_word : ByteArray := prog_17_method_16_code
def y_KReader_wordsOf : MethodName := ⟨"MarkupJudgeModel$Reader", "wordsOf", "(IZ)V"⟩
abbrev b_KReader_wordsOf : ByteArray := prog_17_method_99_code
def y_KReader_written : MethodName := ⟨"MarkupJudgeModel$Reader", "written", "(I)Z"⟩
abbrev b_KReader_written : ByteArray := prog_17_method_34_code
def y_KWriter_comesFirst : MethodName := ⟨"MarkupJudgeModel$Writer", "comesFirst", "(IIIZ)Z"⟩
abbrev b_KWriter_comesFirst : ByteArray := prog_18_method_12_code
def y_KWriter_compareMeanings : MethodName := ⟨"MarkupJudgeModel$Writer", "compareMeanings", "(II)I"⟩
abbrev b_KWriter_compareMeanings : ByteArray := prog_18_method_10_code
def y_KWriter_compareNames : MethodName := ⟨"MarkupJudgeModel$Writer", "compareNames", "(II)I"⟩
abbrev b_KWriter_compareNames : ByteArray := prog_18_method_8_code
def y_KWriter_escape : MethodName := ⟨"MarkupJudgeModel$Writer", "escape", "(IZ)V"⟩
abbrev b_KWriter_escape : ByteArray := prog_18_method_6_code
def y_KWriter_isBeside : MethodName := ⟨"MarkupJudgeModel$Writer", "isBeside", "(LMarkupJudgeModel$Doc;LMarkupJudgeModel$Reader;)Z"⟩
abbrev b_KWriter_isBeside : ByteArray := prog_18_method_20_code
def y_KWriter_isNews : MethodName := ⟨"MarkupJudgeModel$Writer", "isNews", "(II)Z"⟩
abbrev b_KWriter_isNews : ByteArray := prog_18_method_13_code
def y_KWriter_length : MethodName := ⟨"MarkupJudgeModel$Writer", "length", "(I)I"⟩
abbrev b_KWriter_length : ByteArray := prog_18_method_3_code
def y_KWriter_meaning : MethodName := ⟨"MarkupJudgeModel$Writer", "meaning", "(II)I"⟩
abbrev b_KWriter_meaning : ByteArray := prog_18_method_11_code
def y_KWriter_meant : MethodName := ⟨"MarkupJudgeModel$Writer", "meant", "(II)I"⟩
abbrev b_KWriter_meant : ByteArray := prog_18_method_9_code
def y_KWriter_name : MethodName := ⟨"MarkupJudgeModel$Writer", "name", "(I)V"⟩
abbrev b_KWriter_name : ByteArray := prog_18_method_5_code
def y_KWriter_pick : MethodName := ⟨"MarkupJudgeModel$Writer", "pick", "(IZ)I"⟩
abbrev b_KWriter_pick : ByteArray := prog_18_method_14_code
def y_KWriter_put : MethodName := ⟨"MarkupJudgeModel$Writer", "put", "(I)V"⟩
abbrev b_KWriter_put : ByteArray := prog_18_method_2_code
def y_KWriter_say : MethodName := ⟨"MarkupJudgeModel$Writer", "say", "(Ljava/lang/String;)V"⟩
abbrev b_KWriter_say : ByteArray := prog_18_method_4_code
def y_KWriter_start : MethodName := ⟨"MarkupJudgeModel$Writer", "start", "(I)V"⟩
abbrev b_KWriter_start : ByteArray := prog_18_method_15_code
def y_KWriter_target : MethodName := ⟨"MarkupJudgeModel$Writer", "target", "(IZ)V"⟩
abbrev b_KWriter_target : ByteArray := prog_18_method_16_code
def y_KWriter_value : MethodName := ⟨"MarkupJudgeModel$Writer", "value", "(I)V"⟩
abbrev b_KWriter_value : ByteArray := prog_18_method_7_code
def y_KWriter_write : MethodName := ⟨"MarkupJudgeModel$Writer", "write", "()V"⟩
abbrev b_KWriter_write : ByteArray := prog_18_method_17_code
def y_KWriter_writeRow : MethodName := ⟨"MarkupJudgeModel$Writer", "writeRow", "(LMarkupJudgeModel$Doc;Z)I"⟩
abbrev b_KWriter_writeRow : ByteArray := prog_18_method_18_code
def y_KWriter_writeTo : MethodName := ⟨"MarkupJudgeModel$Writer", "writeTo", "(LMarkupJudgeModel$Doc;LMarkupJudgeModel$Reader;)V"⟩
abbrev b_KWriter_writeTo : ByteArray := prog_18_method_19_code
def fkT : List (List (Nat ⊕ Nat)) := [[.inr 100, .inl 0, .inr 1, .inr 2, .inr 3, .inr 4, .inr 5, .inr 6, .inr 7, .inr 8, .inr 10, .inr 11, .inl 1, .inl 0, .inl 0],
  [.inl 3, .inr 101, .inl 3, .inl 0, .inl 0, .inl 1, .inl 1, .inr 102, .inr 103, .inr 104, .inr 105, .inr 106, .inl 3, .inl 0, .inl 0, .inr 155, .inl 0],
  [.inr 1, .inr 101, .inl 0, .inl 0, .inl 0, .inl 0, .inl 0, .inl 0, .inl 0, .inl 0, .inl 0, .inl 0],
  [.inr 1, .inr 2, .inr 107, .inr 108, .inr 109, .inl 0, .inr 114, .inr 115, .inr 110, .inr 111, .inr 112, .inr 113, .inl 0, .inl 0, .inl 0, .inl 1, .inl 1],
  [.inr 147, .inr 116, .inr 117, .inl 0, .inr 125, .inr 148, .inr 118, .inr 119, .inr 120, .inr 121, .inr 122, .inr 123, .inl 0, .inr 126, .inl 0, .inr 124, .inl 0, .inr 127, .inl 0],
  [.inr 1, .inr 2, .inr 3, .inr 4, .inr 128, .inl 1, .inl 1, .inl 0, .inl 0, .inl 0],
  [.inl 3, .inl 0, .inl 0, .inl 0, .inr 146, .inr 129, .inr 130, .inr 131, .inr 132, .inr 133, .inl 0, .inr 161, .inr 134, .inr 135, .inr 136, .inl 0, .inl 0],
  [.inr 1, .inr 2, .inr 3, .inr 4, .inr 5, .inr 6],
  [.inr 1, .inr 2, .inr 3, .inr 4, .inr 5, .inr 6, .inr 9, .inr 149, .inr 150, .inr 151, .inr 152, .inr 153, .inr 154, .inl 0],
  [.inr 1, .inr 2, .inr 137, .inl 0, .inr 138, .inr 139, .inr 140, .inr 141, .inr 142, .inr 143, .inr 144, .inr 145, .inl 1],
  [.inr 1, .inr 6, .inr 156, .inr 157, .inr 158, .inr 159, .inr 160, .inl 1],
  [.inr 1, .inr 6, .inr 10, .inl 2, .inl 0, .inl 2, .inl 0, .inl 1, .inl 0, .inl 1, .inr 164],
  [.inl 3, .inl 3, .inr 165, .inl 0, .inr 16, .inr 14, .inl 1, .inr 15, .inr 244, .inl 0, .inr 17, .inl 0, .inl 0, .inl 0],
  [.inr 212, .inl 0, .inr 213, .inr 214, .inr 215, .inr 211, .inl 0],
  [.inr 13, .inr 223, .inl 0, .inr 216, .inr 217, .inr 218, .inr 219, .inl 0, .inr 224, .inr 225, .inr 226, .inr 227, .inr 228, .inr 229, .inl 0, .inr 220, .inl 0, .inl 0, .inr 221, .inr 222, .inl 0, .inl 0, .inl 4],
  [.inr 13, .inr 237, .inl 0, .inr 230, .inr 231, .inr 232, .inr 233, .inl 0, .inr 238, .inr 239, .inr 240, .inr 241, .inr 242, .inr 243, .inl 0, .inr 234, .inl 0, .inl 0, .inr 235, .inr 236, .inl 0, .inl 0, .inl 4],
  [.inl 0, .inl 0, .inl 2, .inl 0, .inl 0, .inr 176, .inl 0, .inl 0, .inl 1, .inr 177, .inr 178, .inr 179, .inr 180, .inr 181, .inl 0, .inl 0, .inl 0, .inl 0, .inl 0, .inl 0, .inl 1, .inl 1, .inl 1, .inl 1, .inl 0, .inl 0, .inl 0, .inr 182, .inr 183, .inr 184, .inr 185, .inr 186, .inl 0, .inr 187, .inl 0, .inr 188, .inr 189, .inr 190, .inr 191, .inr 192, .inl 0, .inr 193, .inr 194, .inr 195, .inr 196, .inr 197, .inr 198, .inl 0, .inr 199, .inr 200, .inr 201, .inr 202, .inr 203, .inr 204, .inr 205, .inr 206, .inl 0, .inr 207, .inl 0, .inr 166, .inr 167, .inr 168, .inr 169, .inr 170, .inl 0, .inr 171, .inl 0, .inr 208, .inr 209, .inr 210, .inr 172, .inr 173, .inr 174, .inl 1, .inr 175, .inl 0, .inl 0, .inl 1, .inl 0, .inl 0, .inl 1, .inl 0, .inl 0],
  [.inr 244, .inl 2, .inl 2, .inl 0, .inl 0, .inl 1, .inr 245, .inr 246, .inl 0, .inl 0, .inl 0, .inl 0, .inr 247]]
def kls (o : Nat) : Nat := [0, 1, 2, 3, 4, 5, 6, 7, 8, 9, 10, 11, 12, 13, 14, 14, 15, 16].getD o 99
def rkT : List Nat := [1, 0, 0, 0, 0, 0, 0, 0, 0, 2, 0, 0, 0, 0, 0, 0, 0, 0, 0, 0, 0, 0, 0, 0, 0, 0, 0, 0, 1, 0, 0, 0, 0, 0, 0, 0, 0, 0, 0, 0, 0, 2, 2, 0, 0, 0, 0, 0, 0, 0, 0, 0, 0, 0, 0, 0, 0, 0, 0, 0, 0, 0, 1, 1, 0, 1, 0, 0, 2, 2, 0, 0, 0, 2, 2, 1, 0, 0, 0, 0, 0, 0, 0, 2, 0, 0, 2, 0, 2, 0, 1, 0, 0, 1, 1, 0, 0, 0, 0, 0, 0, 1, 1, 0, 0, 0, 0, 0, 0, 0, 0, 0, 0, 0, 0, 0, 0, 0, 0, 0, 0, 0, 0, 0, 0, 0, 0, 1, 0, 0, 0, 0, 0, 0, 0, 0, 0, 0, 0, 0, 0, 1, 0, 0, 1, 0, 0, 0]
def flT_0 : List (Nat × Nat × Nat) := [(11, 0, 0), (20, 0, 2), (29, 0, 3), (38, 0, 4), (45, 0, 5), (54, 0, 6), (63, 0, 7), (72, 0, 8), (84, 0, 9), (93, 0, 10), (102, 0, 11), (106, 0, 14), (110, 0, 1), (139, 2, 5), (145, 1, 4), (148, 1, 0), (155, 2, 4), (158, 0, 13), (161, 0, 12), (169, 2, 6), (178, 1, 14), (187, 8, 7), (191, 10, 6), (192, 6, 2), (199, 6, 7), (202, 6, 5), (205, 6, 4), (212, 6, 6), (215, 6, 11), (218, 6, 12), (221, 6, 16), (224, 3, 13), (228, 3, 14), (231, 10, 7), (238, 11, 4), (241, 11, 3)]
def flT_1 : List (Nat × Nat × Nat) := [(9, 1, 0), (22, 1, 1), (26, 1, 7), (29, 1, 8), (32, 1, 9), (35, 1, 10), (38, 1, 15), (41, 1, 11), (92, 1, 14), (95, 1, 12), (98, 1, 3), (101, 1, 2), (121, 1, 4), (123, 1, 6), (127, 1, 5), (153, 1, 13), (159, 1, 16)]
def flT_2 : List (Nat × Nat × Nat) := [(9, 2, 0), (15, 1, 1), (21, 2, 1), (22, 1, 2), (26, 2, 2), (29, 1, 3), (32, 2, 3), (35, 2, 4), (38, 2, 5), (41, 2, 6), (102, 2, 8), (105, 2, 9), (116, 2, 10), (119, 2, 11), (130, 2, 7)]
def flT_3 : List (Nat × Nat × Nat) := [(9, 3, 0), (15, 3, 1), (19, 1, 0), (25, 3, 2), (29, 3, 3), (32, 3, 4), (36, 3, 8), (39, 3, 9), (42, 3, 10), (45, 3, 11), (48, 1, 15), (51, 3, 6), (54, 3, 7), (63, 3, 5), (66, 3, 12), (69, 3, 14), (72, 3, 15), (76, 3, 16), (79, 1, 4), (82, 3, 13), (85, 1, 3), (88, 2, 2), (93, 2, 4), (113, 2, 7), (116, 1, 1), (127, 2, 8), (130, 2, 9), (145, 2, 3)]
def flT_4 : List (Nat × Nat × Nat) := [(9, 1, 0), (15, 4, 0), (21, 4, 1), (24, 4, 2), (27, 4, 5), (30, 4, 6), (33, 4, 7), (36, 4, 8), (39, 4, 9), (42, 4, 10), (45, 4, 11), (48, 4, 15), (51, 1, 15), (54, 4, 4), (57, 4, 13), (60, 4, 17), (69, 4, 3), (72, 4, 12), (75, 4, 16), (78, 4, 18), (81, 4, 14)]
def flT_5 : List (Nat × Nat × Nat) := [(11, 5, 0), (17, 5, 1), (21, 5, 2), (25, 5, 3), (29, 1, 0), (40, 5, 4), (44, 5, 5), (48, 5, 6), (66, 2, 2), (99, 5, 7), (112, 3, 12), (140, 2, 4), (181, 5, 8), (184, 5, 9), (204, 4, 16), (255, 2, 10), (258, 2, 11)]
def flT_6 : List (Nat × Nat × Nat) := [(9, 6, 0), (15, 6, 4), (19, 6, 5), (22, 6, 6), (25, 6, 7), (28, 6, 8), (31, 6, 9), (34, 6, 11), (37, 6, 12), (40, 6, 13), (43, 6, 14), (46, 6, 3), (49, 6, 1), (52, 6, 2), (55, 6, 10), (58, 6, 15), (61, 6, 16)]
def flT_7 : List (Nat × Nat × Nat) := [(9, 7, 0), (15, 7, 1), (19, 7, 2), (23, 7, 3), (27, 7, 4), (31, 7, 5), (43, 2, 3), (47, 2, 2), (50, 1, 1), (64, 2, 4), (67, 3, 12), (72, 1, 2), (75, 2, 5), (82, 5, 6), (91, 6, 3), (105, 6, 2), (158, 3, 15), (164, 1, 5), (199, 5, 5), (221, 2, 8), (224, 2, 9), (227, 2, 10), (230, 2, 11), (259, 6, 4), (278, 1, 15), (290, 4, 6), (304, 4, 13), (307, 4, 12), (310, 4, 7), (313, 4, 5), (316, 4, 8), (319, 4, 11)]
def flT_8 : List (Nat × Nat × Nat) := [(9, 8, 0), (15, 8, 1), (19, 8, 2), (23, 8, 3), (27, 8, 4), (31, 8, 5), (35, 8, 6), (39, 8, 7), (43, 6, 4), (48, 8, 8), (51, 8, 9), (54, 8, 10), (57, 4, 0), (62, 8, 11), (65, 4, 5), (68, 8, 12), (77, 5, 5), (83, 5, 7), (87, 4, 18), (90, 3, 14), (113, 6, 2), (119, 4, 3), (122, 6, 5), (125, 4, 4), (128, 4, 1), (131, 4, 2), (158, 2, 2), (163, 1, 3), (166, 2, 3), (191, 1, 15), (194, 6, 9), (207, 6, 8), (210, 6, 6), (213, 6, 13), (216, 6, 12), (219, 6, 11), (224, 4, 7), (227, 4, 8), (228, 4, 13), (231, 4, 12), (234, 4, 11), (237, 4, 6), (247, 4, 9), (250, 4, 10), (253, 4, 15), (256, 1, 8), (268, 8, 13), (271, 6, 7), (278, 1, 7), (281, 1, 1), (287, 1, 14), (297, 4, 17)]
def flT_9 : List (Nat × Nat × Nat) := [(11, 9, 0), (15, 9, 1), (19, 9, 2), (23, 9, 4), (26, 9, 5), (29, 9, 6), (32, 9, 7), (36, 9, 8), (39, 9, 9), (42, 9, 10), (45, 9, 11), (48, 2, 2), (54, 1, 3), (59, 2, 3), (62, 9, 3), (137, 1, 15), (140, 9, 12)]
def flT_10 : List (Nat × Nat × Nat) := [(9, 10, 0), (15, 10, 1), (19, 1, 15), (25, 10, 2), (28, 10, 3), (31, 10, 4), (34, 6, 11), (39, 10, 5), (42, 10, 6), (54, 10, 7), (65, 6, 15), (69, 6, 14), (76, 6, 5), (89, 6, 2), (92, 6, 4), (98, 6, 10), (101, 1, 8), (114, 1, 7), (124, 6, 12), (127, 6, 6), (130, 6, 7)]
def flT_11 : List (Nat × Nat × Nat) := [(9, 11, 0), (15, 11, 1), (19, 11, 2), (24, 11, 3), (28, 11, 5), (31, 6, 11), (37, 11, 10), (40, 11, 6), (44, 11, 7), (48, 11, 9), (51, 11, 8), (54, 6, 15), (57, 6, 14), (74, 6, 2), (77, 11, 4), (88, 6, 4), (94, 6, 6), (97, 6, 7), (117, 6, 12), (128, 6, 5), (133, 1, 1), (145, 1, 8)]
def flT_12 : List (Nat × Nat × Nat) := [(26, 12, 2), (37, 12, 4), (54, 12, 5), (58, 14, 0), (62, 12, 7), (65, 12, 8), (73, 12, 10), (77, 12, 13), (82, 12, 0), (85, 12, 1), (88, 12, 11), (91, 12, 3), (102, 12, 6), (106, 15, 3), (109, 12, 12), (110, 15, 4), (111, 14, 18), (115, 14, 19), (118, 14, 7), (124, 14, 6), (127, 14, 4), (138, 14, 3), (144, 14, 5), (147, 14, 8), (150, 14, 10), (153, 14, 1), (156, 14, 9), (159, 14, 20), (162, 14, 21), (171, 14, 14), (188, 12, 9)]
def flT_13 : List (Nat × Nat × Nat) := [(9, 13, 5), (15, 13, 0), (18, 13, 2), (21, 13, 3), (24, 13, 4), (30, 13, 1), (34, 13, 6)]
def flT_14 : List (Nat × Nat × Nat) := [(9, 14, 3), (15, 14, 4), (18, 14, 5), (21, 14, 6), (25, 14, 15), (28, 14, 18), (31, 14, 19), (34, 14, 0), (38, 14, 22), (42, 14, 1), (45, 14, 8), (48, 14, 9), (51, 14, 10), (54, 14, 11), (58, 14, 12), (61, 14, 13), (69, 14, 2), (73, 14, 7), (76, 14, 14), (79, 14, 16), (82, 14, 17), (85, 14, 20), (88, 14, 21), (117, 13, 0)]
def flT_15 : List (Nat × Nat × Nat) := [(9, 15, 59), (15, 15, 60), (18, 15, 61), (22, 15, 62), (25, 15, 63), (28, 15, 65), (31, 15, 70), (34, 15, 71), (37, 15, 72), (41, 15, 74), (45, 15, 5), (48, 15, 9), (51, 15, 10), (54, 15, 11), (57, 15, 12), (60, 15, 13), (63, 15, 27), (66, 15, 28), (69, 15, 29), (72, 15, 30), (75, 15, 31), (78, 15, 33), (81, 15, 35), (84, 15, 36), (87, 15, 37), (90, 15, 38), (93, 15, 39), (96, 15, 41), (99, 15, 42), (102, 15, 43), (105, 15, 44), (108, 15, 45), (111, 15, 46), (114, 15, 48), (117, 15, 49), (120, 15, 50), (123, 15, 51), (126, 15, 52), (129, 15, 53), (132, 15, 54), (135, 15, 55), (138, 15, 57), (141, 15, 67), (144, 15, 68), (147, 15, 69), (150, 15, 2), (154, 15, 0), (158, 15, 1), (166, 15, 3), (169, 15, 4), (172, 15, 6), (175, 15, 14), (178, 15, 15), (181, 15, 19), (184, 15, 20), (188, 15, 21), (191, 15, 22), (194, 15, 23), (197, 15, 24), (200, 15, 26), (203, 15, 32), (206, 15, 34), (209, 15, 40), (212, 15, 47), (215, 15, 56), (218, 15, 58), (221, 15, 64), (224, 15, 66), (227, 14, 0), (237, 15, 8), (248, 15, 75), (258, 15, 7), (273, 15, 17), (367, 15, 25), (379, 15, 16), (382, 15, 18), (388, 14, 21), (483, 14, 15), (486, 14, 16), (489, 14, 2), (499, 14, 19), (542, 15, 76), (545, 15, 77), (561, 14, 18), (598, 15, 73), (613, 15, 79), (616, 15, 78), (644, 15, 82), (649, 15, 81), (738, 14, 3), (745, 14, 7), (748, 14, 14), (757, 14, 4), (760, 14, 5), (763, 14, 6), (766, 14, 8), (775, 14, 9), (778, 14, 10), (781, 14, 11), (784, 14, 12), (790, 14, 13), (806, 14, 1), (821, 13, 6)]
def flT_16 : List (Nat × Nat × Nat) := [(10, 16, 6), (16, 16, 7), (19, 16, 12), (22, 16, 0), (26, 16, 3), (30, 16, 4), (38, 16, 2), (48, 16, 5), (52, 16, 9), (74, 16, 1), (78, 14, 0), (119, 14, 10), (122, 14, 1), (125, 14, 9), (137, 14, 12), (140, 16, 10), (152, 16, 11), (155, 14, 8), (160, 14, 13), (169, 14, 4), (172, 14, 5), (175, 14, 6), (195, 14, 3), (210, 16, 8), (215, 14, 15), (220, 14, 16)]
def flT : List (List (Nat × Nat × Nat)) := [flT_0, flT_1, flT_2, flT_3, flT_4, flT_5, flT_6, flT_7, flT_8, flT_9, flT_10, flT_11, flT_12, flT_13, flT_14, flT_15, flT_16]
def ksT_0 : List (Nat × (Int32 ⊕ Nat)) := [(116, .inr 1000), (126, .inr 1001), (9, .inl 98304), (10, .inl 65536), (113, .inl 65516)]
def ksT_1 : List (Nat × (Int32 ⊕ Nat)) := [(50, .inr 1064), (56, .inr 1065), (58, .inr 1066), (60, .inr 1067), (62, .inr 1068), (64, .inr 1069), (66, .inr 1070), (68, .inr 1071), (70, .inr 1072), (72, .inr 1073), (74, .inr 1074), (76, .inr 1075), (78, .inr 1076), (80, .inr 1077), (82, .inr 1078), (84, .inr 1079), (86, .inr 1080), (88, .inr 1081), (90, .inr 1082), (15, .inl 65536), (149, .inl 55296), (150, .inl 56319), (151, .inl 56320), (152, .inl 57343)]
def ksT_2 : List (Nat × (Int32 ⊕ Nat)) := [(84, .inr 1050), (90, .inr 1051), (95, .inr 1052), (97, .inr 1053), (108, .inr 1054), (114, .inr 1055), (126, .inr 1056), (128, .inr 1057), (133, .inr 1058), (141, .inr 1059), (143, .inr 1060), (164, .inr 1061), (170, .inr 1062), (175, .inr 1063), (44, .inl 55295), (45, .inl 57344), (46, .inl 65533), (47, .inl 65536), (48, .inl 1114111), (145, .inl 1114112), (183, .inl 1000000)]
def ksT_3 : List (Nat × (Int32 ⊕ Nat)) := [(137, .inr 1046), (148, .inl 1000000)]
def ksT_4 : List (Nat × (Int32 ⊕ Nat)) := []
def ksT_5 : List (Nat × (Int32 ⊕ Nat)) := [(51, .inr 1021), (73, .inr 1022), (79, .inr 1023), (85, .inr 1024), (90, .inr 1025), (120, .inr 1026), (125, .inr 1027), (130, .inr 1028), (135, .inr 1029), (143, .inr 1030), (148, .inr 1031), (153, .inr 1032), (155, .inr 1033), (157, .inr 1034), (167, .inr 1035), (169, .inr 1036), (171, .inr 1037), (173, .inr 1038), (192, .inr 1039), (194, .inr 1040), (196, .inr 1041), (237, .inr 1042), (239, .inr 1043), (241, .inr 1044), (249, .inr 1045), (33, .inl 65536), (191, .inl 1000000)]
def ksT_6 : List (Nat × (Int32 ⊕ Nat)) := []
def ksT_7 : List (Nat × (Int32 ⊕ Nat)) := [(35, .inr 1002), (126, .inr 1003), (132, .inr 1004), (143, .inr 1005), (151, .inr 1006), (153, .inr 1007), (160, .inr 1008), (162, .inr 1009), (167, .inr 1010), (169, .inr 1011), (175, .inr 1012), (183, .inr 1013), (188, .inr 1014), (193, .inr 1015), (195, .inr 1016), (197, .inr 1017), (253, .inr 1018), (265, .inr 1019), (276, .inr 1020), (63, .inl 1000000)]
def ksT_8 : List (Nat × (Int32 ⊕ Nat)) := [(170, .inr 1083), (176, .inr 1084), (169, .inl 1000000)]
def ksT_9 : List (Nat × (Int32 ⊕ Nat)) := [(108, .inr 1047), (114, .inr 1048), (120, .inr 1049), (65, .inl 1000000)]
def ksT_10 : List (Nat × (Int32 ⊕ Nat)) := []
def ksT_11 : List (Nat × (Int32 ⊕ Nat)) := [(111, .inr 1085), (123, .inr 1086), (131, .inr 1087), (141, .inr 1088), (143, .inr 1089), (151, .inr 1090), (153, .inr 1091), (155, .inr 1092), (157, .inr 1093), (159, .inr 1094), (161, .inr 1095), (23, .inl 262144), (173, .inl 65536)]
def ksT_12 : List (Nat × (Int32 ⊕ Nat)) := [(1, .inl 55295), (8, .inl 57344), (9, .inl 65533), (10, .inl 65536), (11, .inl 1114111), (12, .inl 63744), (13, .inl 64975), (14, .inl 65008), (15, .inl 983039), (32, .inl 262144), (33, .inl 50000), (45, .inl 170000), (49, .inl 98400), (50, .inl 32768), (81, .inl 98304)]
def ksT_13 : List (Nat × (Int32 ⊕ Nat)) := []
def ksT_14 : List (Nat × (Int32 ⊕ Nat)) := [(125, .inr 1096), (24, .inl 120000)]
def ksT_15 : List (Nat × (Int32 ⊕ Nat)) := [(322, .inr 1097), (327, .inr 1098), (336, .inr 1099), (344, .inr 1100), (353, .inr 1101), (374, .inr 1102), (407, .inr 1103), (412, .inr 1104), (417, .inr 1105), (419, .inr 1106), (421, .inr 1107), (430, .inr 1108), (435, .inr 1109), (440, .inr 1110), (442, .inr 1111), (444, .inr 1112), (449, .inr 1113), (451, .inr 1114), (453, .inr 1115), (455, .inr 1116), (461, .inr 1117), (463, .inr 1118), (468, .inr 1119), (507, .inr 1120), (512, .inr 1121), (517, .inr 1122), (522, .inr 1123), (527, .inr 1124), (548, .inr 1125), (550, .inr 1126), (573, .inr 1127), (575, .inr 1128), (577, .inr 1129), (582, .inr 1130), (584, .inr 1131), (622, .inr 1132), (628, .inr 1133), (630, .inr 1134), (632, .inr 1135), (634, .inr 1136), (636, .inr 1137), (638, .inr 1138), (640, .inr 1139), (642, .inr 1140), (647, .inr 1141), (652, .inr 1142), (654, .inr 1143), (685, .inr 1144), (690, .inr 1145), (711, .inr 1146), (719, .inr 1147), (724, .inr 1148), (726, .inr 1149), (728, .inr 1150), (730, .inr 1151), (743, .inr 1152), (829, .inr 1153), (834, .inr 1154), (860, .inr 1155), (40, .inl 65536), (265, .inl 55296), (266, .inl 56319), (271, .inl 56320), (272, .inl 57343), (349, .inl 2000000)]
def ksT_16 : List (Nat × (Int32 ⊕ Nat)) := [(91, .inr 1156), (97, .inr 1157), (99, .inr 1158), (101, .inr 1159), (103, .inr 1160), (105, .inr 1161), (107, .inr 1162), (109, .inr 1163), (111, .inr 1164), (113, .inr 1165), (115, .inr 1166), (117, .inr 1167), (132, .inr 1168), (143, .inr 1169), (158, .inr 1170), (193, .inr 1171), (205, .inr 1172), (213, .inr 1173), (218, .inr 1174), (226, .inr 1175), (9, .inl 32768), (37, .inl 262144), (61, .inl 262152), (62, .inl 65536)]
def ksT : List (List (Nat × (Int32 ⊕ Nat))) := [ksT_0, ksT_1, ksT_2, ksT_3, ksT_4, ksT_5, ksT_6, ksT_7, ksT_8, ksT_9, ksT_10, ksT_11, ksT_12, ksT_13, ksT_14, ksT_15, ksT_16]
def stxT : List (List Int32) := [[109, 111, 114, 101, 32, 116, 104, 97, 110, 32, 54, 53, 53, 51, 54, 32, 98, 121, 116, 101, 115],
  [110, 111, 116, 32, 115, 111, 32, 109, 97, 110, 121, 32, 98, 121, 116, 101, 115],
  [60, 63, 120, 109, 108],
  [118, 101, 114, 115, 105, 111, 110],
  [49, 46],
  [101, 110, 99, 111, 100, 105, 110, 103],
  [115, 116, 97, 110, 100, 97, 108, 111, 110, 101],
  [121, 101, 115],
  [110, 111],
  [63, 62],
  [117, 116, 102, 45, 49, 54],
  [117, 116, 102, 45, 56],
  [61],
  [60, 33, 45, 45],
  [60, 63],
  [60, 47],
  [60, 33, 91, 67, 68, 65, 84, 65, 91],
  [60, 33, 68, 79, 67, 84, 89, 80, 69],
  [62],
  [60],
  [47],
  [60, 33, 68, 79, 67, 84, 89, 80, 69],
  [83, 89, 83, 84, 69, 77],
  [80, 85, 66, 76, 73, 67],
  [91],
  [62],
  [60, 33, 45, 45],
  [60, 63],
  [60, 33, 69, 76, 69, 77, 69, 78, 84],
  [60, 33, 65, 84, 84, 76, 73, 83, 84],
  [60, 33, 69, 78, 84, 73, 84, 89],
  [60, 33, 78, 79, 84, 65, 84, 73, 79, 78],
  [93],
  [37],
  [59],
  [69, 77, 80, 84, 89],
  [65, 78, 89],
  [40],
  [35, 80, 67, 68, 65, 84, 65],
  [124],
  [41],
  [42],
  [35, 82, 69, 81, 85, 73, 82, 69, 68],
  [35, 73, 77, 80, 76, 73, 69, 68],
  [35, 70, 73, 88, 69, 68],
  [78, 68, 65, 84, 65],
  [60, 62, 38, 39, 34],
  [42],
  [43],
  [63],
  [60, 33, 45, 45],
  [45, 45],
  [45, 45, 62],
  [60, 63],
  [120, 109, 108],
  [63, 62],
  [60, 33, 91, 67, 68, 65, 84, 65, 91],
  [93, 93, 62],
  [35, 120],
  [35],
  [59],
  [45, 39, 40, 41, 43, 44, 46, 47, 58, 61, 63, 59, 33, 42, 35, 64, 36, 95, 37],
  [83, 89, 83, 84, 69, 77],
  [80, 85, 66, 76, 73, 67],
  [],
  [108, 116],
  [103, 116],
  [97, 109, 112],
  [97, 112, 111, 115],
  [113, 117, 111, 116],
  [120, 109, 108],
  [120, 109, 108, 110, 115],
  [104, 116, 116, 112, 58, 47, 47, 119, 119, 119, 46, 119, 51, 46, 111, 114, 103, 47, 88, 77, 76, 47, 49, 57, 57, 56, 47, 110, 97, 109, 101, 115, 112, 97, 99, 101],
  [104, 116, 116, 112, 58, 47, 47, 119, 119, 119, 46, 119, 51, 46, 111, 114, 103, 47, 50, 48, 48, 48, 47, 120, 109, 108, 110, 115, 47],
  [67, 68, 65, 84, 65],
  [73, 68],
  [73, 68, 82, 69, 70],
  [73, 68, 82, 69, 70, 83],
  [69, 78, 84, 73, 84, 89],
  [69, 78, 84, 73, 84, 73, 69, 83],
  [78, 77, 84, 79, 75, 69, 78],
  [78, 77, 84, 79, 75, 69, 78, 83],
  [78, 79, 84, 65, 84, 73, 79, 78],
  [41],
  [124],
  [61, 34],
  [60, 47],
  [60, 63],
  [38, 35, 120, 68, 59],
  [63, 62],
  [38, 97, 109, 112, 59],
  [38, 108, 116, 59],
  [38, 103, 116, 59],
  [38, 113, 117, 111, 116, 59],
  [38, 35, 120, 57, 59],
  [38, 35, 120, 65, 59],
  [120, 109, 108, 110, 115],
  [45, 39, 40, 41, 43, 44, 46, 47, 58, 61, 63, 59, 33, 42, 35, 64, 36, 95, 37],
  [83, 89, 83, 84, 69, 77],
  [80, 85, 66, 76, 73, 67],
  [59],
  [61],
  [60, 63, 120, 109, 108],
  [60, 33, 45, 45],
  [60, 33, 68, 79, 67, 84, 89, 80, 69],
  [60, 33, 91, 67, 68, 65, 84, 65, 91],
  [60, 47],
  [60, 63],
  [118, 101, 114, 115, 105, 111, 110],
  [49, 46],
  [101, 110, 99, 111, 100, 105, 110, 103],
  [115, 116, 97, 110, 100, 97, 108, 111, 110, 101],
  [121, 101, 115],
  [110, 111],
  [63, 62],
  [117, 116, 102, 45, 49, 54],
  [117, 116, 102, 45, 56],
  [45, 45],
  [45, 45, 62],
  [120, 109, 108],
  [60, 33, 69, 76, 69, 77, 69, 78, 84],
  [60, 33, 65, 84, 84, 76, 73, 83, 84],
  [60, 33, 69, 78, 84, 73, 84, 89],
  [60, 33, 78, 79, 84, 65, 84, 73, 79, 78],
  [62],
  [69, 77, 80, 84, 89],
  [65, 78, 89],
  [40],
  [35, 80, 67, 68, 65, 84, 65],
  [124],
  [41],
  [42],
  [78, 79, 84, 65, 84, 73, 79, 78],
  [67, 68, 65, 84, 65],
  [73, 68],
  [73, 68, 82, 69, 70],
  [73, 68, 82, 69, 70, 83],
  [69, 78, 84, 73, 84, 89],
  [69, 78, 84, 73, 84, 73, 69, 83],
  [78, 77, 84, 79, 75, 69, 78],
  [78, 77, 84, 79, 75, 69, 78, 83],
  [35, 82, 69, 81, 85, 73, 82, 69, 68],
  [35, 73, 77, 80, 76, 73, 69, 68],
  [35, 70, 73, 88, 69, 68],
  [37],
  [78, 68, 65, 84, 65],
  [93, 93, 62],
  [108, 116],
  [103, 116],
  [97, 109, 112],
  [97, 112, 111, 115],
  [113, 117, 111, 116],
  [47, 62],
  [120, 109, 108, 110, 115],
  [104, 116, 116, 112, 58, 47, 47, 119, 119, 119, 46, 119, 51, 46, 111, 114, 103, 47, 88, 77, 76, 47, 49, 57, 57, 56, 47, 110, 97, 109, 101, 115, 112, 97, 99, 101],
  [104, 116, 116, 112, 58, 47, 47, 119, 119, 119, 46, 119, 51, 46, 111, 114, 103, 47, 50, 48, 48, 48, 47, 120, 109, 108, 110, 115, 47],
  [38, 97, 109, 112, 59],
  [38, 108, 116, 59],
  [38, 35, 120, 68, 59],
  [62],
  [38, 103, 116, 59],
  [38, 113, 117, 111, 116, 59],
  [34],
  [38, 35, 120, 57, 59],
  [9],
  [38, 35, 120, 65, 59],
  [10],
  [61, 34],
  [104, 116, 116, 112, 58, 47, 47, 119, 119, 119, 46, 119, 51, 46, 111, 114, 103, 47, 88, 77, 76, 47, 49, 57, 57, 56, 47, 110, 97, 109, 101, 115, 112, 97, 99, 101],
  [120, 109, 108],
  [120, 109, 108, 110, 115],
  [60],
  [32],
  [60, 63],
  [63, 62],
  [60, 47]]
def srT : List (List Int32) := [[0, 128, 2048, 65536], [192, 214, 216, 246, 248, 767, 880, 893, 895, 8191, 8204, 8205, 8304, 8591, 11264, 12271, 12289, 55295, 63744, 64975, 65008, 65533, 65536, 983039]]
def ssT : List (List (Nat × Nat)) := [[], [(137, 2000)], [(49, 2001)], [], [], [], [], [], [], [], [], [], [], [], [], [], []]
def mlT_0 : List (Nat × Nat × MethodName × ByteArray × Nat × Nat × Nat × Nat) := [(121, 0, y_J_take, b_J_take, 3, 1, 0, 0),
    (129, 0, y_J_forget, b_J_forget, 2, 0, 0, 0),
    (132, 0, y_Store_load, b_Store_load, 7, 2, 1, 1),
    (136, 0, y_Reader_start, b_Reader_start, 1, 0, 0, 2),
    (142, 0, y_Reader_fail, b_Reader_fail, 2, 1, 0, 2),
    (151, 0, y_Entities_start, b_Entities_start, 1, 0, 0, 3),
    (152, 0, y_Content_readAll, b_Content_readAll, 4, 0, 0, 7),
    (165, 0, y_Tree_forget, b_Tree_forget, 1, 0, 0, 6),
    (166, 0, y_Validator_countAll, b_Validator_countAll, 1, 0, 0, 8),
    (172, 0, y_Meanings_countAll, b_Meanings_countAll, 6, 1, 0, 10),
    (174, 0, y_Validator_sum, b_Validator_sum, 3, 0, 1, 8),
    (181, 0, y_Entities_forget, b_Entities_forget, 2, 1, 0, 3),
    (183, 0, y_Declared_forget, b_Declared_forget, 2, 1, 0, 4),
    (184, 0, y_Meanings_forget, b_Meanings_forget, 2, 1, 0, 10),
    (185, 0, y_Store_forget, b_Store_forget, 2, 0, 0, 1),
    (186, 0, y_Doctype_forget, b_Doctype_forget, 1, 0, 0, 5),
    (195, 0, y_Tree_has, b_Tree_has, 2, 1, 2, 6),
    (208, 0, y_Store_letter, b_Store_letter, 3, 2, 1, 1),
    (227, 0, y_Meanings_sum, b_Meanings_sum, 3, 0, 1, 10),
    (234, 0, y_Writer_write, b_Writer_write, 3, 0, 2, 11),
    (244, 17, (⟨"", "", ""⟩ : MethodName), ByteArray.empty, 0, 0, 0, 0)]
def mlT_1 : List (Nat × Nat × MethodName × ByteArray × Nat × Nat × Nat × Nat) := [(16, 13, (⟨"", "", ""⟩ : MethodName), ByteArray.empty, 0, 0, 0, 0),
    (44, 15, (⟨"", "", ""⟩ : MethodName), ByteArray.empty, 0, 0, 0, 0),
    (52, 0, y_Store_keep, b_Store_keep, 4, 1, 0, 1),
    (104, 10, (⟨"", "", ""⟩ : MethodName), ByteArray.empty, 0, 0, 0, 0),
    (110, 11, (⟨"", "", ""⟩ : MethodName), ByteArray.empty, 0, 0, 0, 0),
    (114, 0, y_Store_add, b_Store_add, 2, 1, 0, 1),
    (118, 0, y_Store_intern, b_Store_intern, 5, 2, 1, 1),
    (130, 0, y_Store_loadWide, b_Store_loadWide, 8, 3, 1, 1),
    (134, 0, y_Store_loadNarrow, b_Store_loadNarrow, 10, 3, 1, 1),
    (140, 1, y_Reader_isCharacter, b_Reader_isCharacter, 1, 1, 2, 2),
    (146, 0, y_Store_addToText, b_Store_addToText, 2, 1, 0, 1),
    (156, 0, y_Store_find, b_Store_find, 8, 2, 1, 1)]
def mlT_2 : List (Nat × Nat × MethodName × ByteArray × Nat × Nat × Nat × Nat) := [(52, 10, (⟨"", "", ""⟩ : MethodName), ByteArray.empty, 0, 0, 0, 0),
    (58, 11, (⟨"", "", ""⟩ : MethodName), ByteArray.empty, 0, 0, 0, 0),
    (62, 0, y_Reader_at, b_Reader_at, 4, 1, 2, 2),
    (66, 0, y_Reader_fail, b_Reader_fail, 2, 1, 0, 2),
    (70, 1, y_Reader_isSpace, b_Reader_isSpace, 1, 1, 2, 2),
    (74, 0, y_Reader_skipSpace, b_Reader_skipSpace, 3, 0, 2, 2),
    (78, 1, y_Reader_isNoStart, b_Reader_isNoStart, 1, 1, 2, 2),
    (81, 1, y_Reader_isNameCharacter, b_Reader_isNameCharacter, 2, 1, 2, 2),
    (86, 0, y_Reader_need, b_Reader_need, 2, 1, 0, 2),
    (92, 0, y_Reader_seek, b_Reader_seek, 3, 1, 0, 2),
    (99, 0, y_Reader_readName, b_Reader_readName, 3, 0, 1, 2),
    (110, 0, y_Reader_isWrittenAs, b_Reader_isWrittenAs, 6, 3, 2, 2),
    (122, 0, y_Reader_lookForColon, b_Reader_lookForColon, 4, 2, 0, 2),
    (135, 0, y_Reader_skip, b_Reader_skip, 3, 1, 2, 2),
    (138, 0, y_Reader_readNumber, b_Reader_readNumber, 7, 1, 0, 2),
    (146, 13, (⟨"", "", ""⟩ : MethodName), ByteArray.empty, 0, 0, 0, 0),
    (152, 0, y_Reader_peek, b_Reader_peek, 1, 0, 1, 2),
    (155, 0, y_Reader_readLiteral, b_Reader_readLiteral, 3, 0, 0, 2),
    (158, 1, y_Reader_isLetter, b_Reader_isLetter, 1, 1, 2, 2),
    (161, 1, y_Reader_isDigit, b_Reader_isDigit, 1, 1, 2, 2),
    (166, 12, (⟨"", "", ""⟩ : MethodName), ByteArray.empty, 0, 0, 0, 0),
    (172, 0, y_Reader_needSpace, b_Reader_needSpace, 1, 0, 0, 2),
    (177, 0, y_Reader_readPublicLiteral, b_Reader_readPublicLiteral, 3, 0, 0, 2),
    (180, 0, y_Reader_atQuote, b_Reader_atQuote, 2, 0, 2, 2),
    (184, 0, y_Reader_readReference, b_Reader_readReference, 1, 0, 0, 2)]
def mlT_3 : List (Nat × Nat × MethodName × ByteArray × Nat × Nat × Nat × Nat) := [(57, 16, (⟨"", "", ""⟩ : MethodName), ByteArray.empty, 0, 0, 0, 0),
    (96, 0, y_Reader_peek, b_Reader_peek, 1, 0, 1, 2),
    (100, 0, y_Reader_readReference, b_Reader_readReference, 1, 0, 0, 2),
    (103, 0, y_Entities_addReference, b_Entities_addReference, 3, 1, 0, 3),
    (107, 0, y_Reader_fail, b_Reader_fail, 2, 1, 0, 2),
    (110, 0, y_Store_add, b_Store_add, 2, 1, 0, 1),
    (119, 1, y_Reader_isCharacter, b_Reader_isCharacter, 1, 1, 2, 2),
    (123, 0, y_Entities_enter, b_Entities_enter, 3, 2, 0, 3),
    (133, 0, y_Store_find, b_Store_find, 8, 2, 1, 1),
    (139, 11, (⟨"", "", ""⟩ : MethodName), ByteArray.empty, 0, 0, 0, 0),
    (149, 0, y_Entities_leave, b_Entities_leave, 1, 0, 0, 3),
    (152, 0, y_Entities_mean, b_Entities_mean, 4, 1, 1, 3),
    (156, 1, y_Reader_isSpace, b_Reader_isSpace, 1, 1, 2, 2),
    (159, 0, y_Store_internAdded, b_Store_internAdded, 4, 1, 1, 1)]
def mlT_4 : List (Nat × Nat × MethodName × ByteArray × Nat × Nat × Nat × Nat) := [(63, 16, (⟨"", "", ""⟩ : MethodName), ByteArray.empty, 0, 0, 0, 0),
    (84, 0, y_Declared_find, b_Declared_find, 5, 2, 1, 4)]
def mlT_5 : List (Nat × Nat × MethodName × ByteArray × Nat × Nat × Nat × Nat) := [(34, 13, (⟨"", "", ""⟩ : MethodName), ByteArray.empty, 0, 0, 0, 0),
    (53, 0, y_Reader_need, b_Reader_need, 2, 1, 0, 2),
    (59, 0, y_Reader_needSpace, b_Reader_needSpace, 1, 0, 0, 2),
    (62, 0, y_Reader_readName, b_Reader_readName, 3, 0, 1, 2),
    (69, 0, y_Reader_skipSpace, b_Reader_skipSpace, 3, 0, 2, 2),
    (75, 0, y_Reader_at, b_Reader_at, 4, 1, 2, 2),
    (81, 0, y_Reader_readOutside, b_Reader_readOutside, 2, 1, 0, 2),
    (87, 0, y_Reader_skip, b_Reader_skip, 3, 1, 2, 2),
    (92, 0, y_Reader_fail, b_Reader_fail, 2, 1, 0, 2),
    (96, 0, y_Store_intern, b_Store_intern, 5, 2, 1, 1),
    (102, 0, y_Reader_peek, b_Reader_peek, 1, 0, 1, 2),
    (105, 1, y_Reader_isSpace, b_Reader_isSpace, 1, 1, 2, 2),
    (109, 0, y_Doctype_readParameterReference, b_Doctype_readParameterReference, 3, 0, 0, 5),
    (117, 0, y_Doctype_readEnd, b_Doctype_readEnd, 1, 0, 0, 5),
    (122, 0, y_Reader_readComment, b_Reader_readComment, 1, 0, 0, 2),
    (127, 0, y_Reader_readInstruction, b_Reader_readInstruction, 1, 0, 0, 2),
    (132, 0, y_Doctype_readElement, b_Doctype_readElement, 5, 0, 0, 5),
    (137, 0, y_Doctype_readAttributes, b_Doctype_readAttributes, 13, 1, 0, 5),
    (145, 0, y_Doctype_readEntity, b_Doctype_readEntity, 5, 0, 0, 5),
    (150, 0, y_Doctype_readNotation, b_Doctype_readNotation, 3, 0, 0, 5),
    (159, 0, y_Store_find, b_Store_find, 8, 2, 1, 1),
    (162, 0, y_Entities_enterParameter, b_Entities_enterParameter, 3, 1, 0, 3),
    (175, 0, y_Doctype_readMixed, b_Doctype_readMixed, 3, 0, 0, 5),
    (178, 0, y_Doctype_readModel, b_Doctype_readModel, 5, 0, 0, 5),
    (187, 0, y_Declared_addElement, b_Declared_addElement, 4, 3, 0, 4),
    (198, 14, (⟨"", "", ""⟩ : MethodName), ByteArray.empty, 0, 0, 0, 0),
    (201, 0, y_Doctype_skipHowOften, b_Doctype_skipHowOften, 2, 0, 0, 5),
    (207, 0, y_Doctype_readType, b_Doctype_readType, 4, 1, 1, 5),
    (211, 0, y_Doctype_readHow, b_Doctype_readHow, 1, 0, 1, 5),
    (214, 0, y_Entities_readValue, b_Entities_readValue, 8, 0, 1, 3),
    (217, 0, y_Entities_keepValue, b_Entities_keepValue, 6, 2, 1, 3),
    (220, 0, y_Reader_checkValue, b_Reader_checkValue, 4, 0, 0, 2),
    (223, 0, y_Declared_addAttribute, b_Declared_addAttribute, 8, 6, 0, 4),
    (227, 0, y_Doctype_readList, b_Doctype_readList, 6, 2, 0, 5),
    (231, 0, y_Reader_readToken, b_Reader_readToken, 3, 0, 1, 2),
    (234, 0, y_Declared_addListed, b_Declared_addListed, 2, 1, 0, 4),
    (243, 0, y_Reader_atQuote, b_Reader_atQuote, 2, 0, 2, 2),
    (246, 0, y_Reader_checkEntityText, b_Reader_checkEntityText, 6, 0, 0, 2),
    (251, 0, y_Reader_lookForColon, b_Reader_lookForColon, 4, 2, 0, 2),
    (261, 0, y_Entities_declare, b_Entities_declare, 10, 4, 0, 3),
    (265, 0, y_Declared_addNotation, b_Declared_addNotation, 2, 1, 0, 4)]
def mlT_6 : List (Nat × Nat × MethodName × ByteArray × Nat × Nat × Nat × Nat) := [(64, 0, y_Tree_note, b_Tree_note, 2, 1, 0, 6),
    (68, 0, y_Tree_put, b_Tree_put, 2, 1, 0, 6)]
def mlT_7 : List (Nat × Nat × MethodName × ByteArray × Nat × Nat × Nat × Nat) := [(37, 0, y_Reader_at, b_Reader_at, 4, 1, 2, 2),
    (56, 1, y_Reader_isSpace, b_Reader_isSpace, 1, 1, 2, 2),
    (60, 0, y_Content_readHead, b_Content_readHead, 5, 0, 0, 7),
    (78, 0, y_Content_finish, b_Content_finish, 1, 0, 2, 7),
    (88, 0, y_Doctype_readItem, b_Doctype_readItem, 3, 0, 0, 5),
    (95, 0, y_Content_isTagInside, b_Content_isTagInside, 2, 0, 2, 7),
    (98, 0, y_Content_isTagAround, b_Content_isTagAround, 2, 0, 2, 7),
    (101, 0, y_Content_readTag, b_Content_readTag, 12, 1, 0, 7),
    (108, 0, y_Reader_fail, b_Reader_fail, 2, 1, 0, 2),
    (112, 0, y_Entities_elementBefore, b_Entities_elementBefore, 1, 0, 1, 3),
    (116, 0, y_Entities_leave, b_Entities_leave, 1, 0, 0, 3),
    (119, 0, y_Reader_need, b_Reader_need, 2, 1, 0, 2),
    (123, 0, y_Reader_needSpace, b_Reader_needSpace, 1, 0, 0, 2),
    (128, 0, y_Content_readQuoteOf, b_Content_readQuoteOf, 3, 1, 1, 7),
    (134, 0, y_Content_readLetters, b_Content_readLetters, 5, 1, 0, 7),
    (137, 0, y_Content_readQuote, b_Content_readQuote, 2, 1, 0, 7),
    (140, 0, y_Reader_skipSpace, b_Reader_skipSpace, 3, 0, 2, 2),
    (145, 0, y_Reader_peek, b_Reader_peek, 1, 0, 1, 2),
    (148, 1, y_Reader_isLetter, b_Reader_isLetter, 1, 1, 2, 2),
    (155, 0, y_Reader_skip, b_Reader_skip, 3, 1, 2, 2),
    (171, 0, y_Reader_isWrittenAs, b_Reader_isWrittenAs, 6, 3, 2, 2),
    (177, 0, y_Reader_atQuote, b_Reader_atQuote, 2, 0, 2, 2),
    (180, 1, y_Reader_isDigit, b_Reader_isDigit, 1, 1, 2, 2),
    (185, 0, y_Reader_readComment, b_Reader_readComment, 1, 0, 0, 2),
    (190, 0, y_Content_readInstruction, b_Content_readInstruction, 1, 0, 0, 7),
    (202, 0, y_Doctype_readBegin, b_Doctype_readBegin, 5, 0, 0, 5),
    (205, 0, y_Content_readReference, b_Content_readReference, 2, 0, 0, 7),
    (208, 0, y_Content_readRun, b_Content_readRun, 4, 0, 0, 7),
    (211, 0, y_Content_readEnd, b_Content_readEnd, 3, 0, 0, 7),
    (214, 0, y_Tree_note, b_Tree_note, 2, 1, 0, 6),
    (217, 0, y_Content_readSection, b_Content_readSection, 2, 0, 0, 7),
    (220, 0, y_Reader_readInstruction, b_Reader_readInstruction, 1, 0, 0, 2),
    (233, 0, y_Tree_addInstruction, b_Tree_addInstruction, 5, 4, 0, 6),
    (237, 0, y_Tree_tooMany, b_Tree_tooMany, 1, 0, 2, 6),
    (240, 0, y_Reader_readReference, b_Reader_readReference, 1, 0, 0, 2),
    (241, 0, y_Entities_mean, b_Entities_mean, 4, 1, 1, 3),
    (245, 0, y_Tree_addCharacter, b_Tree_addCharacter, 2, 1, 0, 6),
    (248, 0, y_Reader_readRun, b_Reader_readRun, 3, 0, 0, 2),
    (249, 0, y_Reader_readSection, b_Reader_readSection, 1, 0, 0, 2),
    (250, 0, y_Reader_readName, b_Reader_readName, 3, 0, 1, 2),
    (255, 0, y_Store_find, b_Store_find, 8, 2, 1, 1),
    (262, 0, y_Tree_endElement, b_Tree_endElement, 1, 0, 0, 6),
    (267, 0, y_Store_intern, b_Store_intern, 5, 2, 1, 1),
    (270, 0, y_Store_newMark, b_Store_newMark, 1, 0, 1, 1),
    (273, 0, y_Tree_beginElement, b_Tree_beginElement, 2, 1, 0, 6),
    (281, 0, y_Reader_checkValue, b_Reader_checkValue, 4, 0, 0, 2),
    (284, 0, y_Declared_find, b_Declared_find, 5, 2, 1, 4),
    (287, 0, y_Entities_readValue, b_Entities_readValue, 8, 0, 1, 3),
    (293, 0, y_Entities_keepValue, b_Entities_keepValue, 6, 2, 1, 3),
    (296, 0, y_Tree_addAttribute, b_Tree_addAttribute, 5, 4, 0, 6),
    (300, 0, y_Content_finishTag, b_Content_finishTag, 6, 3, 0, 7)]
def mlT_8 : List (Nat × Nat × MethodName × ByteArray × Nat × Nat × Nat × Nat) := [(71, 15, (⟨"", "", ""⟩ : MethodName), ByteArray.empty, 0, 0, 0, 0),
    (95, 0, y_Validator_link, b_Validator_link, 4, 0, 0, 8),
    (98, 0, y_Validator_countElements, b_Validator_countElements, 6, 0, 0, 8),
    (101, 0, y_Validator_countTags, b_Validator_countTags, 7, 0, 0, 8),
    (104, 0, y_Validator_countIdentities, b_Validator_countIdentities, 6, 0, 0, 8),
    (107, 0, y_Validator_countReferences, b_Validator_countReferences, 5, 0, 0, 8),
    (110, 0, y_Validator_countAttributes, b_Validator_countAttributes, 8, 0, 0, 8),
    (116, 16, (⟨"", "", ""⟩ : MethodName), ByteArray.empty, 0, 0, 0, 0),
    (134, 0, y_Validator_markMixed, b_Validator_markMixed, 7, 1, 1, 8),
    (138, 0, y_Model_read, b_Model_read, 5, 1, 0, 9),
    (144, 0, y_Model_isDeterministic, b_Model_isDeterministic, 3, 0, 2, 9),
    (148, 0, y_Validator_fits, b_Validator_fits, 9, 3, 2, 8),
    (152, 0, y_Store_newMark, b_Store_newMark, 1, 0, 1, 1),
    (172, 0, y_Reader_at, b_Reader_at, 4, 1, 2, 2),
    (178, 0, y_Reader_skip, b_Reader_skip, 3, 1, 2, 2),
    (181, 0, y_Reader_skipSpace, b_Reader_skipSpace, 3, 0, 2, 2),
    (184, 0, y_Reader_readName, b_Reader_readName, 3, 0, 1, 2),
    (187, 0, y_Store_intern, b_Store_intern, 5, 2, 1, 1),
    (197, 0, y_Model_begin, b_Model_begin, 1, 0, 0, 9),
    (200, 0, y_Model_accept, b_Model_accept, 4, 1, 2, 9),
    (204, 0, y_Model_isComplete, b_Model_isComplete, 1, 0, 2, 9),
    (220, 0, y_Validator_isAsWanted, b_Validator_isAsWanted, 3, 2, 2, 8),
    (240, 0, y_Validator_isMadeOf, b_Validator_isMadeOf, 8, 3, 2, 8),
    (244, 0, y_Validator_isListed, b_Validator_isListed, 5, 2, 2, 8),
    (259, 0, y_Store_letter, b_Store_letter, 3, 2, 1, 1),
    (262, 1, y_Reader_isNameCharacter, b_Reader_isNameCharacter, 2, 1, 2, 2),
    (265, 1, y_Reader_isNoStart, b_Reader_isNoStart, 1, 1, 2, 2),
    (274, 0, y_Validator_countWords, b_Validator_countWords, 10, 3, 0, 8),
    (284, 0, y_Store_find, b_Store_find, 8, 2, 1, 1),
    (290, 0, y_Declared_isEmpty, b_Declared_isEmpty, 3, 1, 2, 4),
    (293, 0, y_Validator_countListed, b_Validator_countListed, 7, 2, 0, 8)]
def mlT_9 : List (Nat × Nat × MethodName × ByteArray × Nat × Nat × Nat × Nat) := [(66, 0, y_Reader_peek, b_Reader_peek, 1, 0, 1, 2),
    (70, 0, y_Model_readHowOften, b_Model_readHowOften, 3, 1, 0, 9),
    (74, 0, y_Model_join, b_Model_join, 3, 1, 0, 9),
    (77, 1, y_Reader_isSpace, b_Reader_isSpace, 1, 1, 2, 2),
    (81, 0, y_Model_readOccurrence, b_Model_readOccurrence, 4, 1, 0, 9),
    (84, 0, y_Reader_readName, b_Reader_readName, 3, 0, 1, 2),
    (87, 13, (⟨"", "", ""⟩ : MethodName), ByteArray.empty, 0, 0, 0, 0),
    (93, 0, y_Store_intern, b_Store_intern, 5, 2, 1, 1),
    (96, 16, (⟨"", "", ""⟩ : MethodName), ByteArray.empty, 0, 0, 0, 0),
    (102, 17, (⟨"", "", ""⟩ : MethodName), ByteArray.empty, 0, 0, 0, 0),
    (110, 0, y_Reader_skip, b_Reader_skip, 3, 1, 2, 2),
    (116, 0, y_Model_followAll, b_Model_followAll, 4, 2, 0, 9),
    (122, 1, y_Model_has, b_Model_has, 3, 3, 2, 9),
    (126, 1, y_Model_unite, b_Model_unite, 5, 4, 0, 9),
    (130, 0, y_Model_isSingle, b_Model_isSingle, 5, 2, 2, 9),
    (134, 0, y_Store_newMark, b_Store_newMark, 1, 0, 1, 1),
    (144, 15, (⟨"", "", ""⟩ : MethodName), ByteArray.empty, 0, 0, 0, 0)]
def mlT_10 : List (Nat × Nat × MethodName × ByteArray × Nat × Nat × Nat × Nat) := [(45, 16, (⟨"", "", ""⟩ : MethodName), ByteArray.empty, 0, 0, 0, 0),
    (51, 15, (⟨"", "", ""⟩ : MethodName), ByteArray.empty, 0, 0, 0, 0),
    (58, 0, y_Meanings_splitAll, b_Meanings_splitAll, 2, 0, 0, 10),
    (61, 0, y_Store_newMark, b_Store_newMark, 1, 0, 1, 1),
    (72, 0, y_Meanings_leave, b_Meanings_leave, 4, 1, 0, 10),
    (79, 0, y_Meanings_enter, b_Meanings_enter, 4, 1, 0, 10),
    (82, 0, y_Meanings_countNames, b_Meanings_countNames, 3, 1, 0, 10),
    (85, 0, y_Meanings_countDeclarations, b_Meanings_countDeclarations, 6, 2, 0, 10),
    (95, 0, y_Meanings_split, b_Meanings_split, 6, 1, 0, 10),
    (104, 0, y_Store_letter, b_Store_letter, 3, 2, 1, 1),
    (108, 1, y_Reader_isNoStart, b_Reader_isNoStart, 1, 1, 2, 2),
    (117, 0, y_Store_intern, b_Store_intern, 5, 2, 1, 1),
    (120, 0, y_Meanings_prefix, b_Meanings_prefix, 2, 1, 1, 10),
    (133, 0, y_Meanings_declares, b_Meanings_declares, 3, 1, 1, 10),
    (136, 0, y_Meanings_countName, b_Meanings_countName, 3, 1, 0, 10),
    (139, 0, y_Meanings_meaning, b_Meanings_meaning, 3, 1, 1, 10),
    (142, 0, y_Meanings_hasBefore, b_Meanings_hasBefore, 4, 2, 2, 10),
    (146, 0, y_Meanings_local, b_Meanings_local, 2, 1, 1, 10),
    (149, 0, y_Meanings_isAbsolute, b_Meanings_isAbsolute, 4, 1, 2, 10),
    (152, 1, y_Reader_isLetter, b_Reader_isLetter, 1, 1, 2, 2),
    (155, 1, y_Reader_isDigit, b_Reader_isDigit, 1, 1, 2, 2)]
def mlT_11 : List (Nat × Nat × MethodName × ByteArray × Nat × Nat × Nat × Nat) := [(60, 0, y_Writer_putCharacter, b_Writer_putCharacter, 3, 2, 0, 11),
    (64, 0, y_Writer_putInstruction, b_Writer_putInstruction, 6, 1, 0, 11),
    (68, 0, y_Writer_putEnd, b_Writer_putEnd, 1, 0, 0, 11),
    (71, 0, y_Writer_putBegin, b_Writer_putBegin, 4, 1, 0, 11),
    (80, 0, y_Meanings_enter, b_Meanings_enter, 4, 1, 0, 10),
    (85, 0, y_Writer_put, b_Writer_put, 2, 1, 0, 11),
    (91, 0, y_Writer_putWord, b_Writer_putWord, 3, 1, 0, 11),
    (100, 0, y_Meanings_declares, b_Meanings_declares, 3, 1, 1, 10),
    (104, 0, y_Meanings_isIdle, b_Meanings_isIdle, 2, 1, 2, 10),
    (108, 0, y_Writer_sort, b_Writer_sort, 3, 1, 0, 11),
    (113, 0, y_Writer_putText, b_Writer_putText, 3, 1, 0, 11),
    (120, 0, y_Writer_putValue, b_Writer_putValue, 3, 1, 0, 11),
    (125, 0, y_Meanings_leave, b_Meanings_leave, 4, 1, 0, 10),
    (138, 0, y_Writer_putBytes, b_Writer_putBytes, 2, 1, 0, 11),
    (147, 0, y_Store_letter, b_Store_letter, 3, 2, 1, 1),
    (163, 10, (⟨"", "", ""⟩ : MethodName), ByteArray.empty, 0, 0, 0, 0),
    (169, 11, (⟨"", "", ""⟩ : MethodName), ByteArray.empty, 0, 0, 0, 0),
    (174, 0, y_Writer_sink, b_Writer_sink, 6, 2, 0, 11),
    (178, 0, y_Writer_swap, b_Writer_swap, 4, 2, 0, 11),
    (181, 0, y_Writer_isBefore, b_Writer_isBefore, 6, 2, 2, 11),
    (185, 0, y_Store_compare, b_Store_compare, 6, 2, 1, 1),
    (188, 0, y_Meanings_meaning, b_Meanings_meaning, 3, 1, 1, 10),
    (191, 0, y_Meanings_local, b_Meanings_local, 2, 1, 1, 10)]
def mlT_12 : List (Nat × Nat × MethodName × ByteArray × Nat × Nat × Nat × Nat) := [(2, 1, y_K_isIn, b_K_isIn, 3, 3, 2, 12),
    (16, 1, y_K_isStart, b_K_isStart, 1, 1, 2, 12),
    (94, 0, y_K_take, b_K_take, 3, 1, 0, 12),
    (98, 0, y_KReader_read, b_KReader_read, 6, 5, 2, 15),
    (121, 0, y_K_isElement, b_K_isElement, 2, 1, 2, 12),
    (130, 0, y_KBook_length, b_KBook_length, 2, 1, 1, 13),
    (134, 0, y_KBook_at, b_KBook_at, 3, 2, 1, 13),
    (141, 0, y_K_letterOf, b_K_letterOf, 3, 2, 1, 12),
    (165, 1, y_K_isLetter, b_K_isLetter, 1, 1, 2, 12),
    (168, 1, y_K_isDigit, b_K_isDigit, 1, 1, 2, 12),
    (174, 0, y_KDoc_isDeclaration, b_KDoc_isDeclaration, 3, 1, 2, 14),
    (177, 0, y_K_isAbsolute, b_K_isAbsolute, 5, 1, 2, 12),
    (180, 0, y_KWriter_writeRow, b_KWriter_writeRow, 3, 2, 1, 16),
    (184, 0, y_K_refusal, b_K_refusal, 4, 0, 1, 12),
    (191, 0, y_KWriter_writeTo, b_KWriter_writeTo, 3, 2, 0, 16),
    (195, 0, y_KReader_readLetters, b_KReader_readLetters, 6, 3, 2, 15),
    (199, 0, y_KWriter_isBeside, b_KWriter_isBeside, 3, 2, 2, 16)]
def mlT_13 : List (Nat × Nat × MethodName × ByteArray × Nat × Nat × Nat × Nat) := [(27, 0, y_KBook_clear, b_KBook_clear, 2, 0, 0, 13),
    (37, 1, y_KBook_bucket, b_KBook_bucket, 5, 3, 1, 13),
    (41, 0, y_KBook_is, b_KBook_is, 6, 4, 2, 13),
    (45, 0, y_KBook_find, b_KBook_find, 5, 3, 1, 13),
    (48, 10, (⟨"", "", ""⟩ : MethodName), ByteArray.empty, 0, 0, 0, 0),
    (54, 0, y_KBook_at, b_KBook_at, 3, 2, 1, 13),
    (58, 11, (⟨"", "", ""⟩ : MethodName), ByteArray.empty, 0, 0, 0, 0)]
def mlT_14 : List (Nat × Nat × MethodName × ByteArray × Nat × Nat × Nat × Nat) := [(64, 0, y_KBook_clear, b_KBook_clear, 2, 0, 0, 13),
    (91, 0, y_KDoc_event, b_KDoc_event, 2, 1, 0, 14),
    (95, 0, y_KDoc_add, b_KDoc_add, 2, 1, 0, 14),
    (98, 0, y_KDoc_same, b_KDoc_same, 6, 4, 2, 14),
    (102, 0, y_KBook_length, b_KBook_length, 2, 1, 1, 13),
    (106, 0, y_KBook_at, b_KBook_at, 3, 2, 1, 13),
    (110, 2, y_K_isStart, b_K_isStart, 1, 1, 2, 12),
    (114, 0, y_KDoc_colon, b_KDoc_colon, 4, 1, 1, 14),
    (118, 0, y_KBook_start, b_KBook_start, 2, 1, 1, 13),
    (121, 0, y_KBook_keep, b_KBook_keep, 6, 3, 1, 13),
    (127, 0, y_KBook_says, b_KBook_says, 4, 2, 2, 13),
    (131, 0, y_KDoc_isDeclaration, b_KDoc_isDeclaration, 3, 1, 2, 14),
    (134, 0, y_KDoc_declares, b_KDoc_declares, 3, 2, 2, 14),
    (138, 10, (⟨"", "", ""⟩ : MethodName), ByteArray.empty, 0, 0, 0, 0),
    (143, 11, (⟨"", "", ""⟩ : MethodName), ByteArray.empty, 0, 0, 0, 0)]
def mlT_15 : List (Nat × Nat × MethodName × ByteArray × Nat × Nat × Nat × Nat) := [(161, 0, y_KDoc_clear, b_KDoc_clear, 2, 0, 0, 14),
    (231, 0, y_KBook_keep, b_KBook_keep, 6, 3, 1, 13),
    (240, 0, y_KReader_unit, b_KReader_unit, 6, 4, 1, 15),
    (244, 0, y_KReader_eight, b_KReader_eight, 9, 3, 1, 15),
    (251, 2, y_K_isCharacter, b_K_isCharacter, 1, 1, 2, 12),
    (255, 0, y_KReader_endLines, b_KReader_endLines, 5, 0, 0, 15),
    (261, 1, y_KReader_pair, b_KReader_pair, 5, 3, 1, 15),
    (267, 2, y_K_isIn, b_K_isIn, 3, 3, 2, 12),
    (276, 10, (⟨"", "", ""⟩ : MethodName), ByteArray.empty, 0, 0, 0, 0),
    (282, 0, y_KReader_look, b_KReader_look, 2, 1, 1, 15),
    (286, 11, (⟨"", "", ""⟩ : MethodName), ByteArray.empty, 0, 0, 0, 0),
    (290, 0, y_KReader_says, b_KReader_says, 4, 2, 2, 15),
    (294, 2, y_K_isSpace, b_K_isSpace, 1, 1, 2, 12),
    (297, 0, y_KReader_anySpaces, b_KReader_anySpaces, 3, 1, 1, 15),
    (300, 2, y_K_isStart, b_K_isStart, 1, 1, 2, 12),
    (303, 2, y_K_isNaming, b_K_isNaming, 1, 1, 2, 12),
    (306, 0, y_KReader_naming, b_KReader_naming, 4, 2, 1, 15),
    (310, 1, y_KReader_isQuote, b_KReader_isQuote, 1, 1, 2, 15),
    (313, 0, y_KReader_literal, b_KReader_literal, 3, 1, 1, 15),
    (316, 2, y_K_isLetter, b_K_isLetter, 1, 1, 2, 12),
    (319, 2, y_K_isDigit, b_K_isDigit, 1, 1, 2, 12),
    (324, 12, (⟨"", "", ""⟩ : MethodName), ByteArray.empty, 0, 0, 0, 0),
    (329, 0, y_KReader_word, b_KReader_word, 3, 2, 1, 15),
    (333, 0, y_KReader_spaces, b_KReader_spaces, 3, 1, 1, 15),
    (338, 0, y_KReader_publicLiteral, b_KReader_publicLiteral, 6, 1, 1, 15),
    (341, 0, y_KReader_name, b_KReader_name, 2, 1, 1, 15),
    (346, 2, y_K_lower, b_K_lower, 1, 1, 1, 12),
    (350, 0, y_KReader_reference, b_KReader_reference, 5, 1, 1, 15),
    (355, 0, y_KReader_begin, b_KReader_begin, 4, 3, 0, 15),
    (359, 0, y_KReader_decode, b_KReader_decode, 10, 2, 2, 15),
    (363, 0, y_KReader_judgeText, b_KReader_judgeText, 1, 0, 2, 15),
    (370, 0, y_KReader_push, b_KReader_push, 4, 3, 0, 15),
    (376, 0, y_KReader_head, b_KReader_head, 10, 0, 0, 15),
    (385, 0, y_KReader_item, b_KReader_item, 1, 0, 0, 15),
    (389, 0, y_KReader_finish, b_KReader_finish, 2, 0, 0, 15),
    (392, 0, y_KReader_fail, b_KReader_fail, 2, 1, 2, 15),
    (395, 0, y_KReader_pop, b_KReader_pop, 1, 0, 0, 15),
    (398, 0, y_KReader_subsetItem, b_KReader_subsetItem, 2, 0, 0, 15),
    (401, 0, y_KReader_contentItem, b_KReader_contentItem, 1, 0, 0, 15),
    (404, 0, y_KReader_outerItem, b_KReader_outerItem, 1, 0, 0, 15),
    (409, 0, y_KReader_comment, b_KReader_comment, 2, 0, 0, 15),
    (414, 0, y_KReader_declaration, b_KReader_declaration, 6, 0, 0, 15),
    (423, 0, y_KReader_instruction, b_KReader_instruction, 8, 1, 0, 15),
    (427, 0, y_KReader_tag, b_KReader_tag, 11, 0, 0, 15),
    (432, 0, y_KReader_equal, b_KReader_equal, 2, 1, 1, 15),
    (437, 0, y_KReader_written, b_KReader_written, 2, 1, 2, 15),
    (446, 0, y_KReader_quoted, b_KReader_quoted, 4, 2, 1, 15),
    (457, 0, y_KReader_isNamed, b_KReader_isNamed, 5, 3, 2, 15),
    (465, 0, y_KReader_touch, b_KReader_touch, 1, 0, 0, 15),
    (470, 0, y_KReader_keep, b_KReader_keep, 3, 2, 1, 15),
    (473, 0, y_KReader_colons, b_KReader_colons, 4, 1, 0, 15),
    (477, 0, y_KReader_node, b_KReader_node, 1, 0, 2, 15),
    (480, 0, y_KDoc_event, b_KDoc_event, 2, 1, 0, 14),
    (492, 0, y_KDoc_add, b_KDoc_add, 2, 1, 0, 14),
    (495, 0, y_KBook_length, b_KBook_length, 2, 1, 1, 13),
    (497, 0, y_KBook_at, b_KBook_at, 3, 2, 1, 13),
    (501, 0, y_KReader_outside, b_KReader_outside, 3, 1, 1, 15),
    (504, 0, y_KReader_parameterReference, b_KReader_parameterReference, 4, 0, 0, 15),
    (509, 0, y_KReader_element, b_KReader_element, 11, 0, 0, 15),
    (514, 0, y_KReader_attributes, b_KReader_attributes, 10, 0, 0, 15),
    (519, 0, y_KReader_entity, b_KReader_entity, 13, 0, 0, 15),
    (524, 0, y_KReader_notation, b_KReader_notation, 6, 0, 0, 15),
    (529, 0, y_KBook_find, b_KBook_find, 5, 3, 1, 13),
    (532, 0, y_KReader_entityOf, b_KReader_entityOf, 4, 2, 1, 15),
    (535, 0, y_KReader_fits, b_KReader_fits, 2, 1, 2, 15),
    (538, 0, y_KReader_goThrough, b_KReader_goThrough, 3, 2, 0, 15),
    (552, 0, y_KReader_mixed, b_KReader_mixed, 6, 1, 1, 15),
    (555, 0, y_KReader_model, b_KReader_model, 7, 1, 1, 15),
    (558, 0, y_KReader_contentOf, b_KReader_contentOf, 3, 1, 1, 15),
    (564, 0, y_KReader_doubles, b_KReader_doubles, 7, 2, 1, 15),
    (567, 0, y_KReader_build, b_KReader_build, 9, 2, 0, 15),
    (570, 0, y_KReader_isDeterministic, b_KReader_isDeterministic, 5, 1, 2, 15),
    (579, 0, y_KReader_list, b_KReader_list, 3, 2, 0, 15),
    (586, 0, y_KReader_often, b_KReader_often, 3, 1, 1, 15),
    (588, 0, y_KReader_newNode, b_KReader_newNode, 5, 3, 1, 15),
    (592, 0, y_KReader_isNullable, b_KReader_isNullable, 6, 1, 2, 15),
    (595, 0, y_KReader_enter, b_KReader_enter, 4, 1, 0, 15),
    (601, 0, y_KReader_leafs, b_KReader_leafs, 4, 1, 1, 15),
    (604, 0, y_KReader_clearLater, b_KReader_clearLater, 3, 1, 0, 15),
    (607, 0, y_KReader_hasTwins, b_KReader_hasTwins, 4, 1, 2, 15),
    (610, 0, y_KReader_leave, b_KReader_leave, 6, 1, 0, 15),
    (619, 0, y_KReader_bracketed, b_KReader_bracketed, 5, 2, 1, 15),
    (624, 20, (⟨"", "", ""⟩ : MethodName), ByteArray.empty, 0, 0, 0, 0),
    (656, 0, y_KReader_value, b_KReader_value, 4, 1, 1, 15),
    (659, 0, y_KReader_typeAt, b_KReader_typeAt, 4, 1, 1, 15),
    (662, 0, y_KReader_defaultAt, b_KReader_defaultAt, 4, 1, 1, 15),
    (665, 0, y_KReader_definition, b_KReader_definition, 4, 1, 1, 15),
    (668, 0, y_KReader_define, b_KReader_define, 10, 2, 0, 15),
    (671, 0, y_KReader_find, b_KReader_find, 5, 1, 2, 15),
    (673, 0, y_KReader_normalise, b_KReader_normalise, 6, 2, 1, 15),
    (676, 0, y_KReader_attributeOf, b_KReader_attributeOf, 4, 2, 1, 15),
    (679, 0, y_KReader_hasType, b_KReader_hasType, 6, 3, 2, 15),
    (682, 0, y_KReader_isWanted, b_KReader_isWanted, 9, 3, 2, 15),
    (687, 0, y_KReader_entityText, b_KReader_entityText, 5, 1, 1, 15),
    (692, 1, y_KReader_meant, b_KReader_meant, 6, 2, 1, 15),
    (696, 0, y_KReader_isNotation, b_KReader_isNotation, 3, 1, 2, 15),
    (699, 0, y_KReader_section, b_KReader_section, 3, 0, 0, 15),
    (702, 0, y_KReader_endTag, b_KReader_endTag, 6, 0, 0, 15),
    (705, 0, y_KReader_contentReference, b_KReader_contentReference, 4, 0, 0, 15),
    (708, 0, y_KReader_run, b_KReader_run, 4, 0, 0, 15),
    (713, 0, y_KReader_spoil, b_KReader_spoil, 1, 0, 0, 15),
    (716, 0, y_KDoc_text, b_KDoc_text, 2, 1, 0, 14),
    (721, 0, y_KReader_isNamedSo, b_KReader_isNamedSo, 5, 3, 2, 15),
    (732, 0, y_KReader_always, b_KReader_always, 3, 2, 1, 15),
    (735, 0, y_KReader_undeclared, b_KReader_undeclared, 1, 0, 2, 15),
    (740, 0, y_KReader_close, b_KReader_close, 3, 0, 0, 15),
    (750, 0, y_KReader_given, b_KReader_given, 9, 4, 0, 15),
    (754, 0, y_KReader_defaults, b_KReader_defaults, 7, 2, 0, 15),
    (769, 0, y_KReader_add, b_KReader_add, 6, 4, 0, 15),
    (771, 0, y_KDoc_same, b_KDoc_same, 6, 4, 2, 14),
    (787, 0, y_KDoc_prefix, b_KDoc_prefix, 3, 1, 1, 14),
    (793, 0, y_KDoc_local, b_KDoc_local, 3, 1, 1, 14),
    (796, 0, y_KReader_isFit, b_KReader_isFit, 7, 1, 2, 15),
    (799, 0, y_KReader_makes, b_KReader_makes, 6, 2, 2, 15),
    (803, 0, y_KReader_valueReference, b_KReader_valueReference, 7, 2, 1, 15),
    (809, 0, y_KReader_isWord, b_KReader_isWord, 6, 3, 2, 15),
    (813, 0, y_KReader_lists, b_KReader_lists, 3, 0, 0, 15),
    (815, 0, y_KReader_identities, b_KReader_identities, 4, 0, 0, 15),
    (818, 0, y_KReader_spacesOf, b_KReader_spacesOf, 9, 1, 0, 15),
    (824, 0, y_KReader_wordsOf, b_KReader_wordsOf, 7, 2, 0, 15),
    (828, 0, y_KBook_says, b_KBook_says, 4, 2, 2, 13),
    (831, 0, y_KDoc_saying, b_KDoc_saying, 5, 2, 1, 14),
    (836, 0, y_KDoc_isValue, b_KDoc_isValue, 4, 2, 2, 14),
    (839, 0, y_KDoc_sameValue, b_KDoc_sameValue, 3, 2, 2, 14),
    (842, 0, y_KDoc_colon, b_KDoc_colon, 4, 1, 1, 14),
    (845, 0, y_KReader_means, b_KReader_means, 4, 2, 2, 15),
    (848, 0, y_KDoc_isDeclaration, b_KDoc_isDeclaration, 3, 1, 2, 14),
    (851, 0, y_KReader_isWrong, b_KReader_isWrong, 7, 1, 2, 15),
    (854, 0, y_KReader_hasTwin, b_KReader_hasTwin, 8, 4, 2, 15),
    (857, 0, y_KReader_meanSame, b_KReader_meanSame, 6, 3, 2, 15)]
def mlT_16 : List (Nat × Nat × MethodName × ByteArray × Nat × Nat × Nat × Nat) := [(33, 1, y_KWriter_length, b_KWriter_length, 1, 1, 1, 16),
    (42, 0, y_KReader_addLetter, b_KReader_addLetter, 2, 1, 0, 15),
    (55, 0, y_KReader_letters, b_KReader_letters, 1, 0, 1, 15),
    (58, 0, y_KReader_letter, b_KReader_letter, 2, 1, 1, 15),
    (63, 10, (⟨"", "", ""⟩ : MethodName), ByteArray.empty, 0, 0, 0, 0),
    (67, 11, (⟨"", "", ""⟩ : MethodName), ByteArray.empty, 0, 0, 0, 0),
    (71, 0, y_KWriter_put, b_KWriter_put, 5, 1, 0, 16),
    (84, 0, y_KBook_length, b_KBook_length, 2, 1, 1, 13),
    (87, 0, y_KBook_at, b_KBook_at, 3, 2, 1, 13),
    (93, 0, y_KWriter_say, b_KWriter_say, 3, 1, 0, 16),
    (128, 0, y_KWriter_escape, b_KWriter_escape, 3, 2, 0, 16),
    (134, 0, y_KWriter_meant, b_KWriter_meant, 3, 2, 1, 16),
    (145, 0, y_KBook_says, b_KBook_says, 4, 2, 2, 13),
    (149, 0, y_KDoc_saying, b_KDoc_saying, 5, 2, 1, 14),
    (163, 0, y_KWriter_compareNames, b_KWriter_compareNames, 6, 2, 1, 16),
    (166, 0, y_KWriter_compareMeanings, b_KWriter_compareMeanings, 4, 2, 1, 16),
    (178, 0, y_KDoc_isDeclaration, b_KDoc_isDeclaration, 3, 1, 2, 14),
    (182, 0, y_KWriter_isNews, b_KWriter_isNews, 6, 2, 2, 16),
    (186, 0, y_KWriter_meaning, b_KWriter_meaning, 4, 2, 1, 16),
    (189, 0, y_KWriter_comesFirst, b_KWriter_comesFirst, 8, 4, 2, 16),
    (198, 0, y_KWriter_name, b_KWriter_name, 3, 1, 0, 16),
    (201, 0, y_KWriter_pick, b_KWriter_pick, 7, 2, 1, 16),
    (207, 0, y_KWriter_value, b_KWriter_value, 3, 1, 0, 16),
    (223, 0, y_KWriter_start, b_KWriter_start, 5, 1, 0, 16),
    (228, 0, y_KWriter_target, b_KWriter_target, 6, 2, 0, 16),
    (231, 0, y_KWriter_write, b_KWriter_write, 5, 0, 0, 16),
    (234, 0, y_KReader_beginLetters, b_KReader_beginLetters, 1, 0, 0, 15)]
def mlT : List (List (Nat × Nat × MethodName × ByteArray × Nat × Nat × Nat × Nat)) := [mlT_0, mlT_1, mlT_2, mlT_3, mlT_4, mlT_5, mlT_6, mlT_7, mlT_8, mlT_9, mlT_10, mlT_11, mlT_12, mlT_13, mlT_14, mlT_15, mlT_16]
def wordT : List Nat := [133, 134, 135, 136, 137, 138, 139]
def wordD : Nat := 140
/-! ===== the small machine: the class's and the reference's methods over one world of numbered cells (objects 0 to 17, rows from 100 on, texts from 1000 on, fixed rows from 2000 on) ===== -/
abbrev MV : Type := Int32 ⊕ Nat
abbrev MS : Type := (Nat → Nat → Int32) × (Nat → Nat → Int32)
def ud (f : Nat → Nat → Int32) (o k : Nat) (x : Int32) : Nat → Nat → Int32 := fun p => if p = o then upd (f o) k x else f p
def mv (adr : Nat → Nat) : MV → Value
  | .inl v => .int v
  | .inr r => .ref (adr r)
def fv (adr : Nat → Nat) (kd : Nat ⊕ Nat) (v : Int32) : Value := match kd with
  | .inr r => .ref (adr r)
  | .inl 2 => if v = -1 then .null else .ref (adr v.toNatClampNeg)
  | .inl _ => .int v
def fkL (o : Nat) : List (Nat ⊕ Nat) := fkT.getD o []
def mobj (adr : Nat → Nat) (g : Nat → Nat → Int32) (o : Nat) : Nat × va_E := (adr o, .inr (kls o, (fkL o).mapIdx (fun k kd => fv adr kd (g o k))))
def tyN (tI tB tZ : ClassId) (k : Nat) : ClassId := match k with
  | 0 => tI
  | 1 => tB
  | _ => tZ
def rk (q : Nat) : Nat := rkT.getD q 0
def mrow (adr : Nat → Nat) (ln : Nat → Nat) (tI tB tZ : ClassId) (a : Nat → Nat → Int32) (q : Nat) : Nat × va_E := (adr (100 + q), .inl (tyN tI tB tZ (rk q), ln q, .inl (a q)))
/-- which objects and rows there are: the first object, how many, the first row, how many -/
abbrev MB : Type := Nat × Nat × Nat × Nat
abbrev inO (B : MB) (o : Nat) : Prop := B.1 ≤ o ∧ o < B.1 + B.2.1 ∧ o < 18
abbrev inQ (B : MB) (r : Nat) : Prop := 100 + B.2.2.1 ≤ r ∧ r < 100 + B.2.2.1 + B.2.2.2 ∧ r < 248
def wld (B : MB) (adr : Nat → Nat) (ln : Nat → Nat) (tI tB tZ : ClassId) (σ : MS) : va_W := (List.range' B.1 B.2.1).map (mobj adr σ.1) ++ (List.range' B.2.2.1 B.2.2.2).map (mrow adr ln tI tB tZ σ.2)
def clsN (oc : Nat) : String := (vC.map (fun q => q.1)).getD oc ""
/-! lookups -/
def mfl (oc idx : Nat) : Option (Nat × Nat) := ((flT.getD oc []).find? (fun e => e.1 == idx)).map (fun e => e.2)
def mks (oc idx : Nat) : Option MV := ((ksT.getD oc []).find? (fun e => e.1 == idx)).map (fun e => e.2)
def mss (oc idx : Nat) : Option Nat := ((ssT.getD oc []).find? (fun e => e.1 == idx)).map (fun e => e.2)
/-- kind (0 virtual, 1 static, 2 static of the nest, 10 on: of the JDK), name, code, locals, arguments, answer (0 none, 1 int, 2 boolean), class -/
abbrev ML : Type := Nat × MethodName × ByteArray × Nat × Nat × Nat × Nat
def mlk (oc idx : Nat) : Option ML := ((mlT.getD oc []).find? (fun e => e.1 == idx)).map (fun e => e.2)
def stx (s : Nat) : Option (List Int32) := if 1000 ≤ s then stxT[s - 1000]? else none
def srow (r : Nat) : Option (List Int32) := if 2000 ≤ r then srT[r - 2000]? else none
def mlo (lv : List (Nat × MV)) (k : Nat) : Option MV := lv.lookup k
def mst (lv : List (Nat × MV)) (k : Nat) (v : MV) : List (Nat × MV) := (k, v) :: lv.filter (fun q => !(q.1 == k))
def mget (σ : MS) (o k : Nat) : Option MV := match (fkL o)[k]? with
  | none => none
  | some (.inr r) => some (.inr r)
  | some (.inl 2) => if σ.1 o k = -1 then none else some (.inr (σ.1 o k).toNatClampNeg)
  | some (.inl _) => some (.inl (σ.1 o k))
def mput (σ : MS) (o k : Nat) (v : MV) : Option MS := match (fkL o)[k]?, v with
  | some (.inl 0), .inl x => some (ud σ.1 o k x, σ.2)
  | some (.inl 1), .inl x => if x = 0 ∨ x = 1 then some (ud σ.1 o k x, σ.2) else none
  | some (.inl 2), .inr r => if r < 1000 then some (ud σ.1 o k (nI r), σ.2) else none
  | _, _ => none
def min? (i : Int32) (n : Nat) : Bool := decide (¬ (i < 0 ∨ n ≤ i.toNatClampNeg))
/-- a row's element -/
def mld (B : MB) (ln : Nat → Nat) (σ : MS) (b : Bool) (r : Nat) (i : Int32) : Option Int32 :=
  if r < 2000 then (if inQ B r ∧ (b = true ↔ rk (r - 100) ≠ 0) ∧ min? i (ln (r - 100)) = true then some (σ.2 (r - 100) i.toNatClampNeg) else none)
  else match srow r with
    | some l => if b = false ∧ min? i l.length = true then some (l.getD i.toNatClampNeg 0) else none
    | none => none
def mnar (k : Nat) (x : Int32) : Int32 := match k with
  | 0 => x
  | 1 => vp_nar .byte x
  | _ => vp_nar .boolean x
def msto (B : MB) (ln : Nat → Nat) (σ : MS) (b : Bool) (r : Nat) (i x : Int32) : Option MS :=
  if inQ B r ∧ (b = true ↔ rk (r - 100) ≠ 0) ∧ min? i (ln (r - 100)) = true then some (σ.1, ud σ.2 (r - 100) i.toNatClampNeg (mnar (rk (r - 100)) x)) else none
def mlen (B : MB) (ln : Nat → Nat) (r : Nat) : Option Int32 := if inQ B r then some (nI (ln (r - 100))) else (srow r).map (fun l => nI l.length)
def mjmp (pc : Nat) (off : Int) : Option Nat := if 0 ≤ (pc : Int) + off then some ((pc : Int) + off).toNat else none
def mbr (c : Jvm.ClassFile.Cond) (x y : Int32) : Bool := match c with
  | .eq => decide (x = y)
  | .ne => decide (¬ x = y)
  | .lt => decide (x < y)
  | .ge => decide (y ≤ x)
  | .gt => decide (y < x)
  | .le => decide (x ≤ y)
def mln (i : Jvm.ClassFile.Instr) : Nat := match i with
  | .bipush _ => 2
  | .sipush _ => 3
  | .ldc _ => 2
  | .ldc_w _ => 3
  | .iload _ => 2
  | .aload _ => 2
  | .istore _ => 2
  | .astore _ => 2
  | .iinc _ _ => 3
  | .goto _ => 3
  | .ifCond _ _ => 3
  | .if_icmp _ _ => 3
  | .getfield _ => 3
  | .putfield _ => 3
  | .getstatic _ => 3
  | .invokevirtual _ => 3
  | .invokestatic _ => 3
  | _ => 1
def msw (i : Jvm.ClassFile.Instr) : Bool := match i with
  | .tableswitch .. => true
  | .lookupswitch .. => true
  | _ => false
abbrev MO : Type := Nat × List MV × List (Nat × MV) × MS
def mop2 (i : Jvm.ClassFile.Instr) (x y : Int32) : Option Int32 := match i with
  | .iadd => some (x + y)
  | .isub => some (x - y)
  | .imul => some (x * y)
  | .iand => some (x &&& y)
  | .ior => some (x ||| y)
  | .ixor => some (x ^^^ y)
  | .ishl => some (x <<< (y &&& 31))
  | .ishr => some (x >>> (y &&& 31))
  | .iushr => some (x.toUInt32 >>> (y.toUInt32 &&& Int32.toUInt32 31)).toInt32
  | .idiv => if y = 0 then none else some (x / y)
  | _ => none
def mbin (pc : Nat) (i : Jvm.ClassFile.Instr) (st : List MV) (lv : List (Nat × MV)) (σ : MS) : Option MO := match st with
  | .inl y :: .inl x :: r => (mop2 i x y).map (fun v => (pc + 1, .inl v :: r, lv, σ))
  | _ => none
def mldi (pc' k : Nat) (st : List MV) (lv : List (Nat × MV)) (σ : MS) : Option MO := match mlo lv k with
  | some (.inl v) => some (pc', .inl v :: st, lv, σ)
  | _ => none
def mlda (pc' k : Nat) (st : List MV) (lv : List (Nat × MV)) (σ : MS) : Option MO := match mlo lv k with
  | some (.inr v) => some (pc', .inr v :: st, lv, σ)
  | _ => none
def msti (nL pc' k : Nat) (st : List MV) (lv : List (Nat × MV)) (σ : MS) : Option MO := match st with
  | .inl v :: r => if k < nL then some (pc', r, mst lv k (.inl v), σ) else none
  | _ => none
def msta (nL pc' k : Nat) (st : List MV) (lv : List (Nat × MV)) (σ : MS) : Option MO := match st with
  | .inr v :: r => if k < nL then some (pc', r, mst lv k (.inr v), σ) else none
  | _ => none
def mop (B : MB) (ln : Nat → Nat) (oc nL pc : Nat) (i : Jvm.ClassFile.Instr) (st : List MV) (lv : List (Nat × MV)) (σ : MS) : Option MO := match i with
  | .iconst n => some (pc + 1, .inl (Int32.ofInt n) :: st, lv, σ)
  | .bipush n => some (pc + 2, .inl (Int8.ofInt n).toInt32 :: st, lv, σ)
  | .sipush n => some (pc + 3, .inl (Int16.ofInt n).toInt32 :: st, lv, σ)
  | .ldc k => (mks oc k).map (fun v => (pc + 2, v :: st, lv, σ))
  | .ldc_w k => (mks oc k).map (fun v => (pc + 3, v :: st, lv, σ))
  | .iload_n k => mldi (pc + 1) k st lv σ
  | .iload k => mldi (pc + 2) k st lv σ
  | .aload_n k => mlda (pc + 1) k st lv σ
  | .aload k => mlda (pc + 2) k st lv σ
  | .istore_n k => msti nL (pc + 1) k st lv σ
  | .istore k => msti nL (pc + 2) k st lv σ
  | .astore_n k => msta nL (pc + 1) k st lv σ
  | .astore k => msta nL (pc + 2) k st lv σ
  | .iinc k n => (match mlo lv k with
    | some (.inl v) => if k < nL then some (pc + 3, st, mst lv k (.inl (v + Int32.ofInt n)), σ) else none
    | _ => none)
  | .iadd => mbin pc i st lv σ
  | .isub => mbin pc i st lv σ
  | .imul => mbin pc i st lv σ
  | .iand => mbin pc i st lv σ
  | .ior => mbin pc i st lv σ
  | .ixor => mbin pc i st lv σ
  | .ishl => mbin pc i st lv σ
  | .ishr => mbin pc i st lv σ
  | .iushr => mbin pc i st lv σ
  | .idiv => mbin pc i st lv σ
  | .i2b => (match st with
    | .inl x :: r => some (pc + 1, .inl x.toInt8.toInt32 :: r, lv, σ)
    | _ => none)
  | .i2c => (match st with
    | .inl x :: r => some (pc + 1, .inl (x.toUInt32 % 65536).toInt32 :: r, lv, σ)
    | _ => none)
  | .dup => (match st with
    | x :: r => some (pc + 1, x :: x :: r, lv, σ)
    | _ => none)
  | .dup2 => (match st with
    | x :: y :: r => some (pc + 1, x :: y :: x :: y :: r, lv, σ)
    | _ => none)
  | .pop => (match st with
    | _ :: r => some (pc + 1, r, lv, σ)
    | _ => none)
  | .goto off => (mjmp pc off).map (fun t => (t, st, lv, σ))
  | .ifCond c off => (match st, mjmp pc off with
    | .inl x :: r, some t => some (if mbr c x 0 = true then t else pc + 3, r, lv, σ)
    | _, _ => none)
  | .if_icmp c off => (match st, mjmp pc off with
    | .inl y :: .inl x :: r, some t => some (if mbr c x y = true then t else pc + 3, r, lv, σ)
    | _, _ => none)
  | .getfield k => (match st, mfl oc k with
    | .inr o :: r, some (ci, f) => if inO B o ∧ kls o = ci then (mget σ o f).map (fun v => (pc + 3, v :: r, lv, σ)) else none
    | _, _ => none)
  | .putfield k => (match st, mfl oc k with
    | v :: .inr o :: r, some (ci, f) => if inO B o ∧ kls o = ci then (mput σ o f v).map (fun τ => (pc + 3, r, lv, τ)) else none
    | _, _ => none)
  | .getstatic k => (mss oc k).map (fun v => (pc + 3, .inr v :: st, lv, σ))
  | .iaload => (match st with
    | .inl i :: .inr r :: rest => (mld B ln σ false r i).map (fun v => (pc + 1, .inl v :: rest, lv, σ))
    | _ => none)
  | .baload => (match st with
    | .inl i :: .inr r :: rest => (mld B ln σ true r i).map (fun v => (pc + 1, .inl v :: rest, lv, σ))
    | _ => none)
  | .iastore => (match st with
    | .inl x :: .inl i :: .inr r :: rest => (msto B ln σ false r i x).map (fun τ => (pc + 1, rest, lv, τ))
    | _ => none)
  | .bastore => (match st with
    | .inl x :: .inl i :: .inr r :: rest => (msto B ln σ true r i x).map (fun τ => (pc + 1, rest, lv, τ))
    | _ => none)
  | .arraylength => (match st with
    | .inr r :: rest => (mlen B ln r).map (fun v => (pc + 1, .inl v :: rest, lv, σ))
    | _ => none)
  | .tableswitch dflt lo hi offs => (match st with
    | .inl x :: r => (if x.toInt < lo ∨ hi < x.toInt then mjmp pc dflt else match offs[(x.toInt - lo).toNat]? with
        | some off => mjmp pc off
        | none => none).map (fun t => (t, r, lv, σ))
    | _ => none)
  | .lookupswitch dflt ps => (match st with
    | .inl x :: r => if (ps.toList.zip (ps.toList.drop 1)).all (fun (a, next) => a.1 < next.1) = true then (mjmp pc (Op.lookupswitch.offset ps.toList dflt x.toInt)).map (fun t => (t, r, lv, σ)) else none
    | _ => none)
  | _ => none
/-- the JDK's members, by number -/
def mint (B : MB) (ln : Nat → Nat) (kd : Nat) (st : List MV) (σ : MS) : Option (List MV × MS) := match kd, st with
  | 10, .inr s :: r => (stx s).map (fun bs => (.inl (nI bs.length) :: r, σ))
  | 11, .inl i :: .inr s :: r => (match stx s with
    | some bs => if min? i bs.length = true then some (.inl (bs.getD i.toNatClampNeg 0) :: r, σ) else none
    | none => none)
  | 12, .inl c :: .inr s :: r => (stx s).map (fun bs => (.inl (match bs.findIdx? (fun b => b == c) with
      | some k => nI k
      | none => -1) :: r, σ))
  | 13, .inl y :: .inl x :: r => some (.inl (if y < x then y else x) :: r, σ)
  | 14, .inl y :: .inl x :: r => some (.inl (if x < y then y else x) :: r, σ)
  | 15, .inl v :: .inr q :: r => if inQ B q ∧ rk (q - 100) = 0 then some (r, σ.1, fun p => if p = q - 100 then fun _ => v else σ.2 p) else none
  | 16, .inl v :: .inl t :: .inl f :: .inr q :: r => if inQ B q ∧ rk (q - 100) = 0 ∧ 0 ≤ f ∧ f ≤ t ∧ t.toNatClampNeg ≤ ln (q - 100) then some (r, σ.1, fun p => if p = q - 100 then fun j => if f.toNatClampNeg ≤ j ∧ j < t.toNatClampNeg then v else σ.2 p j else σ.2 p) else none
  | 17, .inl n :: .inl dp :: .inr d :: .inl sp :: .inr s :: r => if inQ B s ∧ inQ B d ∧ rk (s - 100) = rk (d - 100) ∧ (rk (s - 100) = 0 ∨ rk (s - 100) = 1 ∧ ∀ i, i < n.toNatClampNeg → fits .byte (.int (σ.2 (s - 100) (sp.toNatClampNeg + i))) = true) ∧ 0 ≤ n ∧ 0 ≤ sp ∧ 0 ≤ dp ∧ sp.toNatClampNeg + n.toNatClampNeg ≤ ln (s - 100) ∧ dp.toNatClampNeg + n.toNatClampNeg ≤ ln (d - 100) then some (r, σ.1, fun p => if p = d - 100 then va_cpy (σ.2 (s - 100)) (σ.2 (d - 100)) sp.toNatClampNeg dp.toNatClampNeg n.toNatClampNeg else σ.2 p) else none
  | 20, .inl t :: r => some (.inr (if t.toInt < 0 ∨ 6 < t.toInt then 1000 + wordD else 1000 + wordT.getD t.toNatClampNeg 0) :: r, σ)
  | _, _ => none
def mlv : Nat → List MV → List (Nat × MV)
  | _, [] => []
  | k, v :: r => (k, v) :: mlv (k + 1) r
def mres (r : Option Int32) (rest : List MV) : List MV := match r with
  | none => rest
  | some v => .inl v :: rest
def mrun (B : MB) (ln : Nat → Nat) : Nat → Nat → Nat → ByteArray → Nat → Nat → Nat → List MV → List (Nat × MV) → MS → Option (Option Int32 × MS)
  | 0, _, _, _, _, _, _, _, _, _ => none
  | n + 1, d, oc, cd, nL, rt, pc, st, lv, σ =>
    match decode cd pc with
    | .error _ => none
    | .ok (i, len) =>
      match i with
      | .return_ => if len = 1 ∧ rt = 0 ∧ st = [] then some (none, σ) else none
      | .ireturn => (match st with
        | [.inl v] => if len = 1 ∧ (rt = 1 ∨ rt = 2 ∧ (v = 0 ∨ v = 1)) then some (some v, σ) else none
        | _ => none)
      | .invokevirtual idx => if len = 3 ∧ st.length ≤ 13 then (match mlk oc idx with
        | none => none
        | some (kd, _, cd', nL', na, rt', oc') =>
          if kd = 0 then (match d, st.drop na with
            | d' + 1, .inr o :: rest => if inO B o ∧ kls o = oc' ∧ rest.length ≤ 8 then (match mrun B ln n d' oc' cd' nL' rt' 0 [] (mlv 0 (.inr o :: (st.take na).reverse)) σ with
              | none => none
              | some (r, σ1) => mrun B ln n d oc cd nL rt (pc + 3) (mres r rest) lv σ1) else none
            | _, _ => none)
          else if 10 ≤ kd ∧ kd ≤ 12 ∧ st.length ≤ 8 then (match mint B ln kd st σ with
            | none => none
            | some (st', σ1) => mrun B ln n d oc cd nL rt (pc + 3) st' lv σ1)
          else none) else none
      | .invokestatic idx => if len = 3 ∧ st.length ≤ 13 then (match mlk oc idx with
        | none => none
        | some (kd, _, cd', nL', na, rt', oc') =>
          if kd = 1 ∨ kd = 2 then (match d with
            | d' + 1 => if na ≤ st.length ∧ (st.drop na).length ≤ 8 then (match mrun B ln n d' oc' cd' nL' rt' 0 [] (mlv 0 (st.take na).reverse) σ with
              | none => none
              | some (r, σ1) => mrun B ln n d oc cd nL rt (pc + 3) (mres r (st.drop na)) lv σ1) else none
            | _ => none)
          else if 13 ≤ kd ∧ st.length ≤ 8 then (match mint B ln kd st σ with
            | none => none
            | some (st', σ1) => mrun B ln n d oc cd nL rt (pc + 3) st' lv σ1)
          else none) else none
      | i => if len = mln i ∨ msw i = true then (match mop B ln oc nL pc i st lv σ with
        | none => none
        | some (pc', st', lv', σ1) => mrun B ln n d oc cd nL rt pc' st' lv' σ1) else none
