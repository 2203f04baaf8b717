def y_J_forget : MethodName := ⟨"MarkupJudge", "forget", "()V"⟩
abbrev b_J_forget : ByteArray := prog_1_method_7_code
def y_J_judge : MethodName := ⟨"MarkupJudge", "judge", "()I"⟩
abbrev b_J_judge : ByteArray := prog_1_method_6_code
def y_Content_finish : MethodName := ⟨"MarkupJudge$Content", "finish", "()Z"⟩
abbrev b_Content_finish : ByteArray := prog_2_method_3_code
def y_Content_readAll : MethodName := ⟨"MarkupJudge$Content", "readAll", "()V"⟩
abbrev b_Content_readAll : ByteArray := prog_2_method_2_code
def y_Declared_forget : MethodName := ⟨"MarkupJudge$Declared", "forget", "(I)V"⟩
abbrev b_Declared_forget : ByteArray := prog_3_method_2_code
def y_Doctype_forget : MethodName := ⟨"MarkupJudge$Doctype", "forget", "()V"⟩
abbrev b_Doctype_forget : ByteArray := prog_4_method_2_code
def y_Entities_forget : MethodName := ⟨"MarkupJudge$Entities", "forget", "(I)V"⟩
abbrev b_Entities_forget : ByteArray := prog_5_method_2_code
def y_Entities_start : MethodName := ⟨"MarkupJudge$Entities", "start", "()V"⟩
abbrev b_Entities_start : ByteArray := prog_5_method_3_code
def y_Meanings_forget : MethodName := ⟨"MarkupJudge$Meanings", "forget", "(I)V"⟩
abbrev b_Meanings_forget : ByteArray := prog_6_method_2_code
def y_Reader_at : MethodName := ⟨"MarkupJudge$Reader", "at", "(Ljava/lang/String;)Z"⟩
abbrev b_Reader_at : ByteArray := prog_8_method_11_code
def y_Reader_fail : MethodName := ⟨"MarkupJudge$Reader", "fail", "(I)V"⟩
abbrev b_Reader_fail : ByteArray := prog_8_method_3_code
def y_Reader_start : MethodName := ⟨"MarkupJudge$Reader", "start", "()V"⟩
abbrev b_Reader_start : ByteArray := prog_8_method_2_code
def y_Store_forget : MethodName := ⟨"MarkupJudge$Store", "forget", "()V"⟩
abbrev b_Store_forget : ByteArray := prog_9_method_3_code
def y_Store_load : MethodName := ⟨"MarkupJudge$Store", "load", "([BI)I"⟩
abbrev b_Store_load : ByteArray := prog_9_method_5_code
def y_Store_loadNarrow : MethodName := ⟨"MarkupJudge$Store", "loadNarrow", "([BII)I"⟩
abbrev b_Store_loadNarrow : ByteArray := prog_9_method_6_code
def y_Tree_forget : MethodName := ⟨"MarkupJudge$Tree", "forget", "()V"⟩
abbrev b_Tree_forget : ByteArray := prog_10_method_2_code
def y_Arrays_fill1 : MethodName := ⟨"java/util/Arrays", "fill", "([IIII)V"⟩
abbrev b_Arrays_fill1 : ByteArray := prog_34_method_104_code
def y_Arrays_rangeCheck : MethodName := ⟨"java/util/Arrays", "rangeCheck", "(III)V"⟩
abbrev b_Arrays_rangeCheck : ByteArray := prog_34_method_30_code
theorem w_145 : (Jvm.Cond.fieldLink "MarkupJudge" (148 : Nat) "MarkupJudge$Store" "room" "I") ∈ lwG := s_1 (List.mem_of_getElem? (i := 145) rfl) rfl
theorem w_153 : (Jvm.Cond.fieldLink "MarkupJudge$Reader" (22 : Nat) "MarkupJudge$Store" "begin" "I") ∈ lwG := s_1 (List.mem_of_getElem? (i := 153) rfl) rfl
theorem w_154 : (Jvm.Cond.fieldLink "MarkupJudge$Content" (72 : Nat) "MarkupJudge$Store" "begin" "I") ∈ lwG := s_1 (List.mem_of_getElem? (i := 154) rfl) rfl
theorem w_156 : (Jvm.Cond.fieldLink "MarkupJudge$Reader" (29 : Nat) "MarkupJudge$Store" "top" "I") ∈ lwG := s_1 (List.mem_of_getElem? (i := 156) rfl) rfl
theorem w_160 : (Jvm.Cond.fieldLink "MarkupJudge$Entities" (79 : Nat) "MarkupJudge$Store" "length" "I") ∈ lwG := s_1 (List.mem_of_getElem? (i := 160) rfl) rfl
theorem w_161 : (Jvm.Cond.fieldLink "MarkupJudge$Store" (121 : Nat) "MarkupJudge$Store" "length" "I") ∈ lwG := s_1 (List.mem_of_getElem? (i := 161) rfl) rfl
theorem w_162 : (Jvm.Cond.fieldLink "MarkupJudge" (145 : Nat) "MarkupJudge$Store" "length" "I") ∈ lwG := s_1 (List.mem_of_getElem? (i := 162) rfl) rfl
theorem w_164 : (Jvm.Cond.fieldLink "MarkupJudge$Store" (127 : Nat) "MarkupJudge$Store" "wide" "Z") ∈ lwG := s_1 (List.mem_of_getElem? (i := 164) rfl) rfl
theorem w_165 : (Jvm.Cond.fieldLink "MarkupJudge$Store" (123 : Nat) "MarkupJudge$Store" "behindReturn" "Z") ∈ lwG := s_1 (List.mem_of_getElem? (i := 165) rfl) rfl
theorem w_179 : (Jvm.Cond.fieldLink "MarkupJudge" (178 : Nat) "MarkupJudge$Store" "words" "I") ∈ lwG := s_1 (List.mem_of_getElem? (i := 179) rfl) rfl
theorem w_235 : (Jvm.Cond.fieldLink "MarkupJudge$Reader" (26 : Nat) "MarkupJudge$Reader" "pos" "I") ∈ lwG := s_1 (List.mem_of_getElem? (i := 235) rfl) rfl
theorem w_236 : (Jvm.Cond.fieldLink "MarkupJudge$Content" (47 : Nat) "MarkupJudge$Reader" "pos" "I") ∈ lwG := s_1 (List.mem_of_getElem? (i := 236) rfl) rfl
theorem w_240 : (Jvm.Cond.fieldLink "MarkupJudge$Content" (43 : Nat) "MarkupJudge$Reader" "stop" "I") ∈ lwG := s_2 (List.mem_of_getElem? (i := 0) rfl) rfl
theorem w_241 : (Jvm.Cond.fieldLink "MarkupJudge$Reader" (32 : Nat) "MarkupJudge$Reader" "stop" "I") ∈ lwG := s_2 (List.mem_of_getElem? (i := 1) rfl) rfl
theorem w_245 : (Jvm.Cond.fieldLink "MarkupJudge$Reader" (35 : Nat) "MarkupJudge$Reader" "fault" "I") ∈ lwG := s_2 (List.mem_of_getElem? (i := 5) rfl) rfl
theorem w_246 : (Jvm.Cond.fieldLink "MarkupJudge$Content" (64 : Nat) "MarkupJudge$Reader" "fault" "I") ∈ lwG := s_2 (List.mem_of_getElem? (i := 6) rfl) rfl
theorem w_249 : (Jvm.Cond.fieldLink "MarkupJudge" (155 : Nat) "MarkupJudge$Reader" "fault" "I") ∈ lwG := s_2 (List.mem_of_getElem? (i := 9) rfl) rfl
theorem w_250 : (Jvm.Cond.fieldLink "MarkupJudge$Reader" (38 : Nat) "MarkupJudge$Reader" "place" "I") ∈ lwG := s_2 (List.mem_of_getElem? (i := 10) rfl) rfl
theorem w_251 : (Jvm.Cond.fieldLink "MarkupJudge$Content" (75 : Nat) "MarkupJudge$Reader" "place" "I") ∈ lwG := s_2 (List.mem_of_getElem? (i := 11) rfl) rfl
theorem w_252 : (Jvm.Cond.fieldLink "MarkupJudge" (139 : Nat) "MarkupJudge$Reader" "place" "I") ∈ lwG := s_2 (List.mem_of_getElem? (i := 12) rfl) rfl
theorem w_253 : (Jvm.Cond.fieldLink "MarkupJudge$Reader" (41 : Nat) "MarkupJudge$Reader" "colons" "I") ∈ lwG := s_2 (List.mem_of_getElem? (i := 13) rfl) rfl
theorem w_305 : (Jvm.Cond.fieldLink "MarkupJudge$Entities" (63 : Nat) "MarkupJudge$Entities" "declarations" "I") ∈ lwG := s_2 (List.mem_of_getElem? (i := 65) rfl) rfl
theorem w_312 : (Jvm.Cond.fieldLink "MarkupJudge$Entities" (66 : Nat) "MarkupJudge$Entities" "depth" "I") ∈ lwG := s_2 (List.mem_of_getElem? (i := 72) rfl) rfl
theorem w_313 : (Jvm.Cond.fieldLink "MarkupJudge$Content" (67 : Nat) "MarkupJudge$Entities" "depth" "I") ∈ lwG := s_2 (List.mem_of_getElem? (i := 73) rfl) rfl
theorem w_315 : (Jvm.Cond.fieldLink "MarkupJudge$Entities" (82 : Nat) "MarkupJudge$Entities" "counted" "I") ∈ lwG := s_2 (List.mem_of_getElem? (i := 75) rfl) rfl
theorem w_317 : (Jvm.Cond.fieldLink "MarkupJudge$Entities" (69 : Nat) "MarkupJudge$Entities" "missing" "I") ∈ lwG := s_2 (List.mem_of_getElem? (i := 77) rfl) rfl
theorem w_320 : (Jvm.Cond.fieldLink "MarkupJudge$Entities" (72 : Nat) "MarkupJudge$Entities" "standalone" "Z") ∈ lwG := s_2 (List.mem_of_getElem? (i := 80) rfl) rfl
theorem w_322 : (Jvm.Cond.fieldLink "MarkupJudge$Entities" (76 : Nat) "MarkupJudge$Entities" "parameterSeen" "Z") ∈ lwG := s_2 (List.mem_of_getElem? (i := 82) rfl) rfl
theorem w_371 : (Jvm.Cond.fieldLink "MarkupJudge$Declared" (69 : Nat) "MarkupJudge$Declared" "elementCount" "I") ∈ lwG := s_2 (List.mem_of_getElem? (i := 131) rfl) rfl
theorem w_394 : (Jvm.Cond.fieldLink "MarkupJudge$Declared" (72 : Nat) "MarkupJudge$Declared" "attributeCount" "I") ∈ lwG := s_2 (List.mem_of_getElem? (i := 154) rfl) rfl
theorem w_403 : (Jvm.Cond.fieldLink "MarkupJudge$Declared" (75 : Nat) "MarkupJudge$Declared" "listedCount" "I") ∈ lwG := s_2 (List.mem_of_getElem? (i := 163) rfl) rfl
theorem w_407 : (Jvm.Cond.fieldLink "MarkupJudge$Declared" (78 : Nat) "MarkupJudge$Declared" "notationsAgain" "I") ∈ lwG := s_2 (List.mem_of_getElem? (i := 167) rfl) rfl
theorem w_461 : (Jvm.Cond.fieldLink "MarkupJudge$Doctype" (44 : Nat) "MarkupJudge$Doctype" "seen" "Z") ∈ lwG := s_2 (List.mem_of_getElem? (i := 221) rfl) rfl
theorem w_464 : (Jvm.Cond.fieldLink "MarkupJudge$Doctype" (48 : Nat) "MarkupJudge$Doctype" "open" "Z") ∈ lwG := s_2 (List.mem_of_getElem? (i := 224) rfl) rfl
theorem w_465 : (Jvm.Cond.fieldLink "MarkupJudge$Content" (82 : Nat) "MarkupJudge$Doctype" "open" "Z") ∈ lwG := s_2 (List.mem_of_getElem? (i := 225) rfl) rfl
theorem w_498 : (Jvm.Cond.fieldLink "MarkupJudge$Tree" (49 : Nat) "MarkupJudge$Tree" "nodes" "I") ∈ lwG := s_3 (List.mem_of_getElem? (i := 18) rfl) rfl
theorem w_501 : (Jvm.Cond.fieldLink "MarkupJudge$Content" (105 : Nat) "MarkupJudge$Tree" "elements" "I") ∈ lwG := s_3 (List.mem_of_getElem? (i := 21) rfl) rfl
theorem w_506 : (Jvm.Cond.fieldLink "MarkupJudge$Content" (91 : Nat) "MarkupJudge$Tree" "open" "I") ∈ lwG := s_3 (List.mem_of_getElem? (i := 26) rfl) rfl
theorem w_532 : (Jvm.Cond.fieldLink "MarkupJudge$Tree" (55 : Nat) "MarkupJudge$Tree" "attributeCount" "I") ∈ lwG := s_3 (List.mem_of_getElem? (i := 52) rfl) rfl
theorem w_549 : (Jvm.Cond.fieldLink "MarkupJudge$Tree" (58 : Nat) "MarkupJudge$Tree" "streamSize" "I") ∈ lwG := s_3 (List.mem_of_getElem? (i := 69) rfl) rfl
theorem w_552 : (Jvm.Cond.fieldLink "MarkupJudge$Tree" (61 : Nat) "MarkupJudge$Tree" "letters" "I") ∈ lwG := s_3 (List.mem_of_getElem? (i := 72) rfl) rfl
theorem w_840 : (Jvm.Cond.methodLink "MarkupJudge" (129 : Nat) ({ cls := "MarkupJudge", name := "forget", desc := "()V" } : Jvm.MethodName)) ∈ lwG := s_4 (List.mem_of_getElem? (i := 120) rfl) rfl
theorem w_844 : (Jvm.Cond.methodLink "MarkupJudge" (181 : Nat) ({ cls := "MarkupJudge$Entities", name := "forget", desc := "(I)V" } : Jvm.MethodName)) ∈ lwG := s_4 (List.mem_of_getElem? (i := 124) rfl) rfl
theorem w_848 : (Jvm.Cond.methodLink "MarkupJudge$Entities" (57 : Nat) ({ cls := "java/util/Arrays", name := "fill", desc := "([IIII)V" } : Jvm.MethodName)) ∈ lwG := s_4 (List.mem_of_getElem? (i := 128) rfl) rfl
theorem w_851 : (Jvm.Cond.methodLink "java/util/Arrays" (13 : Nat) ({ cls := "java/util/Arrays", name := "rangeCheck", desc := "(III)V" } : Jvm.MethodName)) ∈ lwG := s_4 (List.mem_of_getElem? (i := 131) rfl) rfl
theorem w_1134 : (Jvm.Cond.methodLink "MarkupJudge" (183 : Nat) ({ cls := "MarkupJudge$Declared", name := "forget", desc := "(I)V" } : Jvm.MethodName)) ∈ lwG := s_5 (List.mem_of_getElem? (i := 174) rfl) rfl
theorem w_1138 : (Jvm.Cond.methodLink "MarkupJudge$Declared" (63 : Nat) ({ cls := "java/util/Arrays", name := "fill", desc := "([IIII)V" } : Jvm.MethodName)) ∈ lwG := s_5 (List.mem_of_getElem? (i := 178) rfl) rfl
theorem w_1139 : (Jvm.Cond.methodLink "MarkupJudge" (184 : Nat) ({ cls := "MarkupJudge$Meanings", name := "forget", desc := "(I)V" } : Jvm.MethodName)) ∈ lwG := s_5 (List.mem_of_getElem? (i := 179) rfl) rfl
theorem w_1143 : (Jvm.Cond.methodLink "MarkupJudge$Meanings" (45 : Nat) ({ cls := "java/util/Arrays", name := "fill", desc := "([IIII)V" } : Jvm.MethodName)) ∈ lwG := s_5 (List.mem_of_getElem? (i := 183) rfl) rfl
theorem w_1144 : (Jvm.Cond.methodLink "MarkupJudge" (185 : Nat) ({ cls := "MarkupJudge$Store", name := "forget", desc := "()V" } : Jvm.MethodName)) ∈ lwG := s_5 (List.mem_of_getElem? (i := 184) rfl) rfl
theorem w_1148 : (Jvm.Cond.methodLink "MarkupJudge" (186 : Nat) ({ cls := "MarkupJudge$Doctype", name := "forget", desc := "()V" } : Jvm.MethodName)) ∈ lwG := s_5 (List.mem_of_getElem? (i := 188) rfl) rfl
theorem w_1152 : (Jvm.Cond.methodLink "MarkupJudge" (165 : Nat) ({ cls := "MarkupJudge$Tree", name := "forget", desc := "()V" } : Jvm.MethodName)) ∈ lwG := s_5 (List.mem_of_getElem? (i := 192) rfl) rfl
theorem w_1156 : (Jvm.Cond.methodLink "MarkupJudge" (132 : Nat) ({ cls := "MarkupJudge$Store", name := "load", desc := "([BI)I" } : Jvm.MethodName)) ∈ lwG := s_5 (List.mem_of_getElem? (i := 196) rfl) rfl
theorem w_1180 : (Jvm.Cond.methodLink "MarkupJudge$Store" (134 : Nat) ({ cls := "MarkupJudge$Store", name := "loadNarrow", desc := "([BII)I" } : Jvm.MethodName)) ∈ lwG := s_5 (List.mem_of_getElem? (i := 220) rfl) rfl
theorem w_1186 : (Jvm.Cond.methodLink "MarkupJudge" (136 : Nat) ({ cls := "MarkupJudge$Reader", name := "start", desc := "()V" } : Jvm.MethodName)) ∈ lwG := s_5 (List.mem_of_getElem? (i := 226) rfl) rfl
theorem w_1194 : (Jvm.Cond.methodLink "MarkupJudge" (151 : Nat) ({ cls := "MarkupJudge$Entities", name := "start", desc := "()V" } : Jvm.MethodName)) ∈ lwG := s_5 (List.mem_of_getElem? (i := 234) rfl) rfl
theorem w_1198 : (Jvm.Cond.methodLink "MarkupJudge" (152 : Nat) ({ cls := "MarkupJudge$Content", name := "readAll", desc := "()V" } : Jvm.MethodName)) ∈ lwG := s_5 (List.mem_of_getElem? (i := 238) rfl) rfl
theorem w_1203 : (Jvm.Cond.methodLink "MarkupJudge$Content" (37 : Nat) ({ cls := "MarkupJudge$Reader", name := "at", desc := "(Ljava/lang/String;)Z" } : Jvm.MethodName)) ∈ lwG := s_6 (List.mem_of_getElem? (i := 3) rfl) rfl
theorem w_1207 : (Jvm.Cond.methodLink "MarkupJudge$Reader" (52 : Nat) ({ cls := "java/lang/String", name := "length", desc := "()I" } : Jvm.MethodName)) ∈ lwG := s_6 (List.mem_of_getElem? (i := 7) rfl) rfl
theorem w_1247 : (Jvm.Cond.methodLink "MarkupJudge$Content" (108 : Nat) ({ cls := "MarkupJudge$Reader", name := "fail", desc := "(I)V" } : Jvm.MethodName)) ∈ lwG := s_6 (List.mem_of_getElem? (i := 47) rfl) rfl
theorem w_1278 : (Jvm.Cond.constant "MarkupJudge$Content" (63 : Nat) (1000000 : Int32)) ∈ lwG := s_6 (List.mem_of_getElem? (i := 78) rfl) rfl
theorem w_1279 : (Jvm.Cond.methodLink "MarkupJudge$Content" (78 : Nat) ({ cls := "MarkupJudge$Content", name := "finish", desc := "()Z" } : Jvm.MethodName)) ∈ lwG := s_6 (List.mem_of_getElem? (i := 79) rfl) rfl
theorem ok_J_forget : okV y_J_forget b_J_forget 2 none 0 := ⟨s_4 (List.mem_of_getElem? (i := 123) rfl) rfl, s_4 (List.mem_of_getElem? (i := 122) rfl) rfl, List.mem_filter.mpr ⟨List.mem_append_left _ (List.mem_map.mpr ⟨(y_J_forget, 15), List.mem_of_getElem? (i := 1) rfl, rfl⟩), rfl⟩, s_1 (List.mem_of_getElem? (i := 1) rfl) rfl, ⟨by decide +kernel, by decide +kernel, by decide +kernel⟩⟩
theorem ok_Content_finish : okV y_Content_finish b_Content_finish 1 (some .boolean) 0 := ⟨s_6 (List.mem_of_getElem? (i := 82) rfl) rfl, s_6 (List.mem_of_getElem? (i := 81) rfl) rfl, List.mem_filter.mpr ⟨List.mem_append_left _ (List.mem_map.mpr ⟨(y_Content_finish, 6), List.mem_of_getElem? (i := 10) rfl, rfl⟩), rfl⟩, s_1 (List.mem_of_getElem? (i := 14) rfl) rfl, ⟨by decide +kernel, by decide +kernel, by decide +kernel⟩⟩
theorem ok_Content_readAll : okV y_Content_readAll b_Content_readAll 4 none 0 := ⟨s_6 (List.mem_of_getElem? (i := 1) rfl) rfl, s_5 (List.mem_of_getElem? (i := 239) rfl) rfl, s_6 (List.mem_of_getElem? (i := 0) rfl) rfl, s_1 (List.mem_of_getElem? (i := 14) rfl) rfl, ⟨by decide +kernel, by decide +kernel, by decide +kernel⟩⟩
theorem ok_Declared_forget : okV y_Declared_forget b_Declared_forget 2 none 1 := ⟨s_5 (List.mem_of_getElem? (i := 177) rfl) rfl, s_5 (List.mem_of_getElem? (i := 175) rfl) rfl, s_5 (List.mem_of_getElem? (i := 176) rfl) rfl, s_1 (List.mem_of_getElem? (i := 11) rfl) rfl, ⟨by decide +kernel, by decide +kernel, by decide +kernel⟩⟩
theorem ok_Doctype_forget : okV y_Doctype_forget b_Doctype_forget 1 none 0 := ⟨s_5 (List.mem_of_getElem? (i := 191) rfl) rfl, s_5 (List.mem_of_getElem? (i := 189) rfl) rfl, s_5 (List.mem_of_getElem? (i := 190) rfl) rfl, s_1 (List.mem_of_getElem? (i := 12) rfl) rfl, ⟨by decide +kernel, by decide +kernel, by decide +kernel⟩⟩
theorem ok_Entities_forget : okV y_Entities_forget b_Entities_forget 2 none 1 := ⟨s_4 (List.mem_of_getElem? (i := 127) rfl) rfl, s_4 (List.mem_of_getElem? (i := 125) rfl) rfl, s_4 (List.mem_of_getElem? (i := 126) rfl) rfl, s_1 (List.mem_of_getElem? (i := 10) rfl) rfl, ⟨by decide +kernel, by decide +kernel, by decide +kernel⟩⟩
theorem ok_Entities_start : okV y_Entities_start b_Entities_start 1 none 0 := ⟨s_5 (List.mem_of_getElem? (i := 237) rfl) rfl, s_5 (List.mem_of_getElem? (i := 235) rfl) rfl, s_5 (List.mem_of_getElem? (i := 236) rfl) rfl, s_1 (List.mem_of_getElem? (i := 10) rfl) rfl, ⟨by decide +kernel, by decide +kernel, by decide +kernel⟩⟩
theorem ok_Meanings_forget : okV y_Meanings_forget b_Meanings_forget 2 none 1 := ⟨s_5 (List.mem_of_getElem? (i := 182) rfl) rfl, s_5 (List.mem_of_getElem? (i := 180) rfl) rfl, s_5 (List.mem_of_getElem? (i := 181) rfl) rfl, s_1 (List.mem_of_getElem? (i := 17) rfl) rfl, ⟨by decide +kernel, by decide +kernel, by decide +kernel⟩⟩
theorem ok_Reader_at : okV y_Reader_at b_Reader_at 4 (some .boolean) 1 := ⟨s_6 (List.mem_of_getElem? (i := 6) rfl) rfl, s_6 (List.mem_of_getElem? (i := 4) rfl) rfl, s_6 (List.mem_of_getElem? (i := 5) rfl) rfl, s_1 (List.mem_of_getElem? (i := 9) rfl) rfl, ⟨by decide +kernel, by decide +kernel, by decide +kernel⟩⟩
theorem ok_Reader_fail : okV y_Reader_fail b_Reader_fail 2 none 1 := ⟨s_5 (List.mem_of_getElem? (i := 233) rfl) rfl, s_5 (List.mem_of_getElem? (i := 231) rfl) rfl, s_5 (List.mem_of_getElem? (i := 232) rfl) rfl, s_1 (List.mem_of_getElem? (i := 9) rfl) rfl, ⟨by decide +kernel, by decide +kernel, by decide +kernel⟩⟩
theorem ok_Reader_start : okV y_Reader_start b_Reader_start 1 none 0 := ⟨s_5 (List.mem_of_getElem? (i := 229) rfl) rfl, s_5 (List.mem_of_getElem? (i := 227) rfl) rfl, s_5 (List.mem_of_getElem? (i := 228) rfl) rfl, s_1 (List.mem_of_getElem? (i := 9) rfl) rfl, ⟨by decide +kernel, by decide +kernel, by decide +kernel⟩⟩
theorem ok_Store_forget : okV y_Store_forget b_Store_forget 2 none 0 := ⟨s_5 (List.mem_of_getElem? (i := 187) rfl) rfl, s_5 (List.mem_of_getElem? (i := 185) rfl) rfl, s_5 (List.mem_of_getElem? (i := 186) rfl) rfl, s_1 (List.mem_of_getElem? (i := 2) rfl) rfl, ⟨by decide +kernel, by decide +kernel, by decide +kernel⟩⟩
theorem ok_Store_load : okV y_Store_load b_Store_load 7 (some .int) 2 := ⟨s_5 (List.mem_of_getElem? (i := 199) rfl) rfl, s_5 (List.mem_of_getElem? (i := 197) rfl) rfl, s_5 (List.mem_of_getElem? (i := 198) rfl) rfl, s_1 (List.mem_of_getElem? (i := 2) rfl) rfl, ⟨by decide +kernel, by decide +kernel, by decide +kernel⟩⟩
theorem ok_Store_loadNarrow : okV y_Store_loadNarrow b_Store_loadNarrow 10 (some .int) 3 := ⟨s_5 (List.mem_of_getElem? (i := 223) rfl) rfl, s_5 (List.mem_of_getElem? (i := 222) rfl) rfl, List.mem_filter.mpr ⟨List.mem_append_left _ (List.mem_map.mpr ⟨(y_Store_loadNarrow, 17), List.mem_of_getElem? (i := 5) rfl, rfl⟩), rfl⟩, s_1 (List.mem_of_getElem? (i := 2) rfl) rfl, ⟨by decide +kernel, by decide +kernel, by decide +kernel⟩⟩
theorem ok_Tree_forget : okV y_Tree_forget b_Tree_forget 1 none 0 := ⟨s_5 (List.mem_of_getElem? (i := 195) rfl) rfl, s_5 (List.mem_of_getElem? (i := 193) rfl) rfl, s_5 (List.mem_of_getElem? (i := 194) rfl) rfl, s_1 (List.mem_of_getElem? (i := 13) rfl) rfl, ⟨by decide +kernel, by decide +kernel, by decide +kernel⟩⟩
theorem ok_Arrays_fill1 : okS y_Arrays_fill1 b_Arrays_fill1 5 none 4 := ⟨s_4 (List.mem_of_getElem? (i := 130) rfl) rfl, s_4 (List.mem_of_getElem? (i := 129) rfl) rfl, s_1 (List.mem_of_getElem? (i := 4) rfl) rfl, ⟨by decide +kernel, by decide +kernel, by decide +kernel⟩⟩
theorem ok_Arrays_rangeCheck : okS y_Arrays_rangeCheck b_Arrays_rangeCheck 3 none 3 := ⟨s_4 (List.mem_of_getElem? (i := 133) rfl) rfl, s_4 (List.mem_of_getElem? (i := 132) rfl) rfl, s_1 (List.mem_of_getElem? (i := 4) rfl) rfl, ⟨by decide +kernel, by decide +kernel, by decide +kernel⟩⟩
theorem d_J_forget_0 : decode b_J_forget 0 = .ok (.aload_n 0, 1) := by decide +kernel
theorem d_J_forget_1 : decode b_J_forget 1 = .ok (.getfield 20, 3) := by decide +kernel
theorem d_J_forget_4 : decode b_J_forget 4 = .ok (.getfield 178, 3) := by decide +kernel
theorem d_J_forget_7 : decode b_J_forget 7 = .ok (.istore_n 1, 1) := by decide +kernel
theorem d_J_forget_8 : decode b_J_forget 8 = .ok (.aload_n 0, 1) := by decide +kernel
theorem d_J_forget_9 : decode b_J_forget 9 = .ok (.getfield 38, 3) := by decide +kernel
theorem d_J_forget_12 : decode b_J_forget 12 = .ok (.iload_n 1, 1) := by decide +kernel
theorem d_J_forget_13 : decode b_J_forget 13 = .ok (.invokevirtual 181, 3) := by decide +kernel
theorem d_J_forget_16 : decode b_J_forget 16 = .ok (.aload_n 0, 1) := by decide +kernel
theorem d_J_forget_17 : decode b_J_forget 17 = .ok (.getfield 45, 3) := by decide +kernel
theorem d_J_forget_20 : decode b_J_forget 20 = .ok (.iload_n 1, 1) := by decide +kernel
theorem d_J_forget_21 : decode b_J_forget 21 = .ok (.invokevirtual 183, 3) := by decide +kernel
theorem d_J_forget_24 : decode b_J_forget 24 = .ok (.aload_n 0, 1) := by decide +kernel
theorem d_J_forget_25 : decode b_J_forget 25 = .ok (.getfield 93, 3) := by decide +kernel
theorem d_J_forget_28 : decode b_J_forget 28 = .ok (.iload_n 1, 1) := by decide +kernel
theorem d_J_forget_29 : decode b_J_forget 29 = .ok (.invokevirtual 184, 3) := by decide +kernel
theorem d_J_forget_32 : decode b_J_forget 32 = .ok (.aload_n 0, 1) := by decide +kernel
theorem d_J_forget_33 : decode b_J_forget 33 = .ok (.getfield 20, 3) := by decide +kernel
theorem d_J_forget_36 : decode b_J_forget 36 = .ok (.invokevirtual 185, 3) := by decide +kernel
theorem d_J_forget_39 : decode b_J_forget 39 = .ok (.aload_n 0, 1) := by decide +kernel
theorem d_J_forget_40 : decode b_J_forget 40 = .ok (.getfield 54, 3) := by decide +kernel
theorem d_J_forget_43 : decode b_J_forget 43 = .ok (.invokevirtual 186, 3) := by decide +kernel
theorem d_J_forget_46 : decode b_J_forget 46 = .ok (.aload_n 0, 1) := by decide +kernel
theorem d_J_forget_47 : decode b_J_forget 47 = .ok (.getfield 63, 3) := by decide +kernel
theorem d_J_forget_50 : decode b_J_forget 50 = .ok (.invokevirtual 165, 3) := by decide +kernel
theorem d_J_forget_53 : decode b_J_forget 53 = .ok (.return_, 1) := by decide +kernel
theorem d_J_judge_0 : decode b_J_judge 0 = .ok (.aload_n 0, 1) := by decide +kernel
theorem d_J_judge_1 : decode b_J_judge 1 = .ok (.getfield 110, 3) := by decide +kernel
theorem d_J_judge_4 : decode b_J_judge 4 = .ok (.istore_n 1, 1) := by decide +kernel
theorem d_J_judge_5 : decode b_J_judge 5 = .ok (.aload_n 0, 1) := by decide +kernel
theorem d_J_judge_6 : decode b_J_judge 6 = .ok (.iconst 0, 1) := by decide +kernel
theorem d_J_judge_7 : decode b_J_judge 7 = .ok (.putfield 110, 3) := by decide +kernel
theorem d_J_judge_10 : decode b_J_judge 10 = .ok (.aload_n 0, 1) := by decide +kernel
theorem d_J_judge_11 : decode b_J_judge 11 = .ok (.invokevirtual 129, 3) := by decide +kernel
theorem d_J_judge_14 : decode b_J_judge 14 = .ok (.aload_n 0, 1) := by decide +kernel
theorem d_J_judge_15 : decode b_J_judge 15 = .ok (.getfield 20, 3) := by decide +kernel
theorem d_J_judge_18 : decode b_J_judge 18 = .ok (.aload_n 0, 1) := by decide +kernel
theorem d_J_judge_19 : decode b_J_judge 19 = .ok (.getfield 11, 3) := by decide +kernel
theorem d_J_judge_22 : decode b_J_judge 22 = .ok (.iload_n 1, 1) := by decide +kernel
theorem d_J_judge_23 : decode b_J_judge 23 = .ok (.invokevirtual 132, 3) := by decide +kernel
theorem d_J_judge_26 : decode b_J_judge 26 = .ok (.istore_n 2, 1) := by decide +kernel
theorem d_J_judge_27 : decode b_J_judge 27 = .ok (.aload_n 0, 1) := by decide +kernel
theorem d_J_judge_28 : decode b_J_judge 28 = .ok (.getfield 29, 3) := by decide +kernel
theorem d_J_judge_31 : decode b_J_judge 31 = .ok (.invokevirtual 136, 3) := by decide +kernel
theorem d_J_judge_34 : decode b_J_judge 34 = .ok (.iload_n 2, 1) := by decide +kernel
theorem d_J_judge_35 : decode b_J_judge 35 = .ok (.iconst (-1), 1) := by decide +kernel
theorem d_J_judge_36 : decode b_J_judge 36 = .ok (.if_icmp .eq 22, 3) := by decide +kernel
theorem d_J_judge_58 : decode b_J_judge 58 = .ok (.aload_n 0, 1) := by decide +kernel
theorem d_J_judge_59 : decode b_J_judge 59 = .ok (.getfield 20, 3) := by decide +kernel
theorem d_J_judge_62 : decode b_J_judge 62 = .ok (.getfield 145, 3) := by decide +kernel
theorem d_J_judge_65 : decode b_J_judge 65 = .ok (.aload_n 0, 1) := by decide +kernel
theorem d_J_judge_66 : decode b_J_judge 66 = .ok (.getfield 20, 3) := by decide +kernel
theorem d_J_judge_69 : decode b_J_judge 69 = .ok (.getfield 148, 3) := by decide +kernel
theorem d_J_judge_72 : decode b_J_judge 72 = .ok (.if_icmp .le 14, 3) := by decide +kernel
theorem d_J_judge_86 : decode b_J_judge 86 = .ok (.aload_n 0, 1) := by decide +kernel
theorem d_J_judge_87 : decode b_J_judge 87 = .ok (.getfield 38, 3) := by decide +kernel
theorem d_J_judge_90 : decode b_J_judge 90 = .ok (.invokevirtual 151, 3) := by decide +kernel
theorem d_J_judge_93 : decode b_J_judge 93 = .ok (.aload_n 0, 1) := by decide +kernel
theorem d_J_judge_94 : decode b_J_judge 94 = .ok (.getfield 72, 3) := by decide +kernel
theorem d_J_judge_97 : decode b_J_judge 97 = .ok (.invokevirtual 152, 3) := by decide +kernel
theorem d_J_judge_100 : decode b_J_judge 100 = .ok (.aload_n 0, 1) := by decide +kernel
theorem d_J_judge_101 : decode b_J_judge 101 = .ok (.aload_n 0, 1) := by decide +kernel
theorem d_J_judge_102 : decode b_J_judge 102 = .ok (.getfield 29, 3) := by decide +kernel
theorem d_J_judge_105 : decode b_J_judge 105 = .ok (.getfield 155, 3) := by decide +kernel
theorem d_J_judge_108 : decode b_J_judge 108 = .ok (.putfield 158, 3) := by decide +kernel
theorem d_J_judge_111 : decode b_J_judge 111 = .ok (.aload_n 0, 1) := by decide +kernel
theorem d_J_judge_112 : decode b_J_judge 112 = .ok (.aload_n 0, 1) := by decide +kernel
theorem d_J_judge_113 : decode b_J_judge 113 = .ok (.getfield 158, 3) := by decide +kernel
theorem d_J_judge_116 : decode b_J_judge 116 = .ok (.ifCond .ne 7, 3) := by decide +kernel
theorem d_J_judge_123 : decode b_J_judge 123 = .ok (.iconst 0, 1) := by decide +kernel
theorem d_J_judge_124 : decode b_J_judge 124 = .ok (.putfield 161, 3) := by decide +kernel
theorem d_J_judge_127 : decode b_J_judge 127 = .ok (.aload_n 0, 1) := by decide +kernel
theorem d_J_judge_128 : decode b_J_judge 128 = .ok (.aload_n 0, 1) := by decide +kernel
theorem d_J_judge_129 : decode b_J_judge 129 = .ok (.getfield 161, 3) := by decide +kernel
theorem d_J_judge_132 : decode b_J_judge 132 = .ok (.ifCond .eq 7, 3) := by decide +kernel
theorem d_J_judge_139 : decode b_J_judge 139 = .ok (.aload_n 0, 1) := by decide +kernel
theorem d_J_judge_140 : decode b_J_judge 140 = .ok (.getfield 29, 3) := by decide +kernel
theorem d_J_judge_143 : decode b_J_judge 143 = .ok (.getfield 139, 3) := by decide +kernel
theorem d_J_judge_146 : decode b_J_judge 146 = .ok (.putfield 106, 3) := by decide +kernel
theorem d_J_judge_149 : decode b_J_judge 149 = .ok (.aload_n 0, 1) := by decide +kernel
theorem d_J_judge_150 : decode b_J_judge 150 = .ok (.getfield 161, 3) := by decide +kernel
theorem d_J_judge_153 : decode b_J_judge 153 = .ok (.ifCond .ne 12, 3) := by decide +kernel
theorem d_J_judge_156 : decode b_J_judge 156 = .ok (.aload_n 0, 1) := by decide +kernel
theorem d_J_judge_157 : decode b_J_judge 157 = .ok (.getfield 63, 3) := by decide +kernel
theorem d_J_judge_160 : decode b_J_judge 160 = .ok (.invokevirtual 165, 3) := by decide +kernel
theorem d_J_judge_163 : decode b_J_judge 163 = .ok (.iconst 2, 1) := by decide +kernel
theorem d_J_judge_164 : decode b_J_judge 164 = .ok (.ireturn, 1) := by decide +kernel
theorem d_Content_finish_0 : decode b_Content_finish 0 = .ok (.aload_n 0, 1) := by decide +kernel
theorem d_Content_finish_1 : decode b_Content_finish 1 = .ok (.getfield 19, 3) := by decide +kernel
theorem d_Content_finish_4 : decode b_Content_finish 4 = .ok (.getfield 67, 3) := by decide +kernel
theorem d_Content_finish_7 : decode b_Content_finish 7 = .ok (.ifCond .ne 45, 3) := by decide +kernel
theorem d_Content_finish_10 : decode b_Content_finish 10 = .ok (.aload_n 0, 1) := by decide +kernel
theorem d_Content_finish_11 : decode b_Content_finish 11 = .ok (.getfield 27, 3) := by decide +kernel
theorem d_Content_finish_14 : decode b_Content_finish 14 = .ok (.getfield 82, 3) := by decide +kernel
theorem d_Content_finish_17 : decode b_Content_finish 17 = .ok (.ifCond .ne 24, 3) := by decide +kernel
theorem d_Content_finish_20 : decode b_Content_finish 20 = .ok (.aload_n 0, 1) := by decide +kernel
theorem d_Content_finish_21 : decode b_Content_finish 21 = .ok (.getfield 31, 3) := by decide +kernel
theorem d_Content_finish_24 : decode b_Content_finish 24 = .ok (.getfield 91, 3) := by decide +kernel
theorem d_Content_finish_27 : decode b_Content_finish 27 = .ok (.iconst (-1), 1) := by decide +kernel
theorem d_Content_finish_28 : decode b_Content_finish 28 = .ok (.if_icmp .ne 13, 3) := by decide +kernel
theorem d_Content_finish_31 : decode b_Content_finish 31 = .ok (.aload_n 0, 1) := by decide +kernel
theorem d_Content_finish_32 : decode b_Content_finish 32 = .ok (.getfield 31, 3) := by decide +kernel
theorem d_Content_finish_35 : decode b_Content_finish 35 = .ok (.getfield 105, 3) := by decide +kernel
theorem d_Content_finish_38 : decode b_Content_finish 38 = .ok (.ifCond .ne 12, 3) := by decide +kernel
theorem d_Content_finish_41 : decode b_Content_finish 41 = .ok (.aload_n 0, 1) := by decide +kernel
theorem d_Content_finish_42 : decode b_Content_finish 42 = .ok (.getfield 15, 3) := by decide +kernel
theorem d_Content_finish_45 : decode b_Content_finish 45 = .ok (.bipush 6, 2) := by decide +kernel
theorem d_Content_finish_47 : decode b_Content_finish 47 = .ok (.invokevirtual 108, 3) := by decide +kernel
theorem d_Content_finish_50 : decode b_Content_finish 50 = .ok (.iconst 0, 1) := by decide +kernel
theorem d_Content_finish_51 : decode b_Content_finish 51 = .ok (.ireturn, 1) := by decide +kernel
theorem d_Content_readAll_0 : decode b_Content_readAll 0 = .ok (.aload_n 0, 1) := by decide +kernel
theorem d_Content_readAll_1 : decode b_Content_readAll 1 = .ok (.getfield 15, 3) := by decide +kernel
theorem d_Content_readAll_4 : decode b_Content_readAll 4 = .ok (.ldc 35, 2) := by decide +kernel
theorem d_Content_readAll_6 : decode b_Content_readAll 6 = .ok (.invokevirtual 37, 3) := by decide +kernel
theorem d_Content_readAll_9 : decode b_Content_readAll 9 = .ok (.ifCond .eq 49, 3) := by decide +kernel
theorem d_Content_readAll_58 : decode b_Content_readAll 58 = .ok (.iconst 1, 1) := by decide +kernel
theorem d_Content_readAll_59 : decode b_Content_readAll 59 = .ok (.istore_n 1, 1) := by decide +kernel
theorem d_Content_readAll_60 : decode b_Content_readAll 60 = .ok (.iconst 0, 1) := by decide +kernel
theorem d_Content_readAll_61 : decode b_Content_readAll 61 = .ok (.istore_n 2, 1) := by decide +kernel
theorem d_Content_readAll_62 : decode b_Content_readAll 62 = .ok (.iload_n 2, 1) := by decide +kernel
theorem d_Content_readAll_63 : decode b_Content_readAll 63 = .ok (.ldc 63, 2) := by decide +kernel
theorem d_Content_readAll_65 : decode b_Content_readAll 65 = .ok (.if_icmp .ge 164, 3) := by decide +kernel
theorem d_Content_readAll_68 : decode b_Content_readAll 68 = .ok (.iload_n 1, 1) := by decide +kernel
theorem d_Content_readAll_69 : decode b_Content_readAll 69 = .ok (.ifCond .eq 160, 3) := by decide +kernel
theorem d_Content_readAll_72 : decode b_Content_readAll 72 = .ok (.aload_n 0, 1) := by decide +kernel
theorem d_Content_readAll_73 : decode b_Content_readAll 73 = .ok (.getfield 15, 3) := by decide +kernel
theorem d_Content_readAll_76 : decode b_Content_readAll 76 = .ok (.getfield 64, 3) := by decide +kernel
theorem d_Content_readAll_79 : decode b_Content_readAll 79 = .ok (.ifCond .ne 150, 3) := by decide +kernel
theorem d_Content_readAll_82 : decode b_Content_readAll 82 = .ok (.aload_n 0, 1) := by decide +kernel
theorem d_Content_readAll_83 : decode b_Content_readAll 83 = .ok (.getfield 19, 3) := by decide +kernel
theorem d_Content_readAll_86 : decode b_Content_readAll 86 = .ok (.getfield 67, 3) := by decide +kernel
theorem d_Content_readAll_89 : decode b_Content_readAll 89 = .ok (.ifCond .ne 25, 3) := by decide +kernel
theorem d_Content_readAll_92 : decode b_Content_readAll 92 = .ok (.aload_n 0, 1) := by decide +kernel
theorem d_Content_readAll_93 : decode b_Content_readAll 93 = .ok (.getfield 15, 3) := by decide +kernel
theorem d_Content_readAll_96 : decode b_Content_readAll 96 = .ok (.aload_n 0, 1) := by decide +kernel
theorem d_Content_readAll_97 : decode b_Content_readAll 97 = .ok (.getfield 15, 3) := by decide +kernel
theorem d_Content_readAll_100 : decode b_Content_readAll 100 = .ok (.getfield 47, 3) := by decide +kernel
theorem d_Content_readAll_103 : decode b_Content_readAll 103 = .ok (.aload_n 0, 1) := by decide +kernel
theorem d_Content_readAll_104 : decode b_Content_readAll 104 = .ok (.getfield 9, 3) := by decide +kernel
theorem d_Content_readAll_107 : decode b_Content_readAll 107 = .ok (.getfield 72, 3) := by decide +kernel
theorem d_Content_readAll_110 : decode b_Content_readAll 110 = .ok (.isub, 1) := by decide +kernel
theorem d_Content_readAll_111 : decode b_Content_readAll 111 = .ok (.putfield 75, 3) := by decide +kernel
theorem d_Content_readAll_114 : decode b_Content_readAll 114 = .ok (.aload_n 0, 1) := by decide +kernel
theorem d_Content_readAll_115 : decode b_Content_readAll 115 = .ok (.getfield 15, 3) := by decide +kernel
theorem d_Content_readAll_118 : decode b_Content_readAll 118 = .ok (.getfield 47, 3) := by decide +kernel
theorem d_Content_readAll_121 : decode b_Content_readAll 121 = .ok (.aload_n 0, 1) := by decide +kernel
theorem d_Content_readAll_122 : decode b_Content_readAll 122 = .ok (.getfield 15, 3) := by decide +kernel
theorem d_Content_readAll_125 : decode b_Content_readAll 125 = .ok (.getfield 43, 3) := by decide +kernel
theorem d_Content_readAll_128 : decode b_Content_readAll 128 = .ok (.if_icmp .lt 11, 3) := by decide +kernel
theorem d_Content_readAll_131 : decode b_Content_readAll 131 = .ok (.aload_n 0, 1) := by decide +kernel
theorem d_Content_readAll_132 : decode b_Content_readAll 132 = .ok (.invokevirtual 78, 3) := by decide +kernel
theorem d_Content_readAll_135 : decode b_Content_readAll 135 = .ok (.istore_n 1, 1) := by decide +kernel
theorem d_Content_readAll_136 : decode b_Content_readAll 136 = .ok (.goto 87, 3) := by decide +kernel
theorem d_Content_readAll_223 : decode b_Content_readAll 223 = .ok (.iinc 2 1, 3) := by decide +kernel
theorem d_Content_readAll_226 : decode b_Content_readAll 226 = .ok (.goto (-164), 3) := by decide +kernel
theorem d_Content_readAll_229 : decode b_Content_readAll 229 = .ok (.return_, 1) := by decide +kernel
theorem d_Declared_forget_0 : decode b_Declared_forget 0 = .ok (.aload_n 0, 1) := by decide +kernel
theorem d_Declared_forget_1 : decode b_Declared_forget 1 = .ok (.getfield 54, 3) := by decide +kernel
theorem d_Declared_forget_4 : decode b_Declared_forget 4 = .ok (.iconst 0, 1) := by decide +kernel
theorem d_Declared_forget_5 : decode b_Declared_forget 5 = .ok (.iload_n 1, 1) := by decide +kernel
theorem d_Declared_forget_6 : decode b_Declared_forget 6 = .ok (.iconst 0, 1) := by decide +kernel
theorem d_Declared_forget_7 : decode b_Declared_forget 7 = .ok (.invokestatic 63, 3) := by decide +kernel
theorem d_Declared_forget_10 : decode b_Declared_forget 10 = .ok (.aload_n 0, 1) := by decide +kernel
theorem d_Declared_forget_11 : decode b_Declared_forget 11 = .ok (.getfield 57, 3) := by decide +kernel
theorem d_Declared_forget_14 : decode b_Declared_forget 14 = .ok (.iconst 0, 1) := by decide +kernel
theorem d_Declared_forget_15 : decode b_Declared_forget 15 = .ok (.iload_n 1, 1) := by decide +kernel
theorem d_Declared_forget_16 : decode b_Declared_forget 16 = .ok (.iconst 0, 1) := by decide +kernel
theorem d_Declared_forget_17 : decode b_Declared_forget 17 = .ok (.invokestatic 63, 3) := by decide +kernel
theorem d_Declared_forget_20 : decode b_Declared_forget 20 = .ok (.aload_n 0, 1) := by decide +kernel
theorem d_Declared_forget_21 : decode b_Declared_forget 21 = .ok (.getfield 60, 3) := by decide +kernel
theorem d_Declared_forget_24 : decode b_Declared_forget 24 = .ok (.iconst 0, 1) := by decide +kernel
theorem d_Declared_forget_25 : decode b_Declared_forget 25 = .ok (.iload_n 1, 1) := by decide +kernel
theorem d_Declared_forget_26 : decode b_Declared_forget 26 = .ok (.iconst 0, 1) := by decide +kernel
theorem d_Declared_forget_27 : decode b_Declared_forget 27 = .ok (.invokestatic 63, 3) := by decide +kernel
theorem d_Declared_forget_30 : decode b_Declared_forget 30 = .ok (.aload_n 0, 1) := by decide +kernel
theorem d_Declared_forget_31 : decode b_Declared_forget 31 = .ok (.iconst 0, 1) := by decide +kernel
theorem d_Declared_forget_32 : decode b_Declared_forget 32 = .ok (.putfield 69, 3) := by decide +kernel
theorem d_Declared_forget_35 : decode b_Declared_forget 35 = .ok (.aload_n 0, 1) := by decide +kernel
theorem d_Declared_forget_36 : decode b_Declared_forget 36 = .ok (.iconst 0, 1) := by decide +kernel
theorem d_Declared_forget_37 : decode b_Declared_forget 37 = .ok (.putfield 72, 3) := by decide +kernel
theorem d_Declared_forget_40 : decode b_Declared_forget 40 = .ok (.aload_n 0, 1) := by decide +kernel
theorem d_Declared_forget_41 : decode b_Declared_forget 41 = .ok (.iconst 0, 1) := by decide +kernel
theorem d_Declared_forget_42 : decode b_Declared_forget 42 = .ok (.putfield 75, 3) := by decide +kernel
theorem d_Declared_forget_45 : decode b_Declared_forget 45 = .ok (.aload_n 0, 1) := by decide +kernel
theorem d_Declared_forget_46 : decode b_Declared_forget 46 = .ok (.iconst 0, 1) := by decide +kernel
theorem d_Declared_forget_47 : decode b_Declared_forget 47 = .ok (.putfield 78, 3) := by decide +kernel
theorem d_Declared_forget_50 : decode b_Declared_forget 50 = .ok (.return_, 1) := by decide +kernel
theorem d_Doctype_forget_0 : decode b_Doctype_forget 0 = .ok (.aload_n 0, 1) := by decide +kernel
theorem d_Doctype_forget_1 : decode b_Doctype_forget 1 = .ok (.iconst 0, 1) := by decide +kernel
theorem d_Doctype_forget_2 : decode b_Doctype_forget 2 = .ok (.putfield 44, 3) := by decide +kernel
theorem d_Doctype_forget_5 : decode b_Doctype_forget 5 = .ok (.aload_n 0, 1) := by decide +kernel
theorem d_Doctype_forget_6 : decode b_Doctype_forget 6 = .ok (.iconst 0, 1) := by decide +kernel
theorem d_Doctype_forget_7 : decode b_Doctype_forget 7 = .ok (.putfield 48, 3) := by decide +kernel
theorem d_Doctype_forget_10 : decode b_Doctype_forget 10 = .ok (.return_, 1) := by decide +kernel
theorem d_Entities_forget_0 : decode b_Entities_forget 0 = .ok (.aload_n 0, 1) := by decide +kernel
theorem d_Entities_forget_1 : decode b_Entities_forget 1 = .ok (.getfield 51, 3) := by decide +kernel
theorem d_Entities_forget_4 : decode b_Entities_forget 4 = .ok (.iconst 0, 1) := by decide +kernel
theorem d_Entities_forget_5 : decode b_Entities_forget 5 = .ok (.iload_n 1, 1) := by decide +kernel
theorem d_Entities_forget_6 : decode b_Entities_forget 6 = .ok (.iconst 0, 1) := by decide +kernel
theorem d_Entities_forget_7 : decode b_Entities_forget 7 = .ok (.invokestatic 57, 3) := by decide +kernel
theorem d_Entities_forget_10 : decode b_Entities_forget 10 = .ok (.aload_n 0, 1) := by decide +kernel
theorem d_Entities_forget_11 : decode b_Entities_forget 11 = .ok (.getfield 54, 3) := by decide +kernel
theorem d_Entities_forget_14 : decode b_Entities_forget 14 = .ok (.iconst 0, 1) := by decide +kernel
theorem d_Entities_forget_15 : decode b_Entities_forget 15 = .ok (.iload_n 1, 1) := by decide +kernel
theorem d_Entities_forget_16 : decode b_Entities_forget 16 = .ok (.iconst 0, 1) := by decide +kernel
theorem d_Entities_forget_17 : decode b_Entities_forget 17 = .ok (.invokestatic 57, 3) := by decide +kernel
theorem d_Entities_forget_20 : decode b_Entities_forget 20 = .ok (.aload_n 0, 1) := by decide +kernel
theorem d_Entities_forget_21 : decode b_Entities_forget 21 = .ok (.iconst 0, 1) := by decide +kernel
theorem d_Entities_forget_22 : decode b_Entities_forget 22 = .ok (.putfield 63, 3) := by decide +kernel
theorem d_Entities_forget_25 : decode b_Entities_forget 25 = .ok (.aload_n 0, 1) := by decide +kernel
theorem d_Entities_forget_26 : decode b_Entities_forget 26 = .ok (.iconst 0, 1) := by decide +kernel
theorem d_Entities_forget_27 : decode b_Entities_forget 27 = .ok (.putfield 66, 3) := by decide +kernel
theorem d_Entities_forget_30 : decode b_Entities_forget 30 = .ok (.aload_n 0, 1) := by decide +kernel
theorem d_Entities_forget_31 : decode b_Entities_forget 31 = .ok (.iconst 0, 1) := by decide +kernel
theorem d_Entities_forget_32 : decode b_Entities_forget 32 = .ok (.putfield 69, 3) := by decide +kernel
theorem d_Entities_forget_35 : decode b_Entities_forget 35 = .ok (.aload_n 0, 1) := by decide +kernel
theorem d_Entities_forget_36 : decode b_Entities_forget 36 = .ok (.iconst 0, 1) := by decide +kernel
theorem d_Entities_forget_37 : decode b_Entities_forget 37 = .ok (.putfield 72, 3) := by decide +kernel
theorem d_Entities_forget_40 : decode b_Entities_forget 40 = .ok (.aload_n 0, 1) := by decide +kernel
theorem d_Entities_forget_41 : decode b_Entities_forget 41 = .ok (.iconst 0, 1) := by decide +kernel
theorem d_Entities_forget_42 : decode b_Entities_forget 42 = .ok (.putfield 76, 3) := by decide +kernel
theorem d_Entities_forget_45 : decode b_Entities_forget 45 = .ok (.return_, 1) := by decide +kernel
theorem d_Entities_start_0 : decode b_Entities_start 0 = .ok (.aload_n 0, 1) := by decide +kernel
theorem d_Entities_start_1 : decode b_Entities_start 1 = .ok (.aload_n 0, 1) := by decide +kernel
theorem d_Entities_start_2 : decode b_Entities_start 2 = .ok (.getfield 9, 3) := by decide +kernel
theorem d_Entities_start_5 : decode b_Entities_start 5 = .ok (.getfield 79, 3) := by decide +kernel
theorem d_Entities_start_8 : decode b_Entities_start 8 = .ok (.putfield 82, 3) := by decide +kernel
theorem d_Entities_start_11 : decode b_Entities_start 11 = .ok (.return_, 1) := by decide +kernel
theorem d_Meanings_forget_0 : decode b_Meanings_forget 0 = .ok (.aload_n 0, 1) := by decide +kernel
theorem d_Meanings_forget_1 : decode b_Meanings_forget 1 = .ok (.getfield 25, 3) := by decide +kernel
theorem d_Meanings_forget_4 : decode b_Meanings_forget 4 = .ok (.iconst 0, 1) := by decide +kernel
theorem d_Meanings_forget_5 : decode b_Meanings_forget 5 = .ok (.iload_n 1, 1) := by decide +kernel
theorem d_Meanings_forget_6 : decode b_Meanings_forget 6 = .ok (.iconst 0, 1) := by decide +kernel
theorem d_Meanings_forget_7 : decode b_Meanings_forget 7 = .ok (.invokestatic 45, 3) := by decide +kernel
theorem d_Meanings_forget_10 : decode b_Meanings_forget 10 = .ok (.aload_n 0, 1) := by decide +kernel
theorem d_Meanings_forget_11 : decode b_Meanings_forget 11 = .ok (.getfield 31, 3) := by decide +kernel
theorem d_Meanings_forget_14 : decode b_Meanings_forget 14 = .ok (.iconst 0, 1) := by decide +kernel
theorem d_Meanings_forget_15 : decode b_Meanings_forget 15 = .ok (.iload_n 1, 1) := by decide +kernel
theorem d_Meanings_forget_16 : decode b_Meanings_forget 16 = .ok (.iconst 0, 1) := by decide +kernel
theorem d_Meanings_forget_17 : decode b_Meanings_forget 17 = .ok (.invokestatic 45, 3) := by decide +kernel
theorem d_Meanings_forget_20 : decode b_Meanings_forget 20 = .ok (.aload_n 0, 1) := by decide +kernel
theorem d_Meanings_forget_21 : decode b_Meanings_forget 21 = .ok (.getfield 31, 3) := by decide +kernel
theorem d_Meanings_forget_24 : decode b_Meanings_forget 24 = .ok (.bipush 6, 2) := by decide +kernel
theorem d_Meanings_forget_26 : decode b_Meanings_forget 26 = .ok (.bipush 8, 2) := by decide +kernel
theorem d_Meanings_forget_28 : decode b_Meanings_forget 28 = .ok (.iastore, 1) := by decide +kernel
theorem d_Meanings_forget_29 : decode b_Meanings_forget 29 = .ok (.return_, 1) := by decide +kernel
theorem d_Reader_at_0 : decode b_Reader_at 0 = .ok (.aload_n 1, 1) := by decide +kernel
theorem d_Reader_at_1 : decode b_Reader_at 1 = .ok (.invokevirtual 52, 3) := by decide +kernel
theorem d_Reader_at_4 : decode b_Reader_at 4 = .ok (.istore_n 2, 1) := by decide +kernel
theorem d_Reader_at_5 : decode b_Reader_at 5 = .ok (.aload_n 0, 1) := by decide +kernel
theorem d_Reader_at_6 : decode b_Reader_at 6 = .ok (.getfield 32, 3) := by decide +kernel
theorem d_Reader_at_9 : decode b_Reader_at 9 = .ok (.aload_n 0, 1) := by decide +kernel
theorem d_Reader_at_10 : decode b_Reader_at 10 = .ok (.getfield 26, 3) := by decide +kernel
theorem d_Reader_at_13 : decode b_Reader_at 13 = .ok (.isub, 1) := by decide +kernel
theorem d_Reader_at_14 : decode b_Reader_at 14 = .ok (.iload_n 2, 1) := by decide +kernel
theorem d_Reader_at_15 : decode b_Reader_at 15 = .ok (.if_icmp .ge 5, 3) := by decide +kernel
theorem d_Reader_at_18 : decode b_Reader_at 18 = .ok (.iconst 0, 1) := by decide +kernel
theorem d_Reader_at_19 : decode b_Reader_at 19 = .ok (.ireturn, 1) := by decide +kernel
theorem d_Reader_fail_0 : decode b_Reader_fail 0 = .ok (.aload_n 0, 1) := by decide +kernel
theorem d_Reader_fail_1 : decode b_Reader_fail 1 = .ok (.getfield 35, 3) := by decide +kernel
theorem d_Reader_fail_4 : decode b_Reader_fail 4 = .ok (.ifCond .ne 8, 3) := by decide +kernel
theorem d_Reader_fail_7 : decode b_Reader_fail 7 = .ok (.aload_n 0, 1) := by decide +kernel
theorem d_Reader_fail_8 : decode b_Reader_fail 8 = .ok (.iload_n 1, 1) := by decide +kernel
theorem d_Reader_fail_9 : decode b_Reader_fail 9 = .ok (.putfield 35, 3) := by decide +kernel
theorem d_Reader_fail_12 : decode b_Reader_fail 12 = .ok (.return_, 1) := by decide +kernel
theorem d_Reader_start_0 : decode b_Reader_start 0 = .ok (.aload_n 0, 1) := by decide +kernel
theorem d_Reader_start_1 : decode b_Reader_start 1 = .ok (.aload_n 0, 1) := by decide +kernel
theorem d_Reader_start_2 : decode b_Reader_start 2 = .ok (.getfield 9, 3) := by decide +kernel
theorem d_Reader_start_5 : decode b_Reader_start 5 = .ok (.getfield 22, 3) := by decide +kernel
theorem d_Reader_start_8 : decode b_Reader_start 8 = .ok (.putfield 26, 3) := by decide +kernel
theorem d_Reader_start_11 : decode b_Reader_start 11 = .ok (.aload_n 0, 1) := by decide +kernel
theorem d_Reader_start_12 : decode b_Reader_start 12 = .ok (.aload_n 0, 1) := by decide +kernel
theorem d_Reader_start_13 : decode b_Reader_start 13 = .ok (.getfield 9, 3) := by decide +kernel
theorem d_Reader_start_16 : decode b_Reader_start 16 = .ok (.getfield 29, 3) := by decide +kernel
theorem d_Reader_start_19 : decode b_Reader_start 19 = .ok (.putfield 32, 3) := by decide +kernel
theorem d_Reader_start_22 : decode b_Reader_start 22 = .ok (.aload_n 0, 1) := by decide +kernel
theorem d_Reader_start_23 : decode b_Reader_start 23 = .ok (.iconst 0, 1) := by decide +kernel
theorem d_Reader_start_24 : decode b_Reader_start 24 = .ok (.putfield 35, 3) := by decide +kernel
theorem d_Reader_start_27 : decode b_Reader_start 27 = .ok (.aload_n 0, 1) := by decide +kernel
theorem d_Reader_start_28 : decode b_Reader_start 28 = .ok (.iconst 0, 1) := by decide +kernel
theorem d_Reader_start_29 : decode b_Reader_start 29 = .ok (.putfield 38, 3) := by decide +kernel
theorem d_Reader_start_32 : decode b_Reader_start 32 = .ok (.aload_n 0, 1) := by decide +kernel
theorem d_Reader_start_33 : decode b_Reader_start 33 = .ok (.iconst 0, 1) := by decide +kernel
theorem d_Reader_start_34 : decode b_Reader_start 34 = .ok (.putfield 41, 3) := by decide +kernel
theorem d_Reader_start_37 : decode b_Reader_start 37 = .ok (.return_, 1) := by decide +kernel
theorem d_Store_forget_0 : decode b_Store_forget 0 = .ok (.aload_n 0, 1) := by decide +kernel
theorem d_Store_forget_1 : decode b_Store_forget 1 = .ok (.getfield 92, 3) := by decide +kernel
theorem d_Store_forget_4 : decode b_Store_forget 4 = .ok (.iconst 1, 1) := by decide +kernel
theorem d_Store_forget_5 : decode b_Store_forget 5 = .ok (.isub, 1) := by decide +kernel
theorem d_Store_forget_6 : decode b_Store_forget 6 = .ok (.istore_n 1, 1) := by decide +kernel
theorem d_Store_forget_7 : decode b_Store_forget 7 = .ok (.iload_n 1, 1) := by decide +kernel
theorem d_Store_forget_8 : decode b_Store_forget 8 = .ok (.aload_n 0, 1) := by decide +kernel
theorem d_Store_forget_9 : decode b_Store_forget 9 = .ok (.getfield 95, 3) := by decide +kernel
theorem d_Store_forget_12 : decode b_Store_forget 12 = .ok (.if_icmp .lt 34, 3) := by decide +kernel
theorem d_Store_forget_46 : decode b_Store_forget 46 = .ok (.aload_n 0, 1) := by decide +kernel
theorem d_Store_forget_47 : decode b_Store_forget 47 = .ok (.aload_n 0, 1) := by decide +kernel
theorem d_Store_forget_48 : decode b_Store_forget 48 = .ok (.getfield 95, 3) := by decide +kernel
theorem d_Store_forget_51 : decode b_Store_forget 51 = .ok (.putfield 92, 3) := by decide +kernel
theorem d_Store_forget_54 : decode b_Store_forget 54 = .ok (.aload_n 0, 1) := by decide +kernel
theorem d_Store_forget_55 : decode b_Store_forget 55 = .ok (.aload_n 0, 1) := by decide +kernel
theorem d_Store_forget_56 : decode b_Store_forget 56 = .ok (.getfield 101, 3) := by decide +kernel
theorem d_Store_forget_59 : decode b_Store_forget 59 = .ok (.putfield 98, 3) := by decide +kernel
theorem d_Store_forget_62 : decode b_Store_forget 62 = .ok (.aload_n 0, 1) := by decide +kernel
theorem d_Store_forget_63 : decode b_Store_forget 63 = .ok (.iconst 0, 1) := by decide +kernel
theorem d_Store_forget_64 : decode b_Store_forget 64 = .ok (.putfield 121, 3) := by decide +kernel
theorem d_Store_forget_67 : decode b_Store_forget 67 = .ok (.aload_n 0, 1) := by decide +kernel
theorem d_Store_forget_68 : decode b_Store_forget 68 = .ok (.iconst 0, 1) := by decide +kernel
theorem d_Store_forget_69 : decode b_Store_forget 69 = .ok (.putfield 123, 3) := by decide +kernel
theorem d_Store_forget_72 : decode b_Store_forget 72 = .ok (.return_, 1) := by decide +kernel
theorem d_Store_load_0 : decode b_Store_load 0 = .ok (.iload_n 2, 1) := by decide +kernel
theorem d_Store_load_1 : decode b_Store_load 1 = .ok (.ifCond .le 13, 3) := by decide +kernel
theorem d_Store_load_14 : decode b_Store_load 14 = .ok (.iconst 0, 1) := by decide +kernel
theorem d_Store_load_15 : decode b_Store_load 15 = .ok (.istore_n 3, 1) := by decide +kernel
theorem d_Store_load_16 : decode b_Store_load 16 = .ok (.iload_n 2, 1) := by decide +kernel
theorem d_Store_load_17 : decode b_Store_load 17 = .ok (.iconst 1, 1) := by decide +kernel
theorem d_Store_load_18 : decode b_Store_load 18 = .ok (.if_icmp .le 13, 3) := by decide +kernel
theorem d_Store_load_31 : decode b_Store_load 31 = .ok (.iconst 0, 1) := by decide +kernel
theorem d_Store_load_32 : decode b_Store_load 32 = .ok (.istore 4, 2) := by decide +kernel
theorem d_Store_load_34 : decode b_Store_load 34 = .ok (.iload_n 3, 1) := by decide +kernel
theorem d_Store_load_35 : decode b_Store_load 35 = .ok (.sipush 254, 3) := by decide +kernel
theorem d_Store_load_38 : decode b_Store_load 38 = .ok (.if_icmp .ne 15, 3) := by decide +kernel
theorem d_Store_load_53 : decode b_Store_load 53 = .ok (.iconst 0, 1) := by decide +kernel
theorem d_Store_load_54 : decode b_Store_load 54 = .ok (.istore 5, 2) := by decide +kernel
theorem d_Store_load_56 : decode b_Store_load 56 = .ok (.aload_n 0, 1) := by decide +kernel
theorem d_Store_load_57 : decode b_Store_load 57 = .ok (.iload 5, 2) := by decide +kernel
theorem d_Store_load_59 : decode b_Store_load 59 = .ok (.ifCond .ne 18, 3) := by decide +kernel
theorem d_Store_load_62 : decode b_Store_load 62 = .ok (.iload_n 3, 1) := by decide +kernel
theorem d_Store_load_63 : decode b_Store_load 63 = .ok (.sipush 255, 3) := by decide +kernel
theorem d_Store_load_66 : decode b_Store_load 66 = .ok (.if_icmp .ne 15, 3) := by decide +kernel
theorem d_Store_load_81 : decode b_Store_load 81 = .ok (.iconst 0, 1) := by decide +kernel
theorem d_Store_load_82 : decode b_Store_load 82 = .ok (.putfield 127, 3) := by decide +kernel
theorem d_Store_load_85 : decode b_Store_load 85 = .ok (.aload_n 0, 1) := by decide +kernel
theorem d_Store_load_86 : decode b_Store_load 86 = .ok (.getfield 127, 3) := by decide +kernel
theorem d_Store_load_89 : decode b_Store_load 89 = .ok (.ifCond .eq 20, 3) := by decide +kernel
theorem d_Store_load_109 : decode b_Store_load 109 = .ok (.iload_n 2, 1) := by decide +kernel
theorem d_Store_load_110 : decode b_Store_load 110 = .ok (.iconst 2, 1) := by decide +kernel
theorem d_Store_load_111 : decode b_Store_load 111 = .ok (.if_icmp .le 35, 3) := by decide +kernel
theorem d_Store_load_146 : decode b_Store_load 146 = .ok (.iconst 0, 1) := by decide +kernel
theorem d_Store_load_147 : decode b_Store_load 147 = .ok (.istore 6, 2) := by decide +kernel
theorem d_Store_load_149 : decode b_Store_load 149 = .ok (.aload_n 0, 1) := by decide +kernel
theorem d_Store_load_150 : decode b_Store_load 150 = .ok (.aload_n 1, 1) := by decide +kernel
theorem d_Store_load_151 : decode b_Store_load 151 = .ok (.iload_n 2, 1) := by decide +kernel
theorem d_Store_load_152 : decode b_Store_load 152 = .ok (.iload 6, 2) := by decide +kernel
theorem d_Store_load_154 : decode b_Store_load 154 = .ok (.ifCond .eq 7, 3) := by decide +kernel
theorem d_Store_load_161 : decode b_Store_load 161 = .ok (.iconst 0, 1) := by decide +kernel
theorem d_Store_load_162 : decode b_Store_load 162 = .ok (.invokevirtual 134, 3) := by decide +kernel
theorem d_Store_load_165 : decode b_Store_load 165 = .ok (.ireturn, 1) := by decide +kernel
theorem d_Store_loadNarrow_0 : decode b_Store_loadNarrow 0 = .ok (.iload_n 3, 1) := by decide +kernel
theorem d_Store_loadNarrow_1 : decode b_Store_loadNarrow 1 = .ok (.istore 5, 2) := by decide +kernel
theorem d_Store_loadNarrow_3 : decode b_Store_loadNarrow 3 = .ok (.iload 5, 2) := by decide +kernel
theorem d_Store_loadNarrow_5 : decode b_Store_loadNarrow 5 = .ok (.iload_n 2, 1) := by decide +kernel
theorem d_Store_loadNarrow_6 : decode b_Store_loadNarrow 6 = .ok (.if_icmp .ge 205, 3) := by decide +kernel
theorem d_Store_loadNarrow_211 : decode b_Store_loadNarrow 211 = .ok (.iconst (-1), 1) := by decide +kernel
theorem d_Store_loadNarrow_212 : decode b_Store_loadNarrow 212 = .ok (.ireturn, 1) := by decide +kernel
theorem d_Tree_forget_0 : decode b_Tree_forget 0 = .ok (.aload_n 0, 1) := by decide +kernel
theorem d_Tree_forget_1 : decode b_Tree_forget 1 = .ok (.iconst 0, 1) := by decide +kernel
theorem d_Tree_forget_2 : decode b_Tree_forget 2 = .ok (.putfield 49, 3) := by decide +kernel
theorem d_Tree_forget_5 : decode b_Tree_forget 5 = .ok (.aload_n 0, 1) := by decide +kernel
theorem d_Tree_forget_6 : decode b_Tree_forget 6 = .ok (.iconst 0, 1) := by decide +kernel
theorem d_Tree_forget_7 : decode b_Tree_forget 7 = .ok (.putfield 52, 3) := by decide +kernel
theorem d_Tree_forget_10 : decode b_Tree_forget 10 = .ok (.aload_n 0, 1) := by decide +kernel
theorem d_Tree_forget_11 : decode b_Tree_forget 11 = .ok (.iconst 0, 1) := by decide +kernel
theorem d_Tree_forget_12 : decode b_Tree_forget 12 = .ok (.putfield 55, 3) := by decide +kernel
theorem d_Tree_forget_15 : decode b_Tree_forget 15 = .ok (.aload_n 0, 1) := by decide +kernel
theorem d_Tree_forget_16 : decode b_Tree_forget 16 = .ok (.iconst 0, 1) := by decide +kernel
theorem d_Tree_forget_17 : decode b_Tree_forget 17 = .ok (.putfield 58, 3) := by decide +kernel
theorem d_Tree_forget_20 : decode b_Tree_forget 20 = .ok (.aload_n 0, 1) := by decide +kernel
theorem d_Tree_forget_21 : decode b_Tree_forget 21 = .ok (.iconst 0, 1) := by decide +kernel
theorem d_Tree_forget_22 : decode b_Tree_forget 22 = .ok (.putfield 61, 3) := by decide +kernel
theorem d_Tree_forget_25 : decode b_Tree_forget 25 = .ok (.aload_n 0, 1) := by decide +kernel
theorem d_Tree_forget_26 : decode b_Tree_forget 26 = .ok (.iconst (-1), 1) := by decide +kernel
theorem d_Tree_forget_27 : decode b_Tree_forget 27 = .ok (.putfield 46, 3) := by decide +kernel
theorem d_Tree_forget_30 : decode b_Tree_forget 30 = .ok (.return_, 1) := by decide +kernel
theorem d_Arrays_fill1_0 : decode b_Arrays_fill1 0 = .ok (.aload_n 0, 1) := by decide +kernel
theorem d_Arrays_fill1_1 : decode b_Arrays_fill1 1 = .ok (.arraylength, 1) := by decide +kernel
theorem d_Arrays_fill1_2 : decode b_Arrays_fill1 2 = .ok (.iload_n 1, 1) := by decide +kernel
theorem d_Arrays_fill1_3 : decode b_Arrays_fill1 3 = .ok (.iload_n 2, 1) := by decide +kernel
theorem d_Arrays_fill1_4 : decode b_Arrays_fill1 4 = .ok (.invokestatic 13, 3) := by decide +kernel
theorem d_Arrays_fill1_7 : decode b_Arrays_fill1 7 = .ok (.iload_n 1, 1) := by decide +kernel
theorem d_Arrays_fill1_8 : decode b_Arrays_fill1 8 = .ok (.istore 4, 2) := by decide +kernel
theorem d_Arrays_fill1_10 : decode b_Arrays_fill1 10 = .ok (.iload 4, 2) := by decide +kernel
theorem d_Arrays_fill1_12 : decode b_Arrays_fill1 12 = .ok (.iload_n 2, 1) := by decide +kernel
theorem d_Arrays_fill1_13 : decode b_Arrays_fill1 13 = .ok (.if_icmp .ge 14, 3) := by decide +kernel
theorem d_Arrays_fill1_16 : decode b_Arrays_fill1 16 = .ok (.aload_n 0, 1) := by decide +kernel
theorem d_Arrays_fill1_17 : decode b_Arrays_fill1 17 = .ok (.iload 4, 2) := by decide +kernel
theorem d_Arrays_fill1_19 : decode b_Arrays_fill1 19 = .ok (.iload_n 3, 1) := by decide +kernel
theorem d_Arrays_fill1_20 : decode b_Arrays_fill1 20 = .ok (.iastore, 1) := by decide +kernel
theorem d_Arrays_fill1_21 : decode b_Arrays_fill1 21 = .ok (.iinc 4 1, 3) := by decide +kernel
theorem d_Arrays_fill1_24 : decode b_Arrays_fill1 24 = .ok (.goto (-14), 3) := by decide +kernel
theorem d_Arrays_fill1_27 : decode b_Arrays_fill1 27 = .ok (.return_, 1) := by decide +kernel
theorem d_Arrays_rangeCheck_0 : decode b_Arrays_rangeCheck 0 = .ok (.iload_n 1, 1) := by decide +kernel
theorem d_Arrays_rangeCheck_1 : decode b_Arrays_rangeCheck 1 = .ok (.iload_n 2, 1) := by decide +kernel
theorem d_Arrays_rangeCheck_2 : decode b_Arrays_rangeCheck 2 = .ok (.if_icmp .le 44, 3) := by decide +kernel
theorem d_Arrays_rangeCheck_46 : decode b_Arrays_rangeCheck 46 = .ok (.iload_n 1, 1) := by decide +kernel
theorem d_Arrays_rangeCheck_47 : decode b_Arrays_rangeCheck 47 = .ok (.ifCond .ge 12, 3) := by decide +kernel
theorem d_Arrays_rangeCheck_59 : decode b_Arrays_rangeCheck 59 = .ok (.iload_n 2, 1) := by decide +kernel
theorem d_Arrays_rangeCheck_60 : decode b_Arrays_rangeCheck 60 = .ok (.iload_n 0, 1) := by decide +kernel
theorem d_Arrays_rangeCheck_61 : decode b_Arrays_rangeCheck 61 = .ok (.if_icmp .le 12, 3) := by decide +kernel
theorem d_Arrays_rangeCheck_73 : decode b_Arrays_rangeCheck 73 = .ok (.return_, 1) := by decide +kernel
theorem nI_m1_lt {w : Nat} (h : w < 2 ^ 30) : nI w - 1 < nI w := by
  rw [Int32.lt_iff_toInt_lt, show (1 : Int32) = nI 1 from rfl, pk_sub_toInt h (by decide), nI_toInt (by omega)]; omega
set_option maxHeartbeats 4000000 in
set_option maxRecDepth 100000 in
/-- Arrays.rangeCheck -/
theorem c_rangeCheck (l : Launch) (D : va_G) (tI tB tZ tL : ClassId) (X : (Nat → Prop) → State → Prop) (hX : Ro X) (n a b : Nat) (hab : a ≤ b) (hbn : b ≤ n) (hn : n < 2 ^ 30) : CtV l D tI tB tZ tL X y_Arrays_rangeCheck b_Arrays_rangeCheck 3 ({ frames := 0, cells := 0, slots := 0, locals := 0 }) [.int (nI n), .int (nI a), .int (nI b)] [] (S := Unit) (fun (_ : Unit) => True) (fun _ => []) := by
  refine CtV.start hX (by decide) (Nat.le_of_ble_eq_true rfl) ?_
  intro p e s m args below meth c A ls C hr hlk hin hW hl
  refine W.nameQ (fun Q hQ => ?_)
  have hx := C.1.1
  have hb := C.1.2.1
  have hown := C.1.2.2.2.1
  have hT := C.1.2.2.2.2
  have hl : lv_has ls 3 [(0, .int (nI n)), (1, .int (nI a)), (2, .int (nI b))] := hl
  refine lv_iload_n hx hb d_Arrays_rangeCheck_0 rfl (lv_at hl 1 rfl) ?_
  refine lv_iload_n hx hb d_Arrays_rangeCheck_1 rfl (lv_at hl 2 rfl) ?_
  refine lv_icmp_le (tgt := 46) hx hb d_Arrays_rangeCheck_2 (by decide) (fun c_2 => ?_) (fun c_2 => absurd (nI_le hab (by omega)) c_2)
  refine lv_iload_n hx hb d_Arrays_rangeCheck_46 rfl (lv_at hl 1 rfl) ?_
  refine lv_if_ge (tgt := 59) hx hb d_Arrays_rangeCheck_47 (by decide) (fun c_47 => ?_) (fun c_47 => absurd (nI_pos' (by omega)) c_47)
  refine lv_iload_n hx hb d_Arrays_rangeCheck_59 rfl (lv_at hl 2 rfl) ?_
  refine lv_iload_n hx hb d_Arrays_rangeCheck_60 rfl (lv_at hl 0 rfl) ?_
  refine lv_icmp_le (tgt := 73) hx hb d_Arrays_rangeCheck_61 (by decide) (fun c_61 => ?_) (fun c_61 => absurd (nI_le hbn (by omega)) c_61)
  rw [hQ]
  exact r_vret C hr hlk hW () trivial [] (by decide) rfl d_Arrays_rangeCheck_73 (by decide) (by decide)
set_option maxHeartbeats 4000000 in
set_option maxRecDepth 100000 in
/-- Arrays.fill(a, 0, b, v) -/
theorem c_fill4 (l : Launch) (D : va_G) (tI tB tZ tL : ClassId) (X : (Nat → Prop) → State → Prop) (hX : Ro X) (h0 nn b : Nat) (v : Int32) (f : Nat → Int32) (hbn : b ≤ nn) (hnn : nn < 2 ^ 30) : CtV l D tI tB tZ tL X y_Arrays_fill1 b_Arrays_fill1 5 ({ frames := 1, cells := 0, slots := 0, locals := 22 }) [.ref h0, .int 0, .int (nI b), .int v] [(h0, .inl (tI, nn, .inl f))] (S := Nat → Int32) (fun g => (∀ j, j < b → g j = v) ∧ ∀ j, b ≤ j → g j = f j) (fun g => [(h0, .inl (tI, nn, .inl g))]) := by
  refine CtV.start hX (by decide) (Nat.le_of_ble_eq_true rfl) ?_
  intro p e s m args below meth c A ls C hr hlk hin hW hl
  refine W.nameQ (fun Q hQ => ?_)
  have hx := C.1.1
  have hb := C.1.2.1
  have hown := C.1.2.2.2.1
  have hT := C.1.2.2.2.2
  have hl : lv_has ls 5 [(0, .ref h0), (1, .int 0), (2, .int (nI b)), (3, .int v)] := hl
  refine lv_aload_n hx hb d_Arrays_fill1_0 rfl (lv_at hl 0 rfl) ?_
  refine r_len C hW 0 0 rfl rfl d_Arrays_fill1_1 ?_
  refine lv_iload_n hx hb d_Arrays_fill1_2 rfl (lv_at hl 1 rfl) ?_
  refine lv_iload_n hx hb d_Arrays_fill1_3 rfl (lv_at hl 2 rfl) ?_
  refine r_callS [.int (nI nn), .int 0, .int (nI b)] [] C hl.1 hW (c_rangeCheck l D tI tB tZ tL X hX nn 0 b (by omega) hbn hnn) ok_Arrays_rangeCheck w_851 (wr := [(h0, .inl (tI, nn, .inl f))]) [] [0] rfl rfl (by decide) (by decide) (by decide) rfl (by decide) (Nat.le_of_ble_eq_true rfl) (by decide) d_Arrays_fill1_4 (fun u_ H locs hu hW => ?_)
  have hW : Wd D A s [(h0, .inl (tI, nn, .inl f))] H _ := hW
  refine lv_iload_n hx hb d_Arrays_fill1_7 rfl (lv_at hl 1 rfl) ?_
  refine lv_istore (lv' := [(4, .int 0), (0, .ref h0), (1, .int 0), (2, .int (nI b)), (3, .int v)]) hx hb d_Arrays_fill1_8 hl (by decide) rfl (fun ls hl => ?_)
  have loop : ∀ (fu_loop : Nat) (k : Nat) (g : Nat → Int32) (H : Heap) (locs : List Loc) (ls : Array Slot), b + 1 ≤ k + fu_loop → (k ≤ b) → (∀ j, j < k → g j = v) → (∀ j, b ≤ j → g j = f j) → Wd D A s [(h0, .inl (tI, nn, .inl g))] H locs → lv_has ls 5 [(4, .int (nI k)), (0, .ref h0), (1, .int 0), (2, .int (nI b)), (3, .int v)] → W p l e ({ frames := 1, cells := 0, slots := 0, locals := 22 }) s m args below meth c H locs 0 0 Q (F0 m 10 ls []) := by
    intro fu_loop
    induction fu_loop with
    | zero => intro k g H locs ls hn hk hf hf2 hW hl; exact absurd hn (by omega)
    | succ fu_loop ih_loop =>
      intro k g H locs ls hn hk hf hf2 hW hl
      refine lv_iload hx hb d_Arrays_fill1_10 (lv_at hl 0 rfl) ?_
      refine lv_iload_n hx hb d_Arrays_fill1_12 rfl (lv_at hl 3 rfl) ?_
      refine lv_icmp_ge (tgt := 27) hx hb d_Arrays_fill1_13 (by decide) (fun c_13 => ?_) (fun c_13 => ?_)
      · rw [hQ]
        exact r_vret C hr hlk hW g ⟨fun j hj => hf j (Nat.lt_of_lt_of_le hj (k_le c_13 (by omega) (by omega))), hf2⟩ [0] (by decide) rfl d_Arrays_fill1_27 (by decide) (by decide)
      · have hk2 : k < b := k_nle c_13 (by omega) (by omega)
        refine lv_aload_n hx hb d_Arrays_fill1_16 rfl (lv_at hl 1 rfl) ?_
        refine lv_iload hx hb d_Arrays_fill1_17 (lv_at hl 0 rfl) ?_
        refine lv_iload_n hx hb d_Arrays_fill1_19 rfl (lv_at hl 4 rfl) ?_
        refine r_stI C hW 0 rfl k rfl (by omega) (by omega) d_Arrays_fill1_20 (fun H locs hW => ?_)
        have hW : Wd D A s [(h0, .inl (tI, nn, .inl (upd g k v)))] H _ := hW
        refine lv_iinc (v := (nI (k + 1))) (lv' := [(4, .int (nI (k + 1))), (0, .ref h0), (1, .int 0), (2, .int (nI b)), (3, .int v)]) hx hb d_Arrays_fill1_21 hl (k := 0) rfl (nI_1 k) (by decide) rfl (fun ls hl => ?_)
        refine lv_goto (tgt := 10) hx hb d_Arrays_fill1_24 (by decide) ?_
        exact ih_loop (k + 1) (upd g k v) H locs ls (by omega) (by omega) (upd_lt (P := fun _ z => z = v) hf rfl) (fun j hj => by rw [pk_un (by omega)]; exact hf2 j hj) (hW.sub [0] (by decide) rfl) (lv_sub hl [0, 1, 2, 3, 4] rfl)
  exact loop (b + 1) 0 f _ _ _ (by omega) (by omega) (fun _ h => absurd h (Nat.not_lt_zero _)) (fun _ _ => rfl) (hW.sub [0] (by decide) rfl) (lv_sub hl [0, 1, 2, 3, 4] rfl)
set_option maxHeartbeats 4000000 in
set_option maxRecDepth 100000 in
theorem c_Entities_forget (l : Launch) (D : va_G) (tI tB tZ tL : ClassId) (X : (Nat → Prop) → State → Prop) (hX : Ro X) (aE aS aR e_from e_size e_open e_general e_parameter e_framePos e_frameStop e_frameEntity e_frameElement : Nat) (f0 f1 : Nat → Int32) (nm wd : Nat) (hwd : wd ≤ nm) (hnm : nm < 2 ^ 30) : CtV l D tI tB tZ tL X y_Entities_forget b_Entities_forget 2 ({ frames := 2, cells := 0, slots := 0, locals := 46 }) [.ref aE, .int (nI wd)] [(aE, .inr (3, [.ref aS, .ref aR, .ref e_from, .ref e_size, .ref e_open, .int 0, .ref e_general, .ref e_parameter, .ref e_framePos, .ref e_frameStop, .ref e_frameEntity, .ref e_frameElement, .int 0, .int 0, .int 0, .int 0, .int 0])), (e_general, .inl (tI, nm, .inl f0)), (e_parameter, .inl (tI, nm, .inl f1))] (S := Nat → Nat → Int32) (fun _ => True) (fun u => [(aE, .inr (3, [.ref aS, .ref aR, .ref e_from, .ref e_size, .ref e_open, .int 0, .ref e_general, .ref e_parameter, .ref e_framePos, .ref e_frameStop, .ref e_frameEntity, .ref e_frameElement, .int 0, .int 0, .int 0, .int 0, .int 0])), (e_general, .inl (tI, nm, .inl (u 0))), (e_parameter, .inl (tI, nm, .inl (u 1)))]) := by
  refine CtV.start hX (by decide) (Nat.le_of_ble_eq_true rfl) ?_
  intro p e s m args below meth c A ls C hr hlk hin hW hl
  refine W.nameQ (fun Q hQ => ?_)
  have hx := C.1.1
  have hb := C.1.2.1
  have hown := C.1.2.2.2.1
  have hT := C.1.2.2.2.2
  have hl : lv_has ls 2 [(0, .ref aE), (1, .int (nI wd))] := hl
  refine lv_aload_n hx hb d_Entities_forget_0 rfl (lv_at hl 0 rfl) ?_
  refine r_get C hW 0 rfl k_Entities i_Entities 6 (by decide) rfl w_306 d_Entities_forget_1 ?_
  refine lv_iconst (v := 0) hx hb d_Entities_forget_4 (by decide) ?_
  refine lv_iload_n hx hb d_Entities_forget_5 rfl (lv_at hl 1 rfl) ?_
  refine lv_iconst (v := 0) hx hb d_Entities_forget_6 (by decide) ?_
  refine r_callS [.ref e_general, .int 0, .int (nI wd), .int 0] [] C hl.1 hW (c_fill4 l D tI tB tZ tL X hX e_general nm wd 0 f0 (by omega) (by omega)) ok_Arrays_fill1 w_848 (wr := [(aE, .inr (3, [.ref aS, .ref aR, .ref e_from, .ref e_size, .ref e_open, .int 0, .ref e_general, .ref e_parameter, .ref e_framePos, .ref e_frameStop, .ref e_frameEntity, .ref e_frameElement, .int 0, .int 0, .int 0, .int 0, .int 0])), (e_parameter, .inl (tI, nm, .inl f1))]) [1] [0, 2] rfl rfl (by decide) (by decide) (by decide) rfl (by decide) (Nat.le_of_ble_eq_true rfl) (by decide) d_Entities_forget_7 (fun g0 H locs hg0 hW => ?_)
  have hW : Wd D A s [(aE, .inr (3, [.ref aS, .ref aR, .ref e_from, .ref e_size, .ref e_open, .int 0, .ref e_general, .ref e_parameter, .ref e_framePos, .ref e_frameStop, .ref e_frameEntity, .ref e_frameElement, .int 0, .int 0, .int 0, .int 0, .int 0])), (e_parameter, .inl (tI, nm, .inl f1)), (e_general, .inl (tI, nm, .inl g0))] H _ := hW
  refine lv_aload_n hx hb d_Entities_forget_10 rfl (lv_at hl 0 rfl) ?_
  refine r_get C hW 0 rfl k_Entities i_Entities 7 (by decide) rfl w_307 d_Entities_forget_11 ?_
  refine lv_iconst (v := 0) hx hb d_Entities_forget_14 (by decide) ?_
  refine lv_iload_n hx hb d_Entities_forget_15 rfl (lv_at hl 1 rfl) ?_
  refine lv_iconst (v := 0) hx hb d_Entities_forget_16 (by decide) ?_
  refine r_callS [.ref e_parameter, .int 0, .int (nI wd), .int 0] [] C hl.1 hW (c_fill4 l D tI tB tZ tL X hX e_parameter nm wd 0 f1 (by omega) (by omega)) ok_Arrays_fill1 w_848 (wr := [(aE, .inr (3, [.ref aS, .ref aR, .ref e_from, .ref e_size, .ref e_open, .int 0, .ref e_general, .ref e_parameter, .ref e_framePos, .ref e_frameStop, .ref e_frameEntity, .ref e_frameElement, .int 0, .int 0, .int 0, .int 0, .int 0])), (e_general, .inl (tI, nm, .inl g0))]) [1] [0, 2] rfl rfl (by decide) (by decide) (by decide) rfl (by decide) (Nat.le_of_ble_eq_true rfl) (by decide) d_Entities_forget_17 (fun g1 H locs hg1 hW => ?_)
  have hW : Wd D A s [(aE, .inr (3, [.ref aS, .ref aR, .ref e_from, .ref e_size, .ref e_open, .int 0, .ref e_general, .ref e_parameter, .ref e_framePos, .ref e_frameStop, .ref e_frameEntity, .ref e_frameElement, .int 0, .int 0, .int 0, .int 0, .int 0])), (e_general, .inl (tI, nm, .inl g0)), (e_parameter, .inl (tI, nm, .inl g1))] H _ := hW
  refine lv_aload_n hx hb d_Entities_forget_20 rfl (lv_at hl 0 rfl) ?_
  refine lv_iconst (v := 0) hx hb d_Entities_forget_21 (by decide) ?_
  refine r_put (v := .int 0) (ty := .int) C hW 0 rfl k_Entities i_Entities t_Entities o_Entities n_Entities 5 (by decide) w_305 rfl (by decide +kernel) rfl rfl (Nat.le_of_ble_eq_true rfl) d_Entities_forget_22 (fun H locs hW => ?_)
  have hW : Wd D A s [(aE, .inr (3, [.ref aS, .ref aR, .ref e_from, .ref e_size, .ref e_open, .int 0, .ref e_general, .ref e_parameter, .ref e_framePos, .ref e_frameStop, .ref e_frameEntity, .ref e_frameElement, .int 0, .int 0, .int 0, .int 0, .int 0])), (e_general, .inl (tI, nm, .inl g0)), (e_parameter, .inl (tI, nm, .inl g1))] H _ := hW
  refine lv_aload_n hx hb d_Entities_forget_25 rfl (lv_at hl 0 rfl) ?_
  refine lv_iconst (v := 0) hx hb d_Entities_forget_26 (by decide) ?_
  refine r_put (v := .int 0) (ty := .int) C hW 0 rfl k_Entities i_Entities t_Entities o_Entities n_Entities 12 (by decide) w_312 rfl (by decide +kernel) rfl rfl (Nat.le_of_ble_eq_true rfl) d_Entities_forget_27 (fun H locs hW => ?_)
  have hW : Wd D A s [(aE, .inr (3, [.ref aS, .ref aR, .ref e_from, .ref e_size, .ref e_open, .int 0, .ref e_general, .ref e_parameter, .ref e_framePos, .ref e_frameStop, .ref e_frameEntity, .ref e_frameElement, .int 0, .int 0, .int 0, .int 0, .int 0])), (e_general, .inl (tI, nm, .inl g0)), (e_parameter, .inl (tI, nm, .inl g1))] H _ := hW
  refine lv_aload_n hx hb d_Entities_forget_30 rfl (lv_at hl 0 rfl) ?_
  refine lv_iconst (v := 0) hx hb d_Entities_forget_31 (by decide) ?_
  refine r_put (v := .int 0) (ty := .int) C hW 0 rfl k_Entities i_Entities t_Entities o_Entities n_Entities 14 (by decide) w_317 rfl (by decide +kernel) rfl rfl (Nat.le_of_ble_eq_true rfl) d_Entities_forget_32 (fun H locs hW => ?_)
  have hW : Wd D A s [(aE, .inr (3, [.ref aS, .ref aR, .ref e_from, .ref e_size, .ref e_open, .int 0, .ref e_general, .ref e_parameter, .ref e_framePos, .ref e_frameStop, .ref e_frameEntity, .ref e_frameElement, .int 0, .int 0, .int 0, .int 0, .int 0])), (e_general, .inl (tI, nm, .inl g0)), (e_parameter, .inl (tI, nm, .inl g1))] H _ := hW
  refine lv_aload_n hx hb d_Entities_forget_35 rfl (lv_at hl 0 rfl) ?_
  refine lv_iconst (v := 0) hx hb d_Entities_forget_36 (by decide) ?_
  refine r_put (v := .int 0) (ty := .boolean) C hW 0 rfl k_Entities i_Entities t_Entities o_Entities n_Entities 15 (by decide) w_320 rfl (by decide +kernel) rfl rfl (Nat.le_of_ble_eq_true rfl) d_Entities_forget_37 (fun H locs hW => ?_)
  have hW : Wd D A s [(aE, .inr (3, [.ref aS, .ref aR, .ref e_from, .ref e_size, .ref e_open, .int 0, .ref e_general, .ref e_parameter, .ref e_framePos, .ref e_frameStop, .ref e_frameEntity, .ref e_frameElement, .int 0, .int 0, .int 0, .int 0, .int 0])), (e_general, .inl (tI, nm, .inl g0)), (e_parameter, .inl (tI, nm, .inl g1))] H _ := hW
  refine lv_aload_n hx hb d_Entities_forget_40 rfl (lv_at hl 0 rfl) ?_
  refine lv_iconst (v := 0) hx hb d_Entities_forget_41 (by decide) ?_
  refine r_put (v := .int 0) (ty := .boolean) C hW 0 rfl k_Entities i_Entities t_Entities o_Entities n_Entities 16 (by decide) w_322 rfl (by decide +kernel) rfl rfl (Nat.le_of_ble_eq_true rfl) d_Entities_forget_42 (fun H locs hW => ?_)
  have hW : Wd D A s [(aE, .inr (3, [.ref aS, .ref aR, .ref e_from, .ref e_size, .ref e_open, .int 0, .ref e_general, .ref e_parameter, .ref e_framePos, .ref e_frameStop, .ref e_frameEntity, .ref e_frameElement, .int 0, .int 0, .int 0, .int 0, .int 0])), (e_general, .inl (tI, nm, .inl g0)), (e_parameter, .inl (tI, nm, .inl g1))] H _ := hW
  rw [hQ]
  exact r_vret C hr hlk hW (fun k => [g0, g1].getD k (fun _ => 0)) trivial [0, 1, 2] (by decide) rfl d_Entities_forget_45 (by decide) (by decide)
set_option maxHeartbeats 4000000 in
set_option maxRecDepth 100000 in
theorem c_Declared_forget (l : Launch) (D : va_G) (tI tB tZ tL : ClassId) (X : (Nat → Prop) → State → Prop) (hX : Ro X) (aD d_element d_kind d_source d_elementOf d_label d_type d_how d_value d_list d_listSize d_next d_firstOf d_listed d_notation : Nat) (f0 f1 f2 : Nat → Int32) (nm wd : Nat) (hwd : wd ≤ nm) (hnm : nm < 2 ^ 30) : CtV l D tI tB tZ tL X y_Declared_forget b_Declared_forget 2 ({ frames := 2, cells := 0, slots := 0, locals := 46 }) [.ref aD, .int (nI wd)] [(aD, .inr (4, [.ref d_element, .ref d_kind, .ref d_source, .int 0, .ref d_elementOf, .ref d_label, .ref d_type, .ref d_how, .ref d_value, .ref d_list, .ref d_listSize, .ref d_next, .int 0, .ref d_firstOf, .int 0, .ref d_listed, .int 0, .ref d_notation, .int 0])), (d_elementOf, .inl (tI, nm, .inl f0)), (d_firstOf, .inl (tI, nm, .inl f1)), (d_notation, .inl (tI, nm, .inl f2))] (S := Nat → Nat → Int32) (fun _ => True) (fun u => [(aD, .inr (4, [.ref d_element, .ref d_kind, .ref d_source, .int 0, .ref d_elementOf, .ref d_label, .ref d_type, .ref d_how, .ref d_value, .ref d_list, .ref d_listSize, .ref d_next, .int 0, .ref d_firstOf, .int 0, .ref d_listed, .int 0, .ref d_notation, .int 0])), (d_elementOf, .inl (tI, nm, .inl (u 0))), (d_firstOf, .inl (tI, nm, .inl (u 1))), (d_notation, .inl (tI, nm, .inl (u 2)))]) := by
  refine CtV.start hX (by decide) (Nat.le_of_ble_eq_true rfl) ?_
  intro p e s m args below meth c A ls C hr hlk hin hW hl
  refine W.nameQ (fun Q hQ => ?_)
  have hx := C.1.1
  have hb := C.1.2.1
  have hown := C.1.2.2.2.1
  have hT := C.1.2.2.2.2
  have hl : lv_has ls 2 [(0, .ref aD), (1, .int (nI wd))] := hl
  refine lv_aload_n hx hb d_Declared_forget_0 rfl (lv_at hl 0 rfl) ?_
  refine r_get C hW 0 rfl k_Declared i_Declared 4 (by decide) rfl w_373 d_Declared_forget_1 ?_
  refine lv_iconst (v := 0) hx hb d_Declared_forget_4 (by decide) ?_
  refine lv_iload_n hx hb d_Declared_forget_5 rfl (lv_at hl 1 rfl) ?_
  refine lv_iconst (v := 0) hx hb d_Declared_forget_6 (by decide) ?_
  refine r_callS [.ref d_elementOf, .int 0, .int (nI wd), .int 0] [] C hl.1 hW (c_fill4 l D tI tB tZ tL X hX d_elementOf nm wd 0 f0 (by omega) (by omega)) ok_Arrays_fill1 w_1138 (wr := [(aD, .inr (4, [.ref d_element, .ref d_kind, .ref d_source, .int 0, .ref d_elementOf, .ref d_label, .ref d_type, .ref d_how, .ref d_value, .ref d_list, .ref d_listSize, .ref d_next, .int 0, .ref d_firstOf, .int 0, .ref d_listed, .int 0, .ref d_notation, .int 0])), (d_firstOf, .inl (tI, nm, .inl f1)), (d_notation, .inl (tI, nm, .inl f2))]) [1] [0, 2, 3] rfl rfl (by decide) (by decide) (by decide) rfl (by decide) (Nat.le_of_ble_eq_true rfl) (by decide) d_Declared_forget_7 (fun g0 H locs hg0 hW => ?_)
  have hW : Wd D A s [(aD, .inr (4, [.ref d_element, .ref d_kind, .ref d_source, .int 0, .ref d_elementOf, .ref d_label, .ref d_type, .ref d_how, .ref d_value, .ref d_list, .ref d_listSize, .ref d_next, .int 0, .ref d_firstOf, .int 0, .ref d_listed, .int 0, .ref d_notation, .int 0])), (d_firstOf, .inl (tI, nm, .inl f1)), (d_notation, .inl (tI, nm, .inl f2)), (d_elementOf, .inl (tI, nm, .inl g0))] H _ := hW
  refine lv_aload_n hx hb d_Declared_forget_10 rfl (lv_at hl 0 rfl) ?_
  refine r_get C hW 0 rfl k_Declared i_Declared 13 (by decide) rfl w_397 d_Declared_forget_11 ?_
  refine lv_iconst (v := 0) hx hb d_Declared_forget_14 (by decide) ?_
  refine lv_iload_n hx hb d_Declared_forget_15 rfl (lv_at hl 1 rfl) ?_
  refine lv_iconst (v := 0) hx hb d_Declared_forget_16 (by decide) ?_
  refine r_callS [.ref d_firstOf, .int 0, .int (nI wd), .int 0] [] C hl.1 hW (c_fill4 l D tI tB tZ tL X hX d_firstOf nm wd 0 f1 (by omega) (by omega)) ok_Arrays_fill1 w_1138 (wr := [(aD, .inr (4, [.ref d_element, .ref d_kind, .ref d_source, .int 0, .ref d_elementOf, .ref d_label, .ref d_type, .ref d_how, .ref d_value, .ref d_list, .ref d_listSize, .ref d_next, .int 0, .ref d_firstOf, .int 0, .ref d_listed, .int 0, .ref d_notation, .int 0])), (d_notation, .inl (tI, nm, .inl f2)), (d_elementOf, .inl (tI, nm, .inl g0))]) [1] [0, 2, 3] rfl rfl (by decide) (by decide) (by decide) rfl (by decide) (Nat.le_of_ble_eq_true rfl) (by decide) d_Declared_forget_17 (fun g1 H locs hg1 hW => ?_)
  have hW : Wd D A s [(aD, .inr (4, [.ref d_element, .ref d_kind, .ref d_source, .int 0, .ref d_elementOf, .ref d_label, .ref d_type, .ref d_how, .ref d_value, .ref d_list, .ref d_listSize, .ref d_next, .int 0, .ref d_firstOf, .int 0, .ref d_listed, .int 0, .ref d_notation, .int 0])), (d_notation, .inl (tI, nm, .inl f2)), (d_elementOf, .inl (tI, nm, .inl g0)), (d_firstOf, .inl (tI, nm, .inl g1))] H _ := hW
  refine lv_aload_n hx hb d_Declared_forget_20 rfl (lv_at hl 0 rfl) ?_
  refine r_get C hW 0 rfl k_Declared i_Declared 17 (by decide) rfl w_405 d_Declared_forget_21 ?_
  refine lv_iconst (v := 0) hx hb d_Declared_forget_24 (by decide) ?_
  refine lv_iload_n hx hb d_Declared_forget_25 rfl (lv_at hl 1 rfl) ?_
  refine lv_iconst (v := 0) hx hb d_Declared_forget_26 (by decide) ?_
  refine r_callS [.ref d_notation, .int 0, .int (nI wd), .int 0] [] C hl.1 hW (c_fill4 l D tI tB tZ tL X hX d_notation nm wd 0 f2 (by omega) (by omega)) ok_Arrays_fill1 w_1138 (wr := [(aD, .inr (4, [.ref d_element, .ref d_kind, .ref d_source, .int 0, .ref d_elementOf, .ref d_label, .ref d_type, .ref d_how, .ref d_value, .ref d_list, .ref d_listSize, .ref d_next, .int 0, .ref d_firstOf, .int 0, .ref d_listed, .int 0, .ref d_notation, .int 0])), (d_elementOf, .inl (tI, nm, .inl g0)), (d_firstOf, .inl (tI, nm, .inl g1))]) [1] [0, 2, 3] rfl rfl (by decide) (by decide) (by decide) rfl (by decide) (Nat.le_of_ble_eq_true rfl) (by decide) d_Declared_forget_27 (fun g2 H locs hg2 hW => ?_)
  have hW : Wd D A s [(aD, .inr (4, [.ref d_element, .ref d_kind, .ref d_source, .int 0, .ref d_elementOf, .ref d_label, .ref d_type, .ref d_how, .ref d_value, .ref d_list, .ref d_listSize, .ref d_next, .int 0, .ref d_firstOf, .int 0, .ref d_listed, .int 0, .ref d_notation, .int 0])), (d_elementOf, .inl (tI, nm, .inl g0)), (d_firstOf, .inl (tI, nm, .inl g1)), (d_notation, .inl (tI, nm, .inl g2))] H _ := hW
  refine lv_aload_n hx hb d_Declared_forget_30 rfl (lv_at hl 0 rfl) ?_
  refine lv_iconst (v := 0) hx hb d_Declared_forget_31 (by decide) ?_
  refine r_put (v := .int 0) (ty := .int) C hW 0 rfl k_Declared i_Declared t_Declared o_Declared n_Declared 3 (by decide) w_371 rfl (by decide +kernel) rfl rfl (Nat.le_of_ble_eq_true rfl) d_Declared_forget_32 (fun H locs hW => ?_)
  have hW : Wd D A s [(aD, .inr (4, [.ref d_element, .ref d_kind, .ref d_source, .int 0, .ref d_elementOf, .ref d_label, .ref d_type, .ref d_how, .ref d_value, .ref d_list, .ref d_listSize, .ref d_next, .int 0, .ref d_firstOf, .int 0, .ref d_listed, .int 0, .ref d_notation, .int 0])), (d_elementOf, .inl (tI, nm, .inl g0)), (d_firstOf, .inl (tI, nm, .inl g1)), (d_notation, .inl (tI, nm, .inl g2))] H _ := hW
  refine lv_aload_n hx hb d_Declared_forget_35 rfl (lv_at hl 0 rfl) ?_
  refine lv_iconst (v := 0) hx hb d_Declared_forget_36 (by decide) ?_
  refine r_put (v := .int 0) (ty := .int) C hW 0 rfl k_Declared i_Declared t_Declared o_Declared n_Declared 12 (by decide) w_394 rfl (by decide +kernel) rfl rfl (Nat.le_of_ble_eq_true rfl) d_Declared_forget_37 (fun H locs hW => ?_)
  have hW : Wd D A s [(aD, .inr (4, [.ref d_element, .ref d_kind, .ref d_source, .int 0, .ref d_elementOf, .ref d_label, .ref d_type, .ref d_how, .ref d_value, .ref d_list, .ref d_listSize, .ref d_next, .int 0, .ref d_firstOf, .int 0, .ref d_listed, .int 0, .ref d_notation, .int 0])), (d_elementOf, .inl (tI, nm, .inl g0)), (d_firstOf, .inl (tI, nm, .inl g1)), (d_notation, .inl (tI, nm, .inl g2))] H _ := hW
  refine lv_aload_n hx hb d_Declared_forget_40 rfl (lv_at hl 0 rfl) ?_
  refine lv_iconst (v := 0) hx hb d_Declared_forget_41 (by decide) ?_
  refine r_put (v := .int 0) (ty := .int) C hW 0 rfl k_Declared i_Declared t_Declared o_Declared n_Declared 16 (by decide) w_403 rfl (by decide +kernel) rfl rfl (Nat.le_of_ble_eq_true rfl) d_Declared_forget_42 (fun H locs hW => ?_)
  have hW : Wd D A s [(aD, .inr (4, [.ref d_element, .ref d_kind, .ref d_source, .int 0, .ref d_elementOf, .ref d_label, .ref d_type, .ref d_how, .ref d_value, .ref d_list, .ref d_listSize, .ref d_next, .int 0, .ref d_firstOf, .int 0, .ref d_listed, .int 0, .ref d_notation, .int 0])), (d_elementOf, .inl (tI, nm, .inl g0)), (d_firstOf, .inl (tI, nm, .inl g1)), (d_notation, .inl (tI, nm, .inl g2))] H _ := hW
  refine lv_aload_n hx hb d_Declared_forget_45 rfl (lv_at hl 0 rfl) ?_
  refine lv_iconst (v := 0) hx hb d_Declared_forget_46 (by decide) ?_
  refine r_put (v := .int 0) (ty := .int) C hW 0 rfl k_Declared i_Declared t_Declared o_Declared n_Declared 18 (by decide) w_407 rfl (by decide +kernel) rfl rfl (Nat.le_of_ble_eq_true rfl) d_Declared_forget_47 (fun H locs hW => ?_)
  have hW : Wd D A s [(aD, .inr (4, [.ref d_element, .ref d_kind, .ref d_source, .int 0, .ref d_elementOf, .ref d_label, .ref d_type, .ref d_how, .ref d_value, .ref d_list, .ref d_listSize, .ref d_next, .int 0, .ref d_firstOf, .int 0, .ref d_listed, .int 0, .ref d_notation, .int 0])), (d_elementOf, .inl (tI, nm, .inl g0)), (d_firstOf, .inl (tI, nm, .inl g1)), (d_notation, .inl (tI, nm, .inl g2))] H _ := hW
  rw [hQ]
  exact r_vret C hr hlk hW (fun k => [g0, g1, g2].getD k (fun _ => 0)) trivial [0, 1, 2, 3] (by decide) rfl d_Declared_forget_50 (by decide) (by decide)
set_option maxHeartbeats 4000000 in
set_option maxRecDepth 100000 in
theorem c_Meanings_forget (l : Launch) (D : va_G) (tI tB tZ tL : ClassId) (X : (Nat → Prop) → State → Prop) (hX : Ro X) (aM aS aT m_prefixOf m_localOf m_meant m_outside m_counts : Nat) (f0 f1 : Nat → Int32) (nm wd : Nat) (hwd : wd ≤ nm) (hnm : nm < 2 ^ 30) (h7 : 7 ≤ nm) : CtV l D tI tB tZ tL X y_Meanings_forget b_Meanings_forget 2 ({ frames := 2, cells := 0, slots := 0, locals := 46 }) [.ref aM, .int (nI wd)] [(aM, .inr (10, [.ref aS, .ref aT, .ref m_prefixOf, .ref m_localOf, .ref m_meant, .ref m_outside, .ref m_counts, .int 0])), (m_prefixOf, .inl (tI, nm, .inl f0)), (m_meant, .inl (tI, nm, .inl f1))] (S := Nat → Nat → Int32) (fun _ => True) (fun u => [(aM, .inr (10, [.ref aS, .ref aT, .ref m_prefixOf, .ref m_localOf, .ref m_meant, .ref m_outside, .ref m_counts, .int 0])), (m_prefixOf, .inl (tI, nm, .inl (u 0))), (m_meant, .inl (tI, nm, .inl (u 1)))]) := by
  refine CtV.start hX (by decide) (Nat.le_of_ble_eq_true rfl) ?_
  intro p e s m args below meth c A ls C hr hlk hin hW hl
  refine W.nameQ (fun Q hQ => ?_)
  have hx := C.1.1
  have hb := C.1.2.1
  have hown := C.1.2.2.2.1
  have hT := C.1.2.2.2.2
  have hl : lv_has ls 2 [(0, .ref aM), (1, .int (nI wd))] := hl
  refine lv_aload_n hx hb d_Meanings_forget_0 rfl (lv_at hl 0 rfl) ?_
  refine r_get C hW 0 rfl k_Meanings i_Meanings 2 (by decide) rfl w_718 d_Meanings_forget_1 ?_
  refine lv_iconst (v := 0) hx hb d_Meanings_forget_4 (by decide) ?_
  refine lv_iload_n hx hb d_Meanings_forget_5 rfl (lv_at hl 1 rfl) ?_
  refine lv_iconst (v := 0) hx hb d_Meanings_forget_6 (by decide) ?_
  refine r_callS [.ref m_prefixOf, .int 0, .int (nI wd), .int 0] [] C hl.1 hW (c_fill4 l D tI tB tZ tL X hX m_prefixOf nm wd 0 f0 (by omega) (by omega)) ok_Arrays_fill1 w_1143 (wr := [(aM, .inr (10, [.ref aS, .ref aT, .ref m_prefixOf, .ref m_localOf, .ref m_meant, .ref m_outside, .ref m_counts, .int 0])), (m_meant, .inl (tI, nm, .inl f1))]) [1] [0, 2] rfl rfl (by decide) (by decide) (by decide) rfl (by decide) (Nat.le_of_ble_eq_true rfl) (by decide) d_Meanings_forget_7 (fun g0 H locs hg0 hW => ?_)
  have hW : Wd D A s [(aM, .inr (10, [.ref aS, .ref aT, .ref m_prefixOf, .ref m_localOf, .ref m_meant, .ref m_outside, .ref m_counts, .int 0])), (m_meant, .inl (tI, nm, .inl f1)), (m_prefixOf, .inl (tI, nm, .inl g0))] H _ := hW
  refine lv_aload_n hx hb d_Meanings_forget_10 rfl (lv_at hl 0 rfl) ?_
  refine r_get C hW 0 rfl k_Meanings i_Meanings 4 (by decide) rfl w_720 d_Meanings_forget_11 ?_
  refine lv_iconst (v := 0) hx hb d_Meanings_forget_14 (by decide) ?_
  refine lv_iload_n hx hb d_Meanings_forget_15 rfl (lv_at hl 1 rfl) ?_
  refine lv_iconst (v := 0) hx hb d_Meanings_forget_16 (by decide) ?_
  refine r_callS [.ref m_meant, .int 0, .int (nI wd), .int 0] [] C hl.1 hW (c_fill4 l D tI tB tZ tL X hX m_meant nm wd 0 f1 (by omega) (by omega)) ok_Arrays_fill1 w_1143 (wr := [(aM, .inr (10, [.ref aS, .ref aT, .ref m_prefixOf, .ref m_localOf, .ref m_meant, .ref m_outside, .ref m_counts, .int 0])), (m_prefixOf, .inl (tI, nm, .inl g0))]) [1] [0, 2] rfl rfl (by decide) (by decide) (by decide) rfl (by decide) (Nat.le_of_ble_eq_true rfl) (by decide) d_Meanings_forget_17 (fun g1 H locs hg1 hW => ?_)
  have hW : Wd D A s [(aM, .inr (10, [.ref aS, .ref aT, .ref m_prefixOf, .ref m_localOf, .ref m_meant, .ref m_outside, .ref m_counts, .int 0])), (m_prefixOf, .inl (tI, nm, .inl g0)), (m_meant, .inl (tI, nm, .inl g1))] H _ := hW
  refine lv_aload_n hx hb d_Meanings_forget_20 rfl (lv_at hl 0 rfl) ?_
  refine r_get C hW 0 rfl k_Meanings i_Meanings 4 (by decide) rfl w_720 d_Meanings_forget_21 ?_
  refine lv_bipush (v := 6) hx hb d_Meanings_forget_24 (by decide) ?_
  refine lv_bipush (v := 8) hx hb d_Meanings_forget_26 (by decide) ?_
  refine r_stI C hW 2 rfl 6 rfl (by omega) (by omega) d_Meanings_forget_28 (fun H locs hW => ?_)
  have hW : Wd D A s [(aM, .inr (10, [.ref aS, .ref aT, .ref m_prefixOf, .ref m_localOf, .ref m_meant, .ref m_outside, .ref m_counts, .int 0])), (m_prefixOf, .inl (tI, nm, .inl g0)), (m_meant, .inl (tI, nm, .inl (upd g1 6 8)))] H _ := hW
  obtain ⟨g2, eg2⟩ : ∃ f : Nat → Int32, f = (upd g1 6 8) := ⟨_, rfl⟩
  rw [← eg2] at hW
  rw [hQ]
  exact r_vret C hr hlk hW (fun k => [g0, g2].getD k (fun _ => 0)) trivial [0, 1, 2] (by decide) rfl d_Meanings_forget_29 (by decide) (by decide)
set_option maxHeartbeats 4000000 in
set_option maxRecDepth 100000 in
theorem c_Store_forget (l : Launch) (D : va_G) (tI tB tZ tL : ClassId) (X : (Nat → Prop) → State → Prop) (hX : Ro X) (aS s_chars s_from s_size s_hash s_next s_head s_mark : Nat) (room wd : Nat) (so : Int32) (hwd : wd ≤ 19) : CtV l D tI tB tZ tL X y_Store_forget b_Store_forget 2 ({ frames := 0, cells := 0, slots := 0, locals := 0 }) [.ref aS] [(aS, .inr (1, [.int (nI room), .ref s_chars, .int (nI 143), .int (nI 143), .int 0, .int 0, .int 0, .ref s_from, .ref s_size, .ref s_hash, .ref s_next, .ref s_head, .int (nI wd), .int so, .int (nI wd), .ref s_mark, .int 0]))] (S := Unit) (fun (_ : Unit) => True) (fun _ => [(aS, .inr (1, [.int (nI room), .ref s_chars, .int (nI 143), .int (nI 143), .int 0, .int 0, .int 0, .ref s_from, .ref s_size, .ref s_hash, .ref s_next, .ref s_head, .int (nI wd), .int so, .int (nI wd), .ref s_mark, .int 0]))]) := by
  refine CtV.start hX (by decide) (Nat.le_of_ble_eq_true rfl) ?_
  intro p e s m args below meth c A ls C hr hlk hin hW hl
  refine W.nameQ (fun Q hQ => ?_)
  have hx := C.1.1
  have hb := C.1.2.1
  have hown := C.1.2.2.2.1
  have hT := C.1.2.2.2.2
  have hl : lv_has ls 2 [(0, .ref aS)] := hl
  refine lv_aload_n hx hb d_Store_forget_0 rfl (lv_at hl 0 rfl) ?_
  refine r_get C hW 0 rfl k_Store i_Store 14 (by decide) rfl w_178 d_Store_forget_1 ?_
  refine lv_iconst (v := 1) hx hb d_Store_forget_4 (by decide) ?_
  refine lv_isub hx hb d_Store_forget_5 ?_
  refine lv_istore_n (lv' := [(1, .int ((nI wd) - 1)), (0, .ref aS)]) hx hb d_Store_forget_6 rfl hl (by decide) rfl (fun ls hl => ?_)
  refine lv_iload_n hx hb d_Store_forget_7 rfl (lv_at hl 0 rfl) ?_
  refine lv_aload_n hx hb d_Store_forget_8 rfl (lv_at hl 1 rfl) ?_
  refine r_get C hW 0 rfl k_Store i_Store 12 (by decide) rfl w_176 d_Store_forget_9 ?_
  refine lv_icmp_lt (tgt := 46) hx hb d_Store_forget_12 (by decide) (fun c_12 => ?_) (fun c_12 => absurd (nI_m1_lt (by omega)) c_12)
  refine lv_aload_n hx hb d_Store_forget_46 rfl (lv_at hl 1 rfl) ?_
  refine lv_aload_n hx hb d_Store_forget_47 rfl (lv_at hl 1 rfl) ?_
  refine r_get C hW 0 rfl k_Store i_Store 12 (by decide) rfl w_176 d_Store_forget_48 ?_
  refine r_put (v := .int (nI wd)) (ty := .int) C hW 0 rfl k_Store i_Store t_Store o_Store n_Store 14 (by decide) w_178 rfl (by decide +kernel) rfl rfl (Nat.le_of_ble_eq_true rfl) d_Store_forget_51 (fun H locs hW => ?_)
  have hW : Wd D A s [(aS, .inr (1, [.int (nI room), .ref s_chars, .int (nI 143), .int (nI 143), .int 0, .int 0, .int 0, .ref s_from, .ref s_size, .ref s_hash, .ref s_next, .ref s_head, .int (nI wd), .int so, .int (nI wd), .ref s_mark, .int 0]))] H _ := hW
  refine lv_aload_n hx hb d_Store_forget_54 rfl (lv_at hl 1 rfl) ?_
  refine lv_aload_n hx hb d_Store_forget_55 rfl (lv_at hl 1 rfl) ?_
  refine r_get C hW 0 rfl k_Store i_Store 2 (by decide) rfl w_152 d_Store_forget_56 ?_
  refine r_put (v := .int (nI 143)) (ty := .int) C hW 0 rfl k_Store i_Store t_Store o_Store n_Store 3 (by decide) w_155 rfl (by decide +kernel) rfl rfl (Nat.le_of_ble_eq_true rfl) d_Store_forget_59 (fun H locs hW => ?_)
  have hW : Wd D A s [(aS, .inr (1, [.int (nI room), .ref s_chars, .int (nI 143), .int (nI 143), .int 0, .int 0, .int 0, .ref s_from, .ref s_size, .ref s_hash, .ref s_next, .ref s_head, .int (nI wd), .int so, .int (nI wd), .ref s_mark, .int 0]))] H _ := hW
  refine lv_aload_n hx hb d_Store_forget_62 rfl (lv_at hl 1 rfl) ?_
  refine lv_iconst (v := 0) hx hb d_Store_forget_63 (by decide) ?_
  refine r_put (v := .int 0) (ty := .int) C hW 0 rfl k_Store i_Store t_Store o_Store n_Store 4 (by decide) w_161 rfl (by decide +kernel) rfl rfl (Nat.le_of_ble_eq_true rfl) d_Store_forget_64 (fun H locs hW => ?_)
  have hW : Wd D A s [(aS, .inr (1, [.int (nI room), .ref s_chars, .int (nI 143), .int (nI 143), .int 0, .int 0, .int 0, .ref s_from, .ref s_size, .ref s_hash, .ref s_next, .ref s_head, .int (nI wd), .int so, .int (nI wd), .ref s_mark, .int 0]))] H _ := hW
  refine lv_aload_n hx hb d_Store_forget_67 rfl (lv_at hl 1 rfl) ?_
  refine lv_iconst (v := 0) hx hb d_Store_forget_68 (by decide) ?_
  refine r_put (v := .int 0) (ty := .boolean) C hW 0 rfl k_Store i_Store t_Store o_Store n_Store 6 (by decide) w_165 rfl (by decide +kernel) rfl rfl (Nat.le_of_ble_eq_true rfl) d_Store_forget_69 (fun H locs hW => ?_)
  have hW : Wd D A s [(aS, .inr (1, [.int (nI room), .ref s_chars, .int (nI 143), .int (nI 143), .int 0, .int 0, .int 0, .ref s_from, .ref s_size, .ref s_hash, .ref s_next, .ref s_head, .int (nI wd), .int so, .int (nI wd), .ref s_mark, .int 0]))] H _ := hW
  rw [hQ]
  exact r_vret C hr hlk hW () trivial [0] (by decide) rfl d_Store_forget_72 (by decide) (by decide)
set_option maxHeartbeats 4000000 in
set_option maxRecDepth 100000 in
theorem c_Doctype_forget (l : Launch) (D : va_G) (tI tB tZ tL : ClassId) (X : (Nat → Prop) → State → Prop) (hX : Ro X) (aO aS aR aE aD o_separator : Nat)  : CtV l D tI tB tZ tL X y_Doctype_forget b_Doctype_forget 1 ({ frames := 0, cells := 0, slots := 0, locals := 0 }) [.ref aO] [(aO, .inr (5, [.ref aS, .ref aR, .ref aE, .ref aD, .ref o_separator, .int 0, .int 0, .int 0, .int 0, .int 0]))] (S := Unit) (fun (_ : Unit) => True) (fun _ => [(aO, .inr (5, [.ref aS, .ref aR, .ref aE, .ref aD, .ref o_separator, .int 0, .int 0, .int 0, .int 0, .int 0]))]) := by
  refine CtV.start hX (by decide) (Nat.le_of_ble_eq_true rfl) ?_
  intro p e s m args below meth c A ls C hr hlk hin hW hl
  refine W.nameQ (fun Q hQ => ?_)
  have hx := C.1.1
  have hb := C.1.2.1
  have hown := C.1.2.2.2.1
  have hT := C.1.2.2.2.2
  have hl : lv_has ls 1 [(0, .ref aO)] := hl
  refine lv_aload_n hx hb d_Doctype_forget_0 rfl (lv_at hl 0 rfl) ?_
  refine lv_iconst (v := 0) hx hb d_Doctype_forget_1 (by decide) ?_
  refine r_put (v := .int 0) (ty := .boolean) C hW 0 rfl k_Doctype i_Doctype t_Doctype o_Doctype n_Doctype 5 (by decide) w_461 rfl (by decide +kernel) rfl rfl (Nat.le_of_ble_eq_true rfl) d_Doctype_forget_2 (fun H locs hW => ?_)
  have hW : Wd D A s [(aO, .inr (5, [.ref aS, .ref aR, .ref aE, .ref aD, .ref o_separator, .int 0, .int 0, .int 0, .int 0, .int 0]))] H _ := hW
  refine lv_aload_n hx hb d_Doctype_forget_5 rfl (lv_at hl 0 rfl) ?_
  refine lv_iconst (v := 0) hx hb d_Doctype_forget_6 (by decide) ?_
  refine r_put (v := .int 0) (ty := .boolean) C hW 0 rfl k_Doctype i_Doctype t_Doctype o_Doctype n_Doctype 6 (by decide) w_464 rfl (by decide +kernel) rfl rfl (Nat.le_of_ble_eq_true rfl) d_Doctype_forget_7 (fun H locs hW => ?_)
  have hW : Wd D A s [(aO, .inr (5, [.ref aS, .ref aR, .ref aE, .ref aD, .ref o_separator, .int 0, .int 0, .int 0, .int 0, .int 0]))] H _ := hW
  rw [hQ]
  exact r_vret C hr hlk hW () trivial [0] (by decide) rfl d_Doctype_forget_10 (by decide) (by decide)
set_option maxHeartbeats 4000000 in
set_option maxRecDepth 100000 in
theorem c_Tree_forget (l : Launch) (D : va_G) (tI tB tZ tL : ClassId) (X : (Nat → Prop) → State → Prop) (hX : Ro X) (aT t_tag t_above t_first t_all t_given t_content t_label t_value t_declaration t_stream : Nat) (most : Nat) : CtV l D tI tB tZ tL X y_Tree_forget b_Tree_forget 1 ({ frames := 0, cells := 0, slots := 0, locals := 0 }) [.ref aT] [(aT, .inr (6, [.int (nI most), .int 0, .int 0, .int (-1), .ref t_tag, .ref t_above, .ref t_first, .ref t_all, .ref t_given, .ref t_content, .int 0, .ref t_label, .ref t_value, .ref t_declaration, .ref t_stream, .int 0, .int 0]))] (S := Unit) (fun (_ : Unit) => True) (fun _ => [(aT, .inr (6, [.int (nI most), .int 0, .int 0, .int (-1), .ref t_tag, .ref t_above, .ref t_first, .ref t_all, .ref t_given, .ref t_content, .int 0, .ref t_label, .ref t_value, .ref t_declaration, .ref t_stream, .int 0, .int 0]))]) := by
  refine CtV.start hX (by decide) (Nat.le_of_ble_eq_true rfl) ?_
  intro p e s m args below meth c A ls C hr hlk hin hW hl
  refine W.nameQ (fun Q hQ => ?_)
  have hx := C.1.1
  have hb := C.1.2.1
  have hown := C.1.2.2.2.1
  have hT := C.1.2.2.2.2
  have hl : lv_has ls 1 [(0, .ref aT)] := hl
  refine lv_aload_n hx hb d_Tree_forget_0 rfl (lv_at hl 0 rfl) ?_
  refine lv_iconst (v := 0) hx hb d_Tree_forget_1 (by decide) ?_
  refine r_put (v := .int 0) (ty := .int) C hW 0 rfl k_Tree i_Tree t_Tree o_Tree n_Tree 1 (by decide) w_498 rfl (by decide +kernel) rfl rfl (Nat.le_of_ble_eq_true rfl) d_Tree_forget_2 (fun H locs hW => ?_)
  have hW : Wd D A s [(aT, .inr (6, [.int (nI most), .int 0, .int 0, .int (-1), .ref t_tag, .ref t_above, .ref t_first, .ref t_all, .ref t_given, .ref t_content, .int 0, .ref t_label, .ref t_value, .ref t_declaration, .ref t_stream, .int 0, .int 0]))] H _ := hW
  refine lv_aload_n hx hb d_Tree_forget_5 rfl (lv_at hl 0 rfl) ?_
  refine lv_iconst (v := 0) hx hb d_Tree_forget_6 (by decide) ?_
  refine r_put (v := .int 0) (ty := .int) C hW 0 rfl k_Tree i_Tree t_Tree o_Tree n_Tree 2 (by decide) w_499 rfl (by decide +kernel) rfl rfl (Nat.le_of_ble_eq_true rfl) d_Tree_forget_7 (fun H locs hW => ?_)
  have hW : Wd D A s [(aT, .inr (6, [.int (nI most), .int 0, .int 0, .int (-1), .ref t_tag, .ref t_above, .ref t_first, .ref t_all, .ref t_given, .ref t_content, .int 0, .ref t_label, .ref t_value, .ref t_declaration, .ref t_stream, .int 0, .int 0]))] H _ := hW
  refine lv_aload_n hx hb d_Tree_forget_10 rfl (lv_at hl 0 rfl) ?_
  refine lv_iconst (v := 0) hx hb d_Tree_forget_11 (by decide) ?_
  refine r_put (v := .int 0) (ty := .int) C hW 0 rfl k_Tree i_Tree t_Tree o_Tree n_Tree 10 (by decide) w_532 rfl (by decide +kernel) rfl rfl (Nat.le_of_ble_eq_true rfl) d_Tree_forget_12 (fun H locs hW => ?_)
  have hW : Wd D A s [(aT, .inr (6, [.int (nI most), .int 0, .int 0, .int (-1), .ref t_tag, .ref t_above, .ref t_first, .ref t_all, .ref t_given, .ref t_content, .int 0, .ref t_label, .ref t_value, .ref t_declaration, .ref t_stream, .int 0, .int 0]))] H _ := hW
  refine lv_aload_n hx hb d_Tree_forget_15 rfl (lv_at hl 0 rfl) ?_
  refine lv_iconst (v := 0) hx hb d_Tree_forget_16 (by decide) ?_
  refine r_put (v := .int 0) (ty := .int) C hW 0 rfl k_Tree i_Tree t_Tree o_Tree n_Tree 15 (by decide) w_549 rfl (by decide +kernel) rfl rfl (Nat.le_of_ble_eq_true rfl) d_Tree_forget_17 (fun H locs hW => ?_)
  have hW : Wd D A s [(aT, .inr (6, [.int (nI most), .int 0, .int 0, .int (-1), .ref t_tag, .ref t_above, .ref t_first, .ref t_all, .ref t_given, .ref t_content, .int 0, .ref t_label, .ref t_value, .ref t_declaration, .ref t_stream, .int 0, .int 0]))] H _ := hW
  refine lv_aload_n hx hb d_Tree_forget_20 rfl (lv_at hl 0 rfl) ?_
  refine lv_iconst (v := 0) hx hb d_Tree_forget_21 (by decide) ?_
  refine r_put (v := .int 0) (ty := .int) C hW 0 rfl k_Tree i_Tree t_Tree o_Tree n_Tree 16 (by decide) w_552 rfl (by decide +kernel) rfl rfl (Nat.le_of_ble_eq_true rfl) d_Tree_forget_22 (fun H locs hW => ?_)
  have hW : Wd D A s [(aT, .inr (6, [.int (nI most), .int 0, .int 0, .int (-1), .ref t_tag, .ref t_above, .ref t_first, .ref t_all, .ref t_given, .ref t_content, .int 0, .ref t_label, .ref t_value, .ref t_declaration, .ref t_stream, .int 0, .int 0]))] H _ := hW
  refine lv_aload_n hx hb d_Tree_forget_25 rfl (lv_at hl 0 rfl) ?_
  refine lv_iconst (v := (-1)) hx hb d_Tree_forget_26 (by decide) ?_
  refine r_put (v := .int (-1)) (ty := .int) C hW 0 rfl k_Tree i_Tree t_Tree o_Tree n_Tree 3 (by decide) w_505 rfl (by decide +kernel) rfl rfl (Nat.le_of_ble_eq_true rfl) d_Tree_forget_27 (fun H locs hW => ?_)
  have hW : Wd D A s [(aT, .inr (6, [.int (nI most), .int 0, .int 0, .int (-1), .ref t_tag, .ref t_above, .ref t_first, .ref t_all, .ref t_given, .ref t_content, .int 0, .ref t_label, .ref t_value, .ref t_declaration, .ref t_stream, .int 0, .int 0]))] H _ := hW
  rw [hQ]
  exact r_vret C hr hlk hW () trivial [0] (by decide) rfl d_Tree_forget_30 (by decide) (by decide)
set_option maxHeartbeats 4000000 in
set_option maxRecDepth 100000 in
theorem c_J_forget (l : Launch) (D : va_G) (tI tB tZ tL : ClassId) (X : (Nat → Prop) → State → Prop) (hX : Ro X) (aJ j_bytes aS aR aE aD aO aT aC aV aM aW s_chars s_from s_size s_hash s_next s_head s_mark e_from e_size e_open e_general e_parameter e_framePos e_frameStop e_frameEntity e_frameElement d_element d_kind d_source d_elementOf d_label d_type d_how d_value d_list d_listSize d_next d_firstOf d_listed d_notation m_prefixOf m_localOf m_meant m_outside m_counts o_separator t_tag t_above t_first t_all t_given t_content t_label t_value t_declaration t_stream : Nat) (f0 f1 f2 f3 f4 f5 f6 : Nat → Int32) (most room nm wd : Nat) (so : Int32) (hwd : wd ≤ 19) (hn19 : 64 ≤ nm) (hnm : nm < 2 ^ 30) : CtV l D tI tB tZ tL X y_J_forget b_J_forget 2 ({ frames := 3, cells := 0, slots := 0, locals := 67 }) [.ref aJ] [(aJ, .inr (0, [.ref j_bytes, .int 0, .ref aS, .ref aR, .ref aE, .ref aD, .ref aO, .ref aT, .ref aC, .ref aV, .ref aM, .ref aW, .int 0, .int 0, .int (-1)])), (aS, .inr (1, [.int (nI room), .ref s_chars, .int (nI 143), .int (nI 143), .int 0, .int 0, .int 0, .ref s_from, .ref s_size, .ref s_hash, .ref s_next, .ref s_head, .int (nI wd), .int so, .int (nI wd), .ref s_mark, .int 0])), (aE, .inr (3, [.ref aS, .ref aR, .ref e_from, .ref e_size, .ref e_open, .int 0, .ref e_general, .ref e_parameter, .ref e_framePos, .ref e_frameStop, .ref e_frameEntity, .ref e_frameElement, .int 0, .int 0, .int 0, .int 0, .int 0])), (aD, .inr (4, [.ref d_element, .ref d_kind, .ref d_source, .int 0, .ref d_elementOf, .ref d_label, .ref d_type, .ref d_how, .ref d_value, .ref d_list, .ref d_listSize, .ref d_next, .int 0, .ref d_firstOf, .int 0, .ref d_listed, .int 0, .ref d_notation, .int 0])), (aM, .inr (10, [.ref aS, .ref aT, .ref m_prefixOf, .ref m_localOf, .ref m_meant, .ref m_outside, .ref m_counts, .int 0])), (aO, .inr (5, [.ref aS, .ref aR, .ref aE, .ref aD, .ref o_separator, .int 0, .int 0, .int 0, .int 0, .int 0])), (aT, .inr (6, [.int (nI most), .int 0, .int 0, .int (-1), .ref t_tag, .ref t_above, .ref t_first, .ref t_all, .ref t_given, .ref t_content, .int 0, .ref t_label, .ref t_value, .ref t_declaration, .ref t_stream, .int 0, .int 0])), (e_general, .inl (tI, nm, .inl f0)), (e_parameter, .inl (tI, nm, .inl f1)), (d_elementOf, .inl (tI, nm, .inl f2)), (d_firstOf, .inl (tI, nm, .inl f3)), (d_notation, .inl (tI, nm, .inl f4)), (m_prefixOf, .inl (tI, nm, .inl f5)), (m_meant, .inl (tI, nm, .inl f6))] (S := Nat → Nat → Int32) (fun _ => True) (fun u => [(aJ, .inr (0, [.ref j_bytes, .int 0, .ref aS, .ref aR, .ref aE, .ref aD, .ref aO, .ref aT, .ref aC, .ref aV, .ref aM, .ref aW, .int 0, .int 0, .int (-1)])), (aS, .inr (1, [.int (nI room), .ref s_chars, .int (nI 143), .int (nI 143), .int 0, .int 0, .int 0, .ref s_from, .ref s_size, .ref s_hash, .ref s_next, .ref s_head, .int (nI wd), .int so, .int (nI wd), .ref s_mark, .int 0])), (aE, .inr (3, [.ref aS, .ref aR, .ref e_from, .ref e_size, .ref e_open, .int 0, .ref e_general, .ref e_parameter, .ref e_framePos, .ref e_frameStop, .ref e_frameEntity, .ref e_frameElement, .int 0, .int 0, .int 0, .int 0, .int 0])), (aD, .inr (4, [.ref d_element, .ref d_kind, .ref d_source, .int 0, .ref d_elementOf, .ref d_label, .ref d_type, .ref d_how, .ref d_value, .ref d_list, .ref d_listSize, .ref d_next, .int 0, .ref d_firstOf, .int 0, .ref d_listed, .int 0, .ref d_notation, .int 0])), (aM, .inr (10, [.ref aS, .ref aT, .ref m_prefixOf, .ref m_localOf, .ref m_meant, .ref m_outside, .ref m_counts, .int 0])), (aO, .inr (5, [.ref aS, .ref aR, .ref aE, .ref aD, .ref o_separator, .int 0, .int 0, .int 0, .int 0, .int 0])), (aT, .inr (6, [.int (nI most), .int 0, .int 0, .int (-1), .ref t_tag, .ref t_above, .ref t_first, .ref t_all, .ref t_given, .ref t_content, .int 0, .ref t_label, .ref t_value, .ref t_declaration, .ref t_stream, .int 0, .int 0])), (e_general, .inl (tI, nm, .inl (u 0))), (e_parameter, .inl (tI, nm, .inl (u 1))), (d_elementOf, .inl (tI, nm, .inl (u 2))), (d_firstOf, .inl (tI, nm, .inl (u 3))), (d_notation, .inl (tI, nm, .inl (u 4))), (m_prefixOf, .inl (tI, nm, .inl (u 5))), (m_meant, .inl (tI, nm, .inl (u 6)))]) := by
  refine CtV.start hX (by decide) (Nat.le_of_ble_eq_true rfl) ?_
  intro p e s m args below meth c A ls C hr hlk hin hW hl
  refine W.nameQ (fun Q hQ => ?_)
  have hx := C.1.1
  have hb := C.1.2.1
  have hown := C.1.2.2.2.1
  have hT := C.1.2.2.2.2
  have hl : lv_has ls 2 [(0, .ref aJ)] := hl
  refine lv_aload_n hx hb d_J_forget_0 rfl (lv_at hl 0 rfl) ?_
  refine r_get C hW 0 rfl k_J i_J 2 (by decide) rfl w_788 d_J_forget_1 ?_
  refine r_get C hW 1 rfl k_Store i_Store 14 (by decide) rfl w_179 d_J_forget_4 ?_
  refine lv_istore_n (lv' := [(1, .int (nI wd)), (0, .ref aJ)]) hx hb d_J_forget_7 rfl hl (by decide) rfl (fun ls hl => ?_)
  refine lv_aload_n hx hb d_J_forget_8 rfl (lv_at hl 1 rfl) ?_
  refine r_get C hW 0 rfl k_J i_J 4 (by decide) rfl w_790 d_J_forget_9 ?_
  refine lv_iload_n hx hb d_J_forget_12 rfl (lv_at hl 0 rfl) ?_
  refine r_callV [.int (nI wd)] [] C hl.1 hW (c_Entities_forget l D tI tB tZ tL X hX aE aS aR e_from e_size e_open e_general e_parameter e_framePos e_frameStop e_frameEntity e_frameElement f0 f1 nm wd (by omega) hnm) ok_Entities_forget w_844 (wr := [(aJ, .inr (0, [.ref j_bytes, .int 0, .ref aS, .ref aR, .ref aE, .ref aD, .ref aO, .ref aT, .ref aC, .ref aV, .ref aM, .ref aW, .int 0, .int 0, .int (-1)])), (aS, .inr (1, [.int (nI room), .ref s_chars, .int (nI 143), .int (nI 143), .int 0, .int 0, .int 0, .ref s_from, .ref s_size, .ref s_hash, .ref s_next, .ref s_head, .int (nI wd), .int so, .int (nI wd), .ref s_mark, .int 0])), (aD, .inr (4, [.ref d_element, .ref d_kind, .ref d_source, .int 0, .ref d_elementOf, .ref d_label, .ref d_type, .ref d_how, .ref d_value, .ref d_list, .ref d_listSize, .ref d_next, .int 0, .ref d_firstOf, .int 0, .ref d_listed, .int 0, .ref d_notation, .int 0])), (aM, .inr (10, [.ref aS, .ref aT, .ref m_prefixOf, .ref m_localOf, .ref m_meant, .ref m_outside, .ref m_counts, .int 0])), (aO, .inr (5, [.ref aS, .ref aR, .ref aE, .ref aD, .ref o_separator, .int 0, .int 0, .int 0, .int 0, .int 0])), (aT, .inr (6, [.int (nI most), .int 0, .int 0, .int (-1), .ref t_tag, .ref t_above, .ref t_first, .ref t_all, .ref t_given, .ref t_content, .int 0, .ref t_label, .ref t_value, .ref t_declaration, .ref t_stream, .int 0, .int 0])), (d_elementOf, .inl (tI, nm, .inl f2)), (d_firstOf, .inl (tI, nm, .inl f3)), (d_notation, .inl (tI, nm, .inl f4)), (m_prefixOf, .inl (tI, nm, .inl f5)), (m_meant, .inl (tI, nm, .inl f6))]) [2, 7, 8] [0, 1, 3, 4, 5, 6, 9, 10, 11, 12, 13] rfl rfl (by decide) (by decide) (by decide) 0 rfl k_Entities rfl (by decide) (Nat.le_of_ble_eq_true rfl) (by decide) d_J_forget_13 (fun u1 H locs hu hW => ?_)
  have hW : Wd D A s [(aJ, .inr (0, [.ref j_bytes, .int 0, .ref aS, .ref aR, .ref aE, .ref aD, .ref aO, .ref aT, .ref aC, .ref aV, .ref aM, .ref aW, .int 0, .int 0, .int (-1)])), (aS, .inr (1, [.int (nI room), .ref s_chars, .int (nI 143), .int (nI 143), .int 0, .int 0, .int 0, .ref s_from, .ref s_size, .ref s_hash, .ref s_next, .ref s_head, .int (nI wd), .int so, .int (nI wd), .ref s_mark, .int 0])), (aD, .inr (4, [.ref d_element, .ref d_kind, .ref d_source, .int 0, .ref d_elementOf, .ref d_label, .ref d_type, .ref d_how, .ref d_value, .ref d_list, .ref d_listSize, .ref d_next, .int 0, .ref d_firstOf, .int 0, .ref d_listed, .int 0, .ref d_notation, .int 0])), (aM, .inr (10, [.ref aS, .ref aT, .ref m_prefixOf, .ref m_localOf, .ref m_meant, .ref m_outside, .ref m_counts, .int 0])), (aO, .inr (5, [.ref aS, .ref aR, .ref aE, .ref aD, .ref o_separator, .int 0, .int 0, .int 0, .int 0, .int 0])), (aT, .inr (6, [.int (nI most), .int 0, .int 0, .int (-1), .ref t_tag, .ref t_above, .ref t_first, .ref t_all, .ref t_given, .ref t_content, .int 0, .ref t_label, .ref t_value, .ref t_declaration, .ref t_stream, .int 0, .int 0])), (d_elementOf, .inl (tI, nm, .inl f2)), (d_firstOf, .inl (tI, nm, .inl f3)), (d_notation, .inl (tI, nm, .inl f4)), (m_prefixOf, .inl (tI, nm, .inl f5)), (m_meant, .inl (tI, nm, .inl f6)), (aE, .inr (3, [.ref aS, .ref aR, .ref e_from, .ref e_size, .ref e_open, .int 0, .ref e_general, .ref e_parameter, .ref e_framePos, .ref e_frameStop, .ref e_frameEntity, .ref e_frameElement, .int 0, .int 0, .int 0, .int 0, .int 0])), (e_general, .inl (tI, nm, .inl (u1 0))), (e_parameter, .inl (tI, nm, .inl (u1 1)))] H _ := hW
  refine lv_aload_n hx hb d_J_forget_16 rfl (lv_at hl 1 rfl) ?_
  refine r_get C hW 0 rfl k_J i_J 5 (by decide) rfl w_791 d_J_forget_17 ?_
  refine lv_iload_n hx hb d_J_forget_20 rfl (lv_at hl 0 rfl) ?_
  refine r_callV [.int (nI wd)] [] C hl.1 hW (c_Declared_forget l D tI tB tZ tL X hX aD d_element d_kind d_source d_elementOf d_label d_type d_how d_value d_list d_listSize d_next d_firstOf d_listed d_notation f2 f3 f4 nm wd (by omega) hnm) ok_Declared_forget w_1134 (wr := [(aJ, .inr (0, [.ref j_bytes, .int 0, .ref aS, .ref aR, .ref aE, .ref aD, .ref aO, .ref aT, .ref aC, .ref aV, .ref aM, .ref aW, .int 0, .int 0, .int (-1)])), (aS, .inr (1, [.int (nI room), .ref s_chars, .int (nI 143), .int (nI 143), .int 0, .int 0, .int 0, .ref s_from, .ref s_size, .ref s_hash, .ref s_next, .ref s_head, .int (nI wd), .int so, .int (nI wd), .ref s_mark, .int 0])), (aM, .inr (10, [.ref aS, .ref aT, .ref m_prefixOf, .ref m_localOf, .ref m_meant, .ref m_outside, .ref m_counts, .int 0])), (aO, .inr (5, [.ref aS, .ref aR, .ref aE, .ref aD, .ref o_separator, .int 0, .int 0, .int 0, .int 0, .int 0])), (aT, .inr (6, [.int (nI most), .int 0, .int 0, .int (-1), .ref t_tag, .ref t_above, .ref t_first, .ref t_all, .ref t_given, .ref t_content, .int 0, .ref t_label, .ref t_value, .ref t_declaration, .ref t_stream, .int 0, .int 0])), (m_prefixOf, .inl (tI, nm, .inl f5)), (m_meant, .inl (tI, nm, .inl f6)), (aE, .inr (3, [.ref aS, .ref aR, .ref e_from, .ref e_size, .ref e_open, .int 0, .ref e_general, .ref e_parameter, .ref e_framePos, .ref e_frameStop, .ref e_frameEntity, .ref e_frameElement, .int 0, .int 0, .int 0, .int 0, .int 0])), (e_general, .inl (tI, nm, .inl (u1 0))), (e_parameter, .inl (tI, nm, .inl (u1 1)))]) [2, 6, 7, 8] [0, 1, 3, 4, 5, 9, 10, 11, 12, 13] rfl rfl (by decide) (by decide) (by decide) 0 rfl k_Declared rfl (by decide) (Nat.le_of_ble_eq_true rfl) (by decide) d_J_forget_21 (fun u2 H locs hu hW => ?_)
  have hW : Wd D A s [(aJ, .inr (0, [.ref j_bytes, .int 0, .ref aS, .ref aR, .ref aE, .ref aD, .ref aO, .ref aT, .ref aC, .ref aV, .ref aM, .ref aW, .int 0, .int 0, .int (-1)])), (aS, .inr (1, [.int (nI room), .ref s_chars, .int (nI 143), .int (nI 143), .int 0, .int 0, .int 0, .ref s_from, .ref s_size, .ref s_hash, .ref s_next, .ref s_head, .int (nI wd), .int so, .int (nI wd), .ref s_mark, .int 0])), (aM, .inr (10, [.ref aS, .ref aT, .ref m_prefixOf, .ref m_localOf, .ref m_meant, .ref m_outside, .ref m_counts, .int 0])), (aO, .inr (5, [.ref aS, .ref aR, .ref aE, .ref aD, .ref o_separator, .int 0, .int 0, .int 0, .int 0, .int 0])), (aT, .inr (6, [.int (nI most), .int 0, .int 0, .int (-1), .ref t_tag, .ref t_above, .ref t_first, .ref t_all, .ref t_given, .ref t_content, .int 0, .ref t_label, .ref t_value, .ref t_declaration, .ref t_stream, .int 0, .int 0])), (m_prefixOf, .inl (tI, nm, .inl f5)), (m_meant, .inl (tI, nm, .inl f6)), (aE, .inr (3, [.ref aS, .ref aR, .ref e_from, .ref e_size, .ref e_open, .int 0, .ref e_general, .ref e_parameter, .ref e_framePos, .ref e_frameStop, .ref e_frameEntity, .ref e_frameElement, .int 0, .int 0, .int 0, .int 0, .int 0])), (e_general, .inl (tI, nm, .inl (u1 0))), (e_parameter, .inl (tI, nm, .inl (u1 1))), (aD, .inr (4, [.ref d_element, .ref d_kind, .ref d_source, .int 0, .ref d_elementOf, .ref d_label, .ref d_type, .ref d_how, .ref d_value, .ref d_list, .ref d_listSize, .ref d_next, .int 0, .ref d_firstOf, .int 0, .ref d_listed, .int 0, .ref d_notation, .int 0])), (d_elementOf, .inl (tI, nm, .inl (u2 0))), (d_firstOf, .inl (tI, nm, .inl (u2 1))), (d_notation, .inl (tI, nm, .inl (u2 2)))] H _ := hW
  refine lv_aload_n hx hb d_J_forget_24 rfl (lv_at hl 1 rfl) ?_
  refine r_get C hW 0 rfl k_J i_J 10 (by decide) rfl w_796 d_J_forget_25 ?_
  refine lv_iload_n hx hb d_J_forget_28 rfl (lv_at hl 0 rfl) ?_
  refine r_callV [.int (nI wd)] [] C hl.1 hW (c_Meanings_forget l D tI tB tZ tL X hX aM aS aT m_prefixOf m_localOf m_meant m_outside m_counts f5 f6 nm wd (by omega) hnm (by omega)) ok_Meanings_forget w_1139 (wr := [(aJ, .inr (0, [.ref j_bytes, .int 0, .ref aS, .ref aR, .ref aE, .ref aD, .ref aO, .ref aT, .ref aC, .ref aV, .ref aM, .ref aW, .int 0, .int 0, .int (-1)])), (aS, .inr (1, [.int (nI room), .ref s_chars, .int (nI 143), .int (nI 143), .int 0, .int 0, .int 0, .ref s_from, .ref s_size, .ref s_hash, .ref s_next, .ref s_head, .int (nI wd), .int so, .int (nI wd), .ref s_mark, .int 0])), (aO, .inr (5, [.ref aS, .ref aR, .ref aE, .ref aD, .ref o_separator, .int 0, .int 0, .int 0, .int 0, .int 0])), (aT, .inr (6, [.int (nI most), .int 0, .int 0, .int (-1), .ref t_tag, .ref t_above, .ref t_first, .ref t_all, .ref t_given, .ref t_content, .int 0, .ref t_label, .ref t_value, .ref t_declaration, .ref t_stream, .int 0, .int 0])), (aE, .inr (3, [.ref aS, .ref aR, .ref e_from, .ref e_size, .ref e_open, .int 0, .ref e_general, .ref e_parameter, .ref e_framePos, .ref e_frameStop, .ref e_frameEntity, .ref e_frameElement, .int 0, .int 0, .int 0, .int 0, .int 0])), (e_general, .inl (tI, nm, .inl (u1 0))), (e_parameter, .inl (tI, nm, .inl (u1 1))), (aD, .inr (4, [.ref d_element, .ref d_kind, .ref d_source, .int 0, .ref d_elementOf, .ref d_label, .ref d_type, .ref d_how, .ref d_value, .ref d_list, .ref d_listSize, .ref d_next, .int 0, .ref d_firstOf, .int 0, .ref d_listed, .int 0, .ref d_notation, .int 0])), (d_elementOf, .inl (tI, nm, .inl (u2 0))), (d_firstOf, .inl (tI, nm, .inl (u2 1))), (d_notation, .inl (tI, nm, .inl (u2 2)))]) [2, 5, 6] [0, 1, 3, 4, 7, 8, 9, 10, 11, 12, 13] rfl rfl (by decide) (by decide) (by decide) 0 rfl k_Meanings rfl (by decide) (Nat.le_of_ble_eq_true rfl) (by decide) d_J_forget_29 (fun u3 H locs hu hW => ?_)
  have hW : Wd D A s [(aJ, .inr (0, [.ref j_bytes, .int 0, .ref aS, .ref aR, .ref aE, .ref aD, .ref aO, .ref aT, .ref aC, .ref aV, .ref aM, .ref aW, .int 0, .int 0, .int (-1)])), (aS, .inr (1, [.int (nI room), .ref s_chars, .int (nI 143), .int (nI 143), .int 0, .int 0, .int 0, .ref s_from, .ref s_size, .ref s_hash, .ref s_next, .ref s_head, .int (nI wd), .int so, .int (nI wd), .ref s_mark, .int 0])), (aO, .inr (5, [.ref aS, .ref aR, .ref aE, .ref aD, .ref o_separator, .int 0, .int 0, .int 0, .int 0, .int 0])), (aT, .inr (6, [.int (nI most), .int 0, .int 0, .int (-1), .ref t_tag, .ref t_above, .ref t_first, .ref t_all, .ref t_given, .ref t_content, .int 0, .ref t_label, .ref t_value, .ref t_declaration, .ref t_stream, .int 0, .int 0])), (aE, .inr (3, [.ref aS, .ref aR, .ref e_from, .ref e_size, .ref e_open, .int 0, .ref e_general, .ref e_parameter, .ref e_framePos, .ref e_frameStop, .ref e_frameEntity, .ref e_frameElement, .int 0, .int 0, .int 0, .int 0, .int 0])), (e_general, .inl (tI, nm, .inl (u1 0))), (e_parameter, .inl (tI, nm, .inl (u1 1))), (aD, .inr (4, [.ref d_element, .ref d_kind, .ref d_source, .int 0, .ref d_elementOf, .ref d_label, .ref d_type, .ref d_how, .ref d_value, .ref d_list, .ref d_listSize, .ref d_next, .int 0, .ref d_firstOf, .int 0, .ref d_listed, .int 0, .ref d_notation, .int 0])), (d_elementOf, .inl (tI, nm, .inl (u2 0))), (d_firstOf, .inl (tI, nm, .inl (u2 1))), (d_notation, .inl (tI, nm, .inl (u2 2))), (aM, .inr (10, [.ref aS, .ref aT, .ref m_prefixOf, .ref m_localOf, .ref m_meant, .ref m_outside, .ref m_counts, .int 0])), (m_prefixOf, .inl (tI, nm, .inl (u3 0))), (m_meant, .inl (tI, nm, .inl (u3 1)))] H _ := hW
  refine lv_aload_n hx hb d_J_forget_32 rfl (lv_at hl 1 rfl) ?_
  refine r_get C hW 0 rfl k_J i_J 2 (by decide) rfl w_788 d_J_forget_33 ?_
  refine r_callV [] [] C hl.1 hW (c_Store_forget l D tI tB tZ tL X hX aS s_chars s_from s_size s_hash s_next s_head s_mark room wd so hwd) ok_Store_forget w_1144 (wr := [(aJ, .inr (0, [.ref j_bytes, .int 0, .ref aS, .ref aR, .ref aE, .ref aD, .ref aO, .ref aT, .ref aC, .ref aV, .ref aM, .ref aW, .int 0, .int 0, .int (-1)])), (aO, .inr (5, [.ref aS, .ref aR, .ref aE, .ref aD, .ref o_separator, .int 0, .int 0, .int 0, .int 0, .int 0])), (aT, .inr (6, [.int (nI most), .int 0, .int 0, .int (-1), .ref t_tag, .ref t_above, .ref t_first, .ref t_all, .ref t_given, .ref t_content, .int 0, .ref t_label, .ref t_value, .ref t_declaration, .ref t_stream, .int 0, .int 0])), (aE, .inr (3, [.ref aS, .ref aR, .ref e_from, .ref e_size, .ref e_open, .int 0, .ref e_general, .ref e_parameter, .ref e_framePos, .ref e_frameStop, .ref e_frameEntity, .ref e_frameElement, .int 0, .int 0, .int 0, .int 0, .int 0])), (e_general, .inl (tI, nm, .inl (u1 0))), (e_parameter, .inl (tI, nm, .inl (u1 1))), (aD, .inr (4, [.ref d_element, .ref d_kind, .ref d_source, .int 0, .ref d_elementOf, .ref d_label, .ref d_type, .ref d_how, .ref d_value, .ref d_list, .ref d_listSize, .ref d_next, .int 0, .ref d_firstOf, .int 0, .ref d_listed, .int 0, .ref d_notation, .int 0])), (d_elementOf, .inl (tI, nm, .inl (u2 0))), (d_firstOf, .inl (tI, nm, .inl (u2 1))), (d_notation, .inl (tI, nm, .inl (u2 2))), (aM, .inr (10, [.ref aS, .ref aT, .ref m_prefixOf, .ref m_localOf, .ref m_meant, .ref m_outside, .ref m_counts, .int 0])), (m_prefixOf, .inl (tI, nm, .inl (u3 0))), (m_meant, .inl (tI, nm, .inl (u3 1)))]) [1] [0, 2, 3, 4, 5, 6, 7, 8, 9, 10, 11, 12, 13] rfl rfl (by decide) (by decide) (by decide) 0 rfl k_Store rfl (by decide) (Nat.le_of_ble_eq_true rfl) (by decide) d_J_forget_36 (fun u_ H locs hu hW => ?_)
  have hW : Wd D A s [(aJ, .inr (0, [.ref j_bytes, .int 0, .ref aS, .ref aR, .ref aE, .ref aD, .ref aO, .ref aT, .ref aC, .ref aV, .ref aM, .ref aW, .int 0, .int 0, .int (-1)])), (aO, .inr (5, [.ref aS, .ref aR, .ref aE, .ref aD, .ref o_separator, .int 0, .int 0, .int 0, .int 0, .int 0])), (aT, .inr (6, [.int (nI most), .int 0, .int 0, .int (-1), .ref t_tag, .ref t_above, .ref t_first, .ref t_all, .ref t_given, .ref t_content, .int 0, .ref t_label, .ref t_value, .ref t_declaration, .ref t_stream, .int 0, .int 0])), (aE, .inr (3, [.ref aS, .ref aR, .ref e_from, .ref e_size, .ref e_open, .int 0, .ref e_general, .ref e_parameter, .ref e_framePos, .ref e_frameStop, .ref e_frameEntity, .ref e_frameElement, .int 0, .int 0, .int 0, .int 0, .int 0])), (e_general, .inl (tI, nm, .inl (u1 0))), (e_parameter, .inl (tI, nm, .inl (u1 1))), (aD, .inr (4, [.ref d_element, .ref d_kind, .ref d_source, .int 0, .ref d_elementOf, .ref d_label, .ref d_type, .ref d_how, .ref d_value, .ref d_list, .ref d_listSize, .ref d_next, .int 0, .ref d_firstOf, .int 0, .ref d_listed, .int 0, .ref d_notation, .int 0])), (d_elementOf, .inl (tI, nm, .inl (u2 0))), (d_firstOf, .inl (tI, nm, .inl (u2 1))), (d_notation, .inl (tI, nm, .inl (u2 2))), (aM, .inr (10, [.ref aS, .ref aT, .ref m_prefixOf, .ref m_localOf, .ref m_meant, .ref m_outside, .ref m_counts, .int 0])), (m_prefixOf, .inl (tI, nm, .inl (u3 0))), (m_meant, .inl (tI, nm, .inl (u3 1))), (aS, .inr (1, [.int (nI room), .ref s_chars, .int (nI 143), .int (nI 143), .int 0, .int 0, .int 0, .ref s_from, .ref s_size, .ref s_hash, .ref s_next, .ref s_head, .int (nI wd), .int so, .int (nI wd), .ref s_mark, .int 0]))] H _ := hW
  refine lv_aload_n hx hb d_J_forget_39 rfl (lv_at hl 1 rfl) ?_
  refine r_get C hW 0 rfl k_J i_J 6 (by decide) rfl w_792 d_J_forget_40 ?_
  refine r_callV [] [] C hl.1 hW (c_Doctype_forget l D tI tB tZ tL X hX aO aS aR aE aD o_separator ) ok_Doctype_forget w_1148 (wr := [(aJ, .inr (0, [.ref j_bytes, .int 0, .ref aS, .ref aR, .ref aE, .ref aD, .ref aO, .ref aT, .ref aC, .ref aV, .ref aM, .ref aW, .int 0, .int 0, .int (-1)])), (aT, .inr (6, [.int (nI most), .int 0, .int 0, .int (-1), .ref t_tag, .ref t_above, .ref t_first, .ref t_all, .ref t_given, .ref t_content, .int 0, .ref t_label, .ref t_value, .ref t_declaration, .ref t_stream, .int 0, .int 0])), (aE, .inr (3, [.ref aS, .ref aR, .ref e_from, .ref e_size, .ref e_open, .int 0, .ref e_general, .ref e_parameter, .ref e_framePos, .ref e_frameStop, .ref e_frameEntity, .ref e_frameElement, .int 0, .int 0, .int 0, .int 0, .int 0])), (e_general, .inl (tI, nm, .inl (u1 0))), (e_parameter, .inl (tI, nm, .inl (u1 1))), (aD, .inr (4, [.ref d_element, .ref d_kind, .ref d_source, .int 0, .ref d_elementOf, .ref d_label, .ref d_type, .ref d_how, .ref d_value, .ref d_list, .ref d_listSize, .ref d_next, .int 0, .ref d_firstOf, .int 0, .ref d_listed, .int 0, .ref d_notation, .int 0])), (d_elementOf, .inl (tI, nm, .inl (u2 0))), (d_firstOf, .inl (tI, nm, .inl (u2 1))), (d_notation, .inl (tI, nm, .inl (u2 2))), (aM, .inr (10, [.ref aS, .ref aT, .ref m_prefixOf, .ref m_localOf, .ref m_meant, .ref m_outside, .ref m_counts, .int 0])), (m_prefixOf, .inl (tI, nm, .inl (u3 0))), (m_meant, .inl (tI, nm, .inl (u3 1))), (aS, .inr (1, [.int (nI room), .ref s_chars, .int (nI 143), .int (nI 143), .int 0, .int 0, .int 0, .ref s_from, .ref s_size, .ref s_hash, .ref s_next, .ref s_head, .int (nI wd), .int so, .int (nI wd), .ref s_mark, .int 0]))]) [1] [0, 2, 3, 4, 5, 6, 7, 8, 9, 10, 11, 12, 13] rfl rfl (by decide) (by decide) (by decide) 0 rfl k_Doctype rfl (by decide) (Nat.le_of_ble_eq_true rfl) (by decide) d_J_forget_43 (fun u_ H locs hu hW => ?_)
  have hW : Wd D A s [(aJ, .inr (0, [.ref j_bytes, .int 0, .ref aS, .ref aR, .ref aE, .ref aD, .ref aO, .ref aT, .ref aC, .ref aV, .ref aM, .ref aW, .int 0, .int 0, .int (-1)])), (aT, .inr (6, [.int (nI most), .int 0, .int 0, .int (-1), .ref t_tag, .ref t_above, .ref t_first, .ref t_all, .ref t_given, .ref t_content, .int 0, .ref t_label, .ref t_value, .ref t_declaration, .ref t_stream, .int 0, .int 0])), (aE, .inr (3, [.ref aS, .ref aR, .ref e_from, .ref e_size, .ref e_open, .int 0, .ref e_general, .ref e_parameter, .ref e_framePos, .ref e_frameStop, .ref e_frameEntity, .ref e_frameElement, .int 0, .int 0, .int 0, .int 0, .int 0])), (e_general, .inl (tI, nm, .inl (u1 0))), (e_parameter, .inl (tI, nm, .inl (u1 1))), (aD, .inr (4, [.ref d_element, .ref d_kind, .ref d_source, .int 0, .ref d_elementOf, .ref d_label, .ref d_type, .ref d_how, .ref d_value, .ref d_list, .ref d_listSize, .ref d_next, .int 0, .ref d_firstOf, .int 0, .ref d_listed, .int 0, .ref d_notation, .int 0])), (d_elementOf, .inl (tI, nm, .inl (u2 0))), (d_firstOf, .inl (tI, nm, .inl (u2 1))), (d_notation, .inl (tI, nm, .inl (u2 2))), (aM, .inr (10, [.ref aS, .ref aT, .ref m_prefixOf, .ref m_localOf, .ref m_meant, .ref m_outside, .ref m_counts, .int 0])), (m_prefixOf, .inl (tI, nm, .inl (u3 0))), (m_meant, .inl (tI, nm, .inl (u3 1))), (aS, .inr (1, [.int (nI room), .ref s_chars, .int (nI 143), .int (nI 143), .int 0, .int 0, .int 0, .ref s_from, .ref s_size, .ref s_hash, .ref s_next, .ref s_head, .int (nI wd), .int so, .int (nI wd), .ref s_mark, .int 0])), (aO, .inr (5, [.ref aS, .ref aR, .ref aE, .ref aD, .ref o_separator, .int 0, .int 0, .int 0, .int 0, .int 0]))] H _ := hW
  refine lv_aload_n hx hb d_J_forget_46 rfl (lv_at hl 1 rfl) ?_
  refine r_get C hW 0 rfl k_J i_J 7 (by decide) rfl w_793 d_J_forget_47 ?_
  refine r_callV [] [] C hl.1 hW (c_Tree_forget l D tI tB tZ tL X hX aT t_tag t_above t_first t_all t_given t_content t_label t_value t_declaration t_stream most) ok_Tree_forget w_1152 (wr := [(aJ, .inr (0, [.ref j_bytes, .int 0, .ref aS, .ref aR, .ref aE, .ref aD, .ref aO, .ref aT, .ref aC, .ref aV, .ref aM, .ref aW, .int 0, .int 0, .int (-1)])), (aE, .inr (3, [.ref aS, .ref aR, .ref e_from, .ref e_size, .ref e_open, .int 0, .ref e_general, .ref e_parameter, .ref e_framePos, .ref e_frameStop, .ref e_frameEntity, .ref e_frameElement, .int 0, .int 0, .int 0, .int 0, .int 0])), (e_general, .inl (tI, nm, .inl (u1 0))), (e_parameter, .inl (tI, nm, .inl (u1 1))), (aD, .inr (4, [.ref d_element, .ref d_kind, .ref d_source, .int 0, .ref d_elementOf, .ref d_label, .ref d_type, .ref d_how, .ref d_value, .ref d_list, .ref d_listSize, .ref d_next, .int 0, .ref d_firstOf, .int 0, .ref d_listed, .int 0, .ref d_notation, .int 0])), (d_elementOf, .inl (tI, nm, .inl (u2 0))), (d_firstOf, .inl (tI, nm, .inl (u2 1))), (d_notation, .inl (tI, nm, .inl (u2 2))), (aM, .inr (10, [.ref aS, .ref aT, .ref m_prefixOf, .ref m_localOf, .ref m_meant, .ref m_outside, .ref m_counts, .int 0])), (m_prefixOf, .inl (tI, nm, .inl (u3 0))), (m_meant, .inl (tI, nm, .inl (u3 1))), (aS, .inr (1, [.int (nI room), .ref s_chars, .int (nI 143), .int (nI 143), .int 0, .int 0, .int 0, .ref s_from, .ref s_size, .ref s_hash, .ref s_next, .ref s_head, .int (nI wd), .int so, .int (nI wd), .ref s_mark, .int 0])), (aO, .inr (5, [.ref aS, .ref aR, .ref aE, .ref aD, .ref o_separator, .int 0, .int 0, .int 0, .int 0, .int 0]))]) [1] [0, 2, 3, 4, 5, 6, 7, 8, 9, 10, 11, 12, 13] rfl rfl (by decide) (by decide) (by decide) 0 rfl k_Tree rfl (by decide) (Nat.le_of_ble_eq_true rfl) (by decide) d_J_forget_50 (fun u_ H locs hu hW => ?_)
  have hW : Wd D A s [(aJ, .inr (0, [.ref j_bytes, .int 0, .ref aS, .ref aR, .ref aE, .ref aD, .ref aO, .ref aT, .ref aC, .ref aV, .ref aM, .ref aW, .int 0, .int 0, .int (-1)])), (aE, .inr (3, [.ref aS, .ref aR, .ref e_from, .ref e_size, .ref e_open, .int 0, .ref e_general, .ref e_parameter, .ref e_framePos, .ref e_frameStop, .ref e_frameEntity, .ref e_frameElement, .int 0, .int 0, .int 0, .int 0, .int 0])), (e_general, .inl (tI, nm, .inl (u1 0))), (e_parameter, .inl (tI, nm, .inl (u1 1))), (aD, .inr (4, [.ref d_element, .ref d_kind, .ref d_source, .int 0, .ref d_elementOf, .ref d_label, .ref d_type, .ref d_how, .ref d_value, .ref d_list, .ref d_listSize, .ref d_next, .int 0, .ref d_firstOf, .int 0, .ref d_listed, .int 0, .ref d_notation, .int 0])), (d_elementOf, .inl (tI, nm, .inl (u2 0))), (d_firstOf, .inl (tI, nm, .inl (u2 1))), (d_notation, .inl (tI, nm, .inl (u2 2))), (aM, .inr (10, [.ref aS, .ref aT, .ref m_prefixOf, .ref m_localOf, .ref m_meant, .ref m_outside, .ref m_counts, .int 0])), (m_prefixOf, .inl (tI, nm, .inl (u3 0))), (m_meant, .inl (tI, nm, .inl (u3 1))), (aS, .inr (1, [.int (nI room), .ref s_chars, .int (nI 143), .int (nI 143), .int 0, .int 0, .int 0, .ref s_from, .ref s_size, .ref s_hash, .ref s_next, .ref s_head, .int (nI wd), .int so, .int (nI wd), .ref s_mark, .int 0])), (aO, .inr (5, [.ref aS, .ref aR, .ref aE, .ref aD, .ref o_separator, .int 0, .int 0, .int 0, .int 0, .int 0])), (aT, .inr (6, [.int (nI most), .int 0, .int 0, .int (-1), .ref t_tag, .ref t_above, .ref t_first, .ref t_all, .ref t_given, .ref t_content, .int 0, .ref t_label, .ref t_value, .ref t_declaration, .ref t_stream, .int 0, .int 0]))] H _ := hW
  rw [hQ]
  exact r_vret C hr hlk hW (fun k => [(u1 0), (u1 1), (u2 0), (u2 1), (u2 2), (u3 0), (u3 1)].getD k (fun _ => 0)) trivial [0, 11, 1, 4, 8, 12, 13, 2, 3, 5, 6, 7, 9, 10] (by decide) rfl d_J_forget_53 (by decide) (by decide)
set_option maxHeartbeats 4000000 in
set_option maxRecDepth 100000 in
theorem c_Store_loadNarrow0 (l : Launch) (D : va_G) (tI tB tZ tL : ClassId) (X : (Nat → Prop) → State → Prop) (hX : Ro X) (aS s_chars s_from s_size s_hash s_next s_head s_mark j_bytes : Nat) (room wd : Nat) (so : Int32)  : CtI l D tI tB tZ tL X y_Store_loadNarrow b_Store_loadNarrow 10 .int ({ frames := 0, cells := 0, slots := 0, locals := 0 }) [.ref aS, .ref j_bytes, .int 0, .int 0] [(aS, .inr (1, [.int (nI room), .ref s_chars, .int (nI 143), .int (nI 143), .int 0, .int 0, .int 0, .ref s_from, .ref s_size, .ref s_hash, .ref s_next, .ref s_head, .int (nI wd), .int so, .int (nI wd), .ref s_mark, .int 0]))] (S := Unit) (fun (r : Int32) (_ : Unit) => r = (-1)) (fun _ => [(aS, .inr (1, [.int (nI room), .ref s_chars, .int (nI 143), .int (nI 143), .int 0, .int 0, .int 0, .ref s_from, .ref s_size, .ref s_hash, .ref s_next, .ref s_head, .int (nI wd), .int so, .int (nI wd), .ref s_mark, .int 0]))]) := by
  refine CtI.start hX (by decide) (Nat.le_of_ble_eq_true rfl) ?_
  intro p e s m args below meth c A ls C hr hlk hW hl
  refine W.nameQ (fun Q hQ => ?_)
  have hx := C.1.1
  have hb := C.1.2.1
  have hown := C.1.2.2.2.1
  have hT := C.1.2.2.2.2
  have hl : lv_has ls 10 [(0, .ref aS), (1, .ref j_bytes), (2, .int 0), (3, .int 0)] := hl
  refine lv_iload_n hx hb d_Store_loadNarrow_0 rfl (lv_at hl 3 rfl) ?_
  refine lv_istore (lv' := [(5, .int 0), (0, .ref aS), (1, .ref j_bytes), (2, .int 0), (3, .int 0)]) hx hb d_Store_loadNarrow_1 hl (by decide) rfl (fun ls hl => ?_)
  refine lv_iload hx hb d_Store_loadNarrow_3 (lv_at hl 0 rfl) ?_
  refine lv_iload_n hx hb d_Store_loadNarrow_5 rfl (lv_at hl 3 rfl) ?_
  refine lv_icmp_ge (tgt := 211) hx hb d_Store_loadNarrow_6 (by decide) (fun c_6 => ?_) (fun c_6 => absurd (by decide) c_6)
  refine lv_iconst (v := (-1)) hx hb d_Store_loadNarrow_211 (by decide) ?_
  rw [hQ]
  exact r_iret C hr hlk hW rfl () rfl [0] (by decide) rfl d_Store_loadNarrow_212 (by decide) (by decide)
set_option maxHeartbeats 4000000 in
set_option maxRecDepth 100000 in
theorem c_Store_load0 (l : Launch) (D : va_G) (tI tB tZ tL : ClassId) (X : (Nat → Prop) → State → Prop) (hX : Ro X) (aS s_chars s_from s_size s_hash s_next s_head s_mark j_bytes : Nat) (room wd : Nat) (so : Int32)  : CtI l D tI tB tZ tL X y_Store_load b_Store_load 7 .int ({ frames := 1, cells := 0, slots := 0, locals := 29 }) [.ref aS, .ref j_bytes, .int 0] [(aS, .inr (1, [.int (nI room), .ref s_chars, .int (nI 143), .int (nI 143), .int 0, .int 0, .int 0, .ref s_from, .ref s_size, .ref s_hash, .ref s_next, .ref s_head, .int (nI wd), .int so, .int (nI wd), .ref s_mark, .int 0]))] (S := Unit) (fun (r : Int32) (_ : Unit) => r = (-1)) (fun _ => [(aS, .inr (1, [.int (nI room), .ref s_chars, .int (nI 143), .int (nI 143), .int 0, .int 0, .int 0, .ref s_from, .ref s_size, .ref s_hash, .ref s_next, .ref s_head, .int (nI wd), .int so, .int (nI wd), .ref s_mark, .int 0]))]) := by
  refine CtI.start hX (by decide) (Nat.le_of_ble_eq_true rfl) ?_
  intro p e s m args below meth c A ls C hr hlk hW hl
  refine W.nameQ (fun Q hQ => ?_)
  have hx := C.1.1
  have hb := C.1.2.1
  have hown := C.1.2.2.2.1
  have hT := C.1.2.2.2.2
  have hl : lv_has ls 7 [(0, .ref aS), (1, .ref j_bytes), (2, .int 0)] := hl
  refine lv_iload_n hx hb d_Store_load_0 rfl (lv_at hl 2 rfl) ?_
  refine lv_if_le (tgt := 14) hx hb d_Store_load_1 (by decide) (fun c_1 => ?_) (fun c_1 => absurd (by decide) c_1)
  refine lv_iconst (v := 0) hx hb d_Store_load_14 (by decide) ?_
  refine lv_istore_n (lv' := [(3, .int 0), (0, .ref aS), (1, .ref j_bytes), (2, .int 0)]) hx hb d_Store_load_15 rfl hl (by decide) rfl (fun ls hl => ?_)
  refine lv_iload_n hx hb d_Store_load_16 rfl (lv_at hl 3 rfl) ?_
  refine lv_iconst (v := 1) hx hb d_Store_load_17 (by decide) ?_
  refine lv_icmp_le (tgt := 31) hx hb d_Store_load_18 (by decide) (fun c_18 => ?_) (fun c_18 => absurd (by decide) c_18)
  refine lv_iconst (v := 0) hx hb d_Store_load_31 (by decide) ?_
  refine lv_istore (lv' := [(4, .int 0), (3, .int 0), (0, .ref aS), (1, .ref j_bytes), (2, .int 0)]) hx hb d_Store_load_32 hl (by decide) rfl (fun ls hl => ?_)
  refine lv_iload_n hx hb d_Store_load_34 rfl (lv_at hl 1 rfl) ?_
  refine lv_sipush (v := 254) hx hb d_Store_load_35 (by decide) ?_
  refine lv_icmp_ne (tgt := 53) hx hb d_Store_load_38 (by decide) (fun c_38 => ?_) (fun c_38 => absurd c_38 (by decide))
  refine lv_iconst (v := 0) hx hb d_Store_load_53 (by decide) ?_
  refine lv_istore (lv' := [(5, .int 0), (4, .int 0), (3, .int 0), (0, .ref aS), (1, .ref j_bytes), (2, .int 0)]) hx hb d_Store_load_54 hl (by decide) rfl (fun ls hl => ?_)
  refine lv_aload_n hx hb d_Store_load_56 rfl (lv_at hl 3 rfl) ?_
  refine lv_iload hx hb d_Store_load_57 (lv_at hl 0 rfl) ?_
  refine lv_if_ne (tgt := 77) hx hb d_Store_load_59 (by decide) (fun c_59 => absurd rfl c_59) (fun c_59 => ?_)
  refine lv_iload_n hx hb d_Store_load_62 rfl (lv_at hl 2 rfl) ?_
  refine lv_sipush (v := 255) hx hb d_Store_load_63 (by decide) ?_
  refine lv_icmp_ne (tgt := 81) hx hb d_Store_load_66 (by decide) (fun c_66 => ?_) (fun c_66 => absurd c_66 (by decide))
  refine lv_iconst (v := 0) hx hb d_Store_load_81 (by decide) ?_
  refine r_put (v := .int 0) (ty := .boolean) C hW 0 rfl k_Store i_Store t_Store o_Store n_Store 5 (by decide) w_164 rfl (by decide +kernel) rfl rfl (Nat.le_of_ble_eq_true rfl) d_Store_load_82 (fun H locs hW => ?_)
  have hW : Wd D A s [(aS, .inr (1, [.int (nI room), .ref s_chars, .int (nI 143), .int (nI 143), .int 0, .int 0, .int 0, .ref s_from, .ref s_size, .ref s_hash, .ref s_next, .ref s_head, .int (nI wd), .int so, .int (nI wd), .ref s_mark, .int 0]))] H _ := hW
  refine lv_aload_n hx hb d_Store_load_85 rfl (lv_at hl 3 rfl) ?_
  refine r_get C hW 0 rfl k_Store i_Store 5 (by decide) rfl w_164 d_Store_load_86 ?_
  refine lv_if_eq (tgt := 109) hx hb d_Store_load_89 (by decide) (fun c_89 => ?_) (fun c_89 => absurd rfl c_89)
  refine lv_iload_n hx hb d_Store_load_109 rfl (lv_at hl 5 rfl) ?_
  refine lv_iconst (v := 2) hx hb d_Store_load_110 (by decide) ?_
  refine lv_icmp_le (tgt := 146) hx hb d_Store_load_111 (by decide) (fun c_111 => ?_) (fun c_111 => absurd (by decide) c_111)
  refine lv_iconst (v := 0) hx hb d_Store_load_146 (by decide) ?_
  refine lv_istore (lv' := [(6, .int 0), (5, .int 0), (4, .int 0), (3, .int 0), (0, .ref aS), (1, .ref j_bytes), (2, .int 0)]) hx hb d_Store_load_147 hl (by decide) rfl (fun ls hl => ?_)
  refine lv_aload_n hx hb d_Store_load_149 rfl (lv_at hl 4 rfl) ?_
  refine lv_aload_n hx hb d_Store_load_150 rfl (lv_at hl 5 rfl) ?_
  refine lv_iload_n hx hb d_Store_load_151 rfl (lv_at hl 6 rfl) ?_
  refine lv_iload hx hb d_Store_load_152 (lv_at hl 0 rfl) ?_
  refine lv_if_eq (tgt := 161) hx hb d_Store_load_154 (by decide) (fun c_154 => ?_) (fun c_154 => absurd rfl c_154)
  refine lv_iconst (v := 0) hx hb d_Store_load_161 (by decide) ?_
  refine r_callVi [.ref j_bytes, .int 0, .int 0] [] C hl.1 hW (c_Store_loadNarrow0 l D tI tB tZ tL X hX aS s_chars s_from s_size s_hash s_next s_head s_mark j_bytes room wd so) ok_Store_loadNarrow w_1180 (wr := []) [0] [] rfl rfl (by decide) (by decide) (by decide) 0 rfl k_Store rfl (by decide) (Nat.le_of_ble_eq_true rfl) (by decide) d_Store_load_162 (fun r162 u_ H locs hu hW => ?_)
  subst hu
  have hW : Wd D A s [(aS, .inr (1, [.int (nI room), .ref s_chars, .int (nI 143), .int (nI 143), .int 0, .int 0, .int 0, .ref s_from, .ref s_size, .ref s_hash, .ref s_next, .ref s_head, .int (nI wd), .int so, .int (nI wd), .ref s_mark, .int 0]))] H _ := hW
  rw [hQ]
  exact r_iret C hr hlk hW rfl () rfl [0] (by decide) rfl d_Store_load_165 (by decide) (by decide)
set_option maxHeartbeats 4000000 in
set_option maxRecDepth 100000 in
theorem c_Reader_start0 (l : Launch) (D : va_G) (tI tB tZ tL : ClassId) (X : (Nat → Prop) → State → Prop) (hX : Ro X) (aR aS s_chars s_from s_size s_hash s_next s_head s_mark : Nat) (room wd : Nat) (so : Int32)  : CtV l D tI tB tZ tL X y_Reader_start b_Reader_start 1 ({ frames := 0, cells := 0, slots := 0, locals := 0 }) [.ref aR] [(aR, .inr (2, [.ref aS, .ref s_chars, .int 0, .int 0, .int 0, .int 0, .int 0, .int 0, .int 0, .int 0, .int 0, .int 0])), (aS, .inr (1, [.int (nI room), .ref s_chars, .int (nI 143), .int (nI 143), .int 0, .int 0, .int 0, .ref s_from, .ref s_size, .ref s_hash, .ref s_next, .ref s_head, .int (nI wd), .int so, .int (nI wd), .ref s_mark, .int 0]))] (S := Unit) (fun (_ : Unit) => True) (fun _ => [(aR, .inr (2, [.ref aS, .ref s_chars, .int (nI 143), .int (nI 143), .int 0, .int 0, .int 0, .int 0, .int 0, .int 0, .int 0, .int 0])), (aS, .inr (1, [.int (nI room), .ref s_chars, .int (nI 143), .int (nI 143), .int 0, .int 0, .int 0, .ref s_from, .ref s_size, .ref s_hash, .ref s_next, .ref s_head, .int (nI wd), .int so, .int (nI wd), .ref s_mark, .int 0]))]) := by
  refine CtV.start hX (by decide) (Nat.le_of_ble_eq_true rfl) ?_
  intro p e s m args below meth c A ls C hr hlk hin hW hl
  refine W.nameQ (fun Q hQ => ?_)
  have hx := C.1.1
  have hb := C.1.2.1
  have hown := C.1.2.2.2.1
  have hT := C.1.2.2.2.2
  have hl : lv_has ls 1 [(0, .ref aR)] := hl
  refine lv_aload_n hx hb d_Reader_start_0 rfl (lv_at hl 0 rfl) ?_
  refine lv_aload_n hx hb d_Reader_start_1 rfl (lv_at hl 0 rfl) ?_
  refine r_get C hW 0 rfl k_Reader i_Reader 0 (by decide) rfl w_232 d_Reader_start_2 ?_
  refine r_get C hW 1 rfl k_Store i_Store 2 (by decide) rfl w_153 d_Reader_start_5 ?_
  refine r_put (v := .int (nI 143)) (ty := .int) C hW 0 rfl k_Reader i_Reader t_Reader o_Reader n_Reader 2 (by decide) w_235 rfl (by decide +kernel) rfl rfl (Nat.le_of_ble_eq_true rfl) d_Reader_start_8 (fun H locs hW => ?_)
  have hW : Wd D A s [(aR, .inr (2, [.ref aS, .ref s_chars, .int (nI 143), .int 0, .int 0, .int 0, .int 0, .int 0, .int 0, .int 0, .int 0, .int 0])), (aS, .inr (1, [.int (nI room), .ref s_chars, .int (nI 143), .int (nI 143), .int 0, .int 0, .int 0, .ref s_from, .ref s_size, .ref s_hash, .ref s_next, .ref s_head, .int (nI wd), .int so, .int (nI wd), .ref s_mark, .int 0]))] H _ := hW
  refine lv_aload_n hx hb d_Reader_start_11 rfl (lv_at hl 0 rfl) ?_
  refine lv_aload_n hx hb d_Reader_start_12 rfl (lv_at hl 0 rfl) ?_
  refine r_get C hW 0 rfl k_Reader i_Reader 0 (by decide) rfl w_232 d_Reader_start_13 ?_
  refine r_get C hW 1 rfl k_Store i_Store 3 (by decide) rfl w_156 d_Reader_start_16 ?_
  refine r_put (v := .int (nI 143)) (ty := .int) C hW 0 rfl k_Reader i_Reader t_Reader o_Reader n_Reader 3 (by decide) w_241 rfl (by decide +kernel) rfl rfl (Nat.le_of_ble_eq_true rfl) d_Reader_start_19 (fun H locs hW => ?_)
  have hW : Wd D A s [(aR, .inr (2, [.ref aS, .ref s_chars, .int (nI 143), .int (nI 143), .int 0, .int 0, .int 0, .int 0, .int 0, .int 0, .int 0, .int 0])), (aS, .inr (1, [.int (nI room), .ref s_chars, .int (nI 143), .int (nI 143), .int 0, .int 0, .int 0, .ref s_from, .ref s_size, .ref s_hash, .ref s_next, .ref s_head, .int (nI wd), .int so, .int (nI wd), .ref s_mark, .int 0]))] H _ := hW
  refine lv_aload_n hx hb d_Reader_start_22 rfl (lv_at hl 0 rfl) ?_
  refine lv_iconst (v := 0) hx hb d_Reader_start_23 (by decide) ?_
  refine r_put (v := .int 0) (ty := .int) C hW 0 rfl k_Reader i_Reader t_Reader o_Reader n_Reader 4 (by decide) w_245 rfl (by decide +kernel) rfl rfl (Nat.le_of_ble_eq_true rfl) d_Reader_start_24 (fun H locs hW => ?_)
  have hW : Wd D A s [(aR, .inr (2, [.ref aS, .ref s_chars, .int (nI 143), .int (nI 143), .int 0, .int 0, .int 0, .int 0, .int 0, .int 0, .int 0, .int 0])), (aS, .inr (1, [.int (nI room), .ref s_chars, .int (nI 143), .int (nI 143), .int 0, .int 0, .int 0, .ref s_from, .ref s_size, .ref s_hash, .ref s_next, .ref s_head, .int (nI wd), .int so, .int (nI wd), .ref s_mark, .int 0]))] H _ := hW
  refine lv_aload_n hx hb d_Reader_start_27 rfl (lv_at hl 0 rfl) ?_
  refine lv_iconst (v := 0) hx hb d_Reader_start_28 (by decide) ?_
  refine r_put (v := .int 0) (ty := .int) C hW 0 rfl k_Reader i_Reader t_Reader o_Reader n_Reader 5 (by decide) w_250 rfl (by decide +kernel) rfl rfl (Nat.le_of_ble_eq_true rfl) d_Reader_start_29 (fun H locs hW => ?_)
  have hW : Wd D A s [(aR, .inr (2, [.ref aS, .ref s_chars, .int (nI 143), .int (nI 143), .int 0, .int 0, .int 0, .int 0, .int 0, .int 0, .int 0, .int 0])), (aS, .inr (1, [.int (nI room), .ref s_chars, .int (nI 143), .int (nI 143), .int 0, .int 0, .int 0, .ref s_from, .ref s_size, .ref s_hash, .ref s_next, .ref s_head, .int (nI wd), .int so, .int (nI wd), .ref s_mark, .int 0]))] H _ := hW
  refine lv_aload_n hx hb d_Reader_start_32 rfl (lv_at hl 0 rfl) ?_
  refine lv_iconst (v := 0) hx hb d_Reader_start_33 (by decide) ?_
  refine r_put (v := .int 0) (ty := .int) C hW 0 rfl k_Reader i_Reader t_Reader o_Reader n_Reader 6 (by decide) w_253 rfl (by decide +kernel) rfl rfl (Nat.le_of_ble_eq_true rfl) d_Reader_start_34 (fun H locs hW => ?_)
  have hW : Wd D A s [(aR, .inr (2, [.ref aS, .ref s_chars, .int (nI 143), .int (nI 143), .int 0, .int 0, .int 0, .int 0, .int 0, .int 0, .int 0, .int 0])), (aS, .inr (1, [.int (nI room), .ref s_chars, .int (nI 143), .int (nI 143), .int 0, .int 0, .int 0, .ref s_from, .ref s_size, .ref s_hash, .ref s_next, .ref s_head, .int (nI wd), .int so, .int (nI wd), .ref s_mark, .int 0]))] H _ := hW
  rw [hQ]
  exact r_vret C hr hlk hW () trivial [0, 1] (by decide) rfl d_Reader_start_37 (by decide) (by decide)
set_option maxHeartbeats 4000000 in
set_option maxRecDepth 100000 in
theorem c_Entities_start0 (l : Launch) (D : va_G) (tI tB tZ tL : ClassId) (X : (Nat → Prop) → State → Prop) (hX : Ro X) (aE aS aR e_from e_size e_open e_general e_parameter e_framePos e_frameStop e_frameEntity e_frameElement s_chars s_from s_size s_hash s_next s_head s_mark : Nat) (room wd : Nat) (so : Int32)  : CtV l D tI tB tZ tL X y_Entities_start b_Entities_start 1 ({ frames := 0, cells := 0, slots := 0, locals := 0 }) [.ref aE] [(aE, .inr (3, [.ref aS, .ref aR, .ref e_from, .ref e_size, .ref e_open, .int 0, .ref e_general, .ref e_parameter, .ref e_framePos, .ref e_frameStop, .ref e_frameEntity, .ref e_frameElement, .int 0, .int 0, .int 0, .int 0, .int 0])), (aS, .inr (1, [.int (nI room), .ref s_chars, .int (nI 143), .int (nI 143), .int 0, .int 0, .int 0, .ref s_from, .ref s_size, .ref s_hash, .ref s_next, .ref s_head, .int (nI wd), .int so, .int (nI wd), .ref s_mark, .int 0]))] (S := Unit) (fun (_ : Unit) => True) (fun _ => [(aE, .inr (3, [.ref aS, .ref aR, .ref e_from, .ref e_size, .ref e_open, .int 0, .ref e_general, .ref e_parameter, .ref e_framePos, .ref e_frameStop, .ref e_frameEntity, .ref e_frameElement, .int 0, .int 0, .int 0, .int 0, .int 0])), (aS, .inr (1, [.int (nI room), .ref s_chars, .int (nI 143), .int (nI 143), .int 0, .int 0, .int 0, .ref s_from, .ref s_size, .ref s_hash, .ref s_next, .ref s_head, .int (nI wd), .int so, .int (nI wd), .ref s_mark, .int 0]))]) := by
  refine CtV.start hX (by decide) (Nat.le_of_ble_eq_true rfl) ?_
  intro p e s m args below meth c A ls C hr hlk hin hW hl
  refine W.nameQ (fun Q hQ => ?_)
  have hx := C.1.1
  have hb := C.1.2.1
  have hown := C.1.2.2.2.1
  have hT := C.1.2.2.2.2
  have hl : lv_has ls 1 [(0, .ref aE)] := hl
  refine lv_aload_n hx hb d_Entities_start_0 rfl (lv_at hl 0 rfl) ?_
  refine lv_aload_n hx hb d_Entities_start_1 rfl (lv_at hl 0 rfl) ?_
  refine r_get C hW 0 rfl k_Entities i_Entities 0 (by decide) rfl w_300 d_Entities_start_2 ?_
  refine r_get C hW 1 rfl k_Store i_Store 4 (by decide) rfl w_160 d_Entities_start_5 ?_
  refine r_put (v := .int 0) (ty := .int) C hW 0 rfl k_Entities i_Entities t_Entities o_Entities n_Entities 13 (by decide) w_315 rfl (by decide +kernel) rfl rfl (Nat.le_of_ble_eq_true rfl) d_Entities_start_8 (fun H locs hW => ?_)
  have hW : Wd D A s [(aE, .inr (3, [.ref aS, .ref aR, .ref e_from, .ref e_size, .ref e_open, .int 0, .ref e_general, .ref e_parameter, .ref e_framePos, .ref e_frameStop, .ref e_frameEntity, .ref e_frameElement, .int 0, .int 0, .int 0, .int 0, .int 0])), (aS, .inr (1, [.int (nI room), .ref s_chars, .int (nI 143), .int (nI 143), .int 0, .int 0, .int 0, .ref s_from, .ref s_size, .ref s_hash, .ref s_next, .ref s_head, .int (nI wd), .int so, .int (nI wd), .ref s_mark, .int 0]))] H _ := hW
  rw [hQ]
  exact r_vret C hr hlk hW () trivial [0, 1] (by decide) rfl d_Entities_start_11 (by decide) (by decide)
set_option maxHeartbeats 4000000 in
set_option maxRecDepth 100000 in
theorem c_Reader_at0 (l : Launch) (D : va_G) (tI tB tZ tL : ClassId) (X : (Nat → Prop) → State → Prop) (hX : Ro X) (aR aS s_chars : Nat) (sq sv : Nat) (hJ : ∀ A U, X A U → sJ A U) (hs : ∀ A U, X A U → sAt sq sv [60, 63, 120, 109, 108] A U) : CtI l D tI tB tZ tL X y_Reader_at b_Reader_at 4 .boolean ({ frames := 2, cells := 0, slots := 0, locals := 40 }) [.ref aR, .ref sq] [(aR, .inr (2, [.ref aS, .ref s_chars, .int (nI 143), .int (nI 143), .int 0, .int 0, .int 0, .int 0, .int 0, .int 0, .int 0, .int 0]))] (S := Unit) (fun (r : Int32) (_ : Unit) => r = 0) (fun _ => [(aR, .inr (2, [.ref aS, .ref s_chars, .int (nI 143), .int (nI 143), .int 0, .int 0, .int 0, .int 0, .int 0, .int 0, .int 0, .int 0]))]) := by
  refine CtI.start hX (by decide) (Nat.le_of_ble_eq_true rfl) ?_
  intro p e s m args below meth c A ls C hr hlk hW hl
  refine W.nameQ (fun Q hQ => ?_)
  have hx := C.1.1
  have hb := C.1.2.1
  have hown := C.1.2.2.2.1
  have hT := C.1.2.2.2.2
  have hl : lv_has ls 4 [(0, .ref aR), (1, .ref sq)] := hl
  refine lv_aload_n hx hb d_Reader_at_0 rfl (lv_at hl 1 rfl) ?_
  refine r_callXi [] [] C hl.1 hW (c_Str_length l D tI tB tZ tL X hX sq sv [60, 63, 120, 109, 108] hJ hs (by decide)) ok_Str_length w_1207 (wr := [(aR, .inr (2, [.ref aS, .ref s_chars, .int (nI 143), .int (nI 143), .int 0, .int 0, .int 0, .int 0, .int 0, .int 0, .int 0, .int 0]))]) [] [0] rfl rfl (by decide) (by decide) (by decide) (r_recv C hW (hs A s C.2.2.2.1).1) rfl (by decide) (Nat.le_of_ble_eq_true rfl) (by decide) d_Reader_at_1 (fun r1 u_ H locs hu hW => ?_)
  subst hu
  have hW : Wd D A s [(aR, .inr (2, [.ref aS, .ref s_chars, .int (nI 143), .int (nI 143), .int 0, .int 0, .int 0, .int 0, .int 0, .int 0, .int 0, .int 0]))] H _ := hW
  refine lv_istore_n (lv' := [(2, .int 5), (0, .ref aR), (1, .ref sq)]) hx hb d_Reader_at_4 rfl hl (by decide) rfl (fun ls hl => ?_)
  refine lv_aload_n hx hb d_Reader_at_5 rfl (lv_at hl 1 rfl) ?_
  refine r_get C hW 0 rfl k_Reader i_Reader 3 (by decide) rfl w_241 d_Reader_at_6 ?_
  refine lv_aload_n hx hb d_Reader_at_9 rfl (lv_at hl 1 rfl) ?_
  refine r_get C hW 0 rfl k_Reader i_Reader 2 (by decide) rfl w_235 d_Reader_at_10 ?_
  refine lv_isub hx hb d_Reader_at_13 ?_
  refine W.eq (congrArg (fun z : Int32 => F0 m 14 ls (.int z :: [])) (show ((nI 143) - (nI 143)) = 0 from (by decide))) ?_
  refine lv_iload_n hx hb d_Reader_at_14 rfl (lv_at hl 0 rfl) ?_
  refine lv_icmp_ge (tgt := 20) hx hb d_Reader_at_15 (by decide) (fun c_15 => absurd c_15 (by decide)) (fun c_15 => ?_)
  refine lv_iconst (v := 0) hx hb d_Reader_at_18 (by decide) ?_
  rw [hQ]
  exact r_iret C hr hlk hW rfl () rfl [0] (by decide) rfl d_Reader_at_19 (by decide) (by decide)
set_option maxHeartbeats 4000000 in
set_option maxRecDepth 100000 in
theorem c_Reader_fail0 (l : Launch) (D : va_G) (tI tB tZ tL : ClassId) (X : (Nat → Prop) → State → Prop) (hX : Ro X) (aR aS s_chars : Nat) (k : Int32) : CtV l D tI tB tZ tL X y_Reader_fail b_Reader_fail 2 ({ frames := 0, cells := 0, slots := 0, locals := 0 }) [.ref aR, .int k] [(aR, .inr (2, [.ref aS, .ref s_chars, .int (nI 143), .int (nI 143), .int 0, .int 0, .int 0, .int 0, .int 0, .int 0, .int 0, .int 0]))] (S := Unit) (fun (_ : Unit) => True) (fun _ => [(aR, .inr (2, [.ref aS, .ref s_chars, .int (nI 143), .int (nI 143), .int k, .int 0, .int 0, .int 0, .int 0, .int 0, .int 0, .int 0]))]) := by
  refine CtV.start hX (by decide) (Nat.le_of_ble_eq_true rfl) ?_
  intro p e s m args below meth c A ls C hr hlk hin hW hl
  refine W.nameQ (fun Q hQ => ?_)
  have hx := C.1.1
  have hb := C.1.2.1
  have hown := C.1.2.2.2.1
  have hT := C.1.2.2.2.2
  have hl : lv_has ls 2 [(0, .ref aR), (1, .int k)] := hl
  refine lv_aload_n hx hb d_Reader_fail_0 rfl (lv_at hl 0 rfl) ?_
  refine r_get C hW 0 rfl k_Reader i_Reader 4 (by decide) rfl w_245 d_Reader_fail_1 ?_
  refine lv_if_ne (tgt := 12) hx hb d_Reader_fail_4 (by decide) (fun c_4 => absurd rfl c_4) (fun c_4 => ?_)
  refine lv_aload_n hx hb d_Reader_fail_7 rfl (lv_at hl 0 rfl) ?_
  refine lv_iload_n hx hb d_Reader_fail_8 rfl (lv_at hl 1 rfl) ?_
  refine r_put (v := .int k) (ty := .int) C hW 0 rfl k_Reader i_Reader t_Reader o_Reader n_Reader 4 (by decide) w_245 rfl (by decide +kernel) rfl rfl (Nat.le_of_ble_eq_true rfl) d_Reader_fail_9 (fun H locs hW => ?_)
  have hW : Wd D A s [(aR, .inr (2, [.ref aS, .ref s_chars, .int (nI 143), .int (nI 143), .int k, .int 0, .int 0, .int 0, .int 0, .int 0, .int 0, .int 0]))] H _ := hW
  rw [hQ]
  exact r_vret C hr hlk hW () trivial [0] (by decide) rfl d_Reader_fail_12 (by decide) (by decide)
set_option maxHeartbeats 4000000 in
set_option maxRecDepth 100000 in
theorem c_Content_finish0 (l : Launch) (D : va_G) (tI tB tZ tL : ClassId) (X : (Nat → Prop) → State → Prop) (hX : Ro X) (aC aS aR aE aD aO aT s_chars e_from e_size e_open e_general e_parameter e_framePos e_frameStop e_frameEntity e_frameElement o_separator t_tag t_above t_first t_all t_given t_content t_label t_value t_declaration t_stream : Nat) (most : Nat) : CtI l D tI tB tZ tL X y_Content_finish b_Content_finish 1 .boolean ({ frames := 1, cells := 0, slots := 0, locals := 21 }) [.ref aC] [(aC, .inr (7, [.ref aS, .ref aR, .ref aE, .ref aD, .ref aO, .ref aT])), (aR, .inr (2, [.ref aS, .ref s_chars, .int (nI 143), .int (nI 143), .int 0, .int 0, .int 0, .int 0, .int 0, .int 0, .int 0, .int 0])), (aE, .inr (3, [.ref aS, .ref aR, .ref e_from, .ref e_size, .ref e_open, .int 0, .ref e_general, .ref e_parameter, .ref e_framePos, .ref e_frameStop, .ref e_frameEntity, .ref e_frameElement, .int 0, .int 0, .int 0, .int 0, .int 0])), (aO, .inr (5, [.ref aS, .ref aR, .ref aE, .ref aD, .ref o_separator, .int 0, .int 0, .int 0, .int 0, .int 0])), (aT, .inr (6, [.int (nI most), .int 0, .int 0, .int (-1), .ref t_tag, .ref t_above, .ref t_first, .ref t_all, .ref t_given, .ref t_content, .int 0, .ref t_label, .ref t_value, .ref t_declaration, .ref t_stream, .int 0, .int 0]))] (S := Unit) (fun (r : Int32) (_ : Unit) => r = 0) (fun _ => [(aC, .inr (7, [.ref aS, .ref aR, .ref aE, .ref aD, .ref aO, .ref aT])), (aR, .inr (2, [.ref aS, .ref s_chars, .int (nI 143), .int (nI 143), .int 6, .int 0, .int 0, .int 0, .int 0, .int 0, .int 0, .int 0])), (aE, .inr (3, [.ref aS, .ref aR, .ref e_from, .ref e_size, .ref e_open, .int 0, .ref e_general, .ref e_parameter, .ref e_framePos, .ref e_frameStop, .ref e_frameEntity, .ref e_frameElement, .int 0, .int 0, .int 0, .int 0, .int 0])), (aO, .inr (5, [.ref aS, .ref aR, .ref aE, .ref aD, .ref o_separator, .int 0, .int 0, .int 0, .int 0, .int 0])), (aT, .inr (6, [.int (nI most), .int 0, .int 0, .int (-1), .ref t_tag, .ref t_above, .ref t_first, .ref t_all, .ref t_given, .ref t_content, .int 0, .ref t_label, .ref t_value, .ref t_declaration, .ref t_stream, .int 0, .int 0]))]) := by
  refine CtI.start hX (by decide) (Nat.le_of_ble_eq_true rfl) ?_
  intro p e s m args below meth c A ls C hr hlk hW hl
  refine W.nameQ (fun Q hQ => ?_)
  have hx := C.1.1
  have hb := C.1.2.1
  have hown := C.1.2.2.2.1
  have hT := C.1.2.2.2.2
  have hl : lv_has ls 1 [(0, .ref aC)] := hl
  refine lv_aload_n hx hb d_Content_finish_0 rfl (lv_at hl 0 rfl) ?_
  refine r_get C hW 0 rfl k_Content i_Content 2 (by decide) rfl w_597 d_Content_finish_1 ?_
  refine r_get C hW 2 rfl k_Entities i_Entities 12 (by decide) rfl w_313 d_Content_finish_4 ?_
  refine lv_if_ne (tgt := 52) hx hb d_Content_finish_7 (by decide) (fun c_7 => absurd rfl c_7) (fun c_7 => ?_)
  refine lv_aload_n hx hb d_Content_finish_10 rfl (lv_at hl 0 rfl) ?_
  refine r_get C hW 0 rfl k_Content i_Content 4 (by decide) rfl w_599 d_Content_finish_11 ?_
  refine r_get C hW 3 rfl k_Doctype i_Doctype 6 (by decide) rfl w_465 d_Content_finish_14 ?_
  refine lv_if_ne (tgt := 41) hx hb d_Content_finish_17 (by decide) (fun c_17 => absurd rfl c_17) (fun c_17 => ?_)
  refine lv_aload_n hx hb d_Content_finish_20 rfl (lv_at hl 0 rfl) ?_
  refine r_get C hW 0 rfl k_Content i_Content 5 (by decide) rfl w_600 d_Content_finish_21 ?_
  refine r_get C hW 4 rfl k_Tree i_Tree 3 (by decide) rfl w_506 d_Content_finish_24 ?_
  refine lv_iconst (v := (-1)) hx hb d_Content_finish_27 (by decide) ?_
  refine lv_icmp_ne (tgt := 41) hx hb d_Content_finish_28 (by decide) (fun c_28 => absurd rfl c_28) (fun c_28 => ?_)
  refine lv_aload_n hx hb d_Content_finish_31 rfl (lv_at hl 0 rfl) ?_
  refine r_get C hW 0 rfl k_Content i_Content 5 (by decide) rfl w_600 d_Content_finish_32 ?_
  refine r_get C hW 4 rfl k_Tree i_Tree 2 (by decide) rfl w_501 d_Content_finish_35 ?_
  refine lv_if_ne (tgt := 50) hx hb d_Content_finish_38 (by decide) (fun c_38 => absurd rfl c_38) (fun c_38 => ?_)
  refine lv_aload_n hx hb d_Content_finish_41 rfl (lv_at hl 0 rfl) ?_
  refine r_get C hW 0 rfl k_Content i_Content 1 (by decide) rfl w_596 d_Content_finish_42 ?_
  refine lv_bipush (v := 6) hx hb d_Content_finish_45 (by decide) ?_
  refine r_callV [.int 6] [] C hl.1 hW (c_Reader_fail0 l D tI tB tZ tL X hX aR aS s_chars 6) ok_Reader_fail w_1247 (wr := [(aC, .inr (7, [.ref aS, .ref aR, .ref aE, .ref aD, .ref aO, .ref aT])), (aE, .inr (3, [.ref aS, .ref aR, .ref e_from, .ref e_size, .ref e_open, .int 0, .ref e_general, .ref e_parameter, .ref e_framePos, .ref e_frameStop, .ref e_frameEntity, .ref e_frameElement, .int 0, .int 0, .int 0, .int 0, .int 0])), (aO, .inr (5, [.ref aS, .ref aR, .ref aE, .ref aD, .ref o_separator, .int 0, .int 0, .int 0, .int 0, .int 0])), (aT, .inr (6, [.int (nI most), .int 0, .int 0, .int (-1), .ref t_tag, .ref t_above, .ref t_first, .ref t_all, .ref t_given, .ref t_content, .int 0, .ref t_label, .ref t_value, .ref t_declaration, .ref t_stream, .int 0, .int 0]))]) [1] [0, 2, 3, 4] rfl rfl (by decide) (by decide) (by decide) 0 rfl k_Reader rfl (by decide) (Nat.le_of_ble_eq_true rfl) (by decide) d_Content_finish_47 (fun u_ H locs hu hW => ?_)
  have hW : Wd D A s [(aC, .inr (7, [.ref aS, .ref aR, .ref aE, .ref aD, .ref aO, .ref aT])), (aE, .inr (3, [.ref aS, .ref aR, .ref e_from, .ref e_size, .ref e_open, .int 0, .ref e_general, .ref e_parameter, .ref e_framePos, .ref e_frameStop, .ref e_frameEntity, .ref e_frameElement, .int 0, .int 0, .int 0, .int 0, .int 0])), (aO, .inr (5, [.ref aS, .ref aR, .ref aE, .ref aD, .ref o_separator, .int 0, .int 0, .int 0, .int 0, .int 0])), (aT, .inr (6, [.int (nI most), .int 0, .int 0, .int (-1), .ref t_tag, .ref t_above, .ref t_first, .ref t_all, .ref t_given, .ref t_content, .int 0, .ref t_label, .ref t_value, .ref t_declaration, .ref t_stream, .int 0, .int 0])), (aR, .inr (2, [.ref aS, .ref s_chars, .int (nI 143), .int (nI 143), .int 6, .int 0, .int 0, .int 0, .int 0, .int 0, .int 0, .int 0]))] H _ := hW
  refine lv_iconst (v := 0) hx hb d_Content_finish_50 (by decide) ?_
  rw [hQ]
  exact r_iret C hr hlk hW rfl () rfl [0, 4, 1, 2, 3] (by decide) rfl d_Content_finish_51 (by decide) (by decide)
set_option maxHeartbeats 4000000 in
set_option maxRecDepth 100000 in
theorem c_Content_readAll0 (l : Launch) (D : va_G) (tI tB tZ tL : ClassId) (X : (Nat → Prop) → State → Prop) (hX : Ro X) (aC aS aR aE aD aO aT s_chars e_from e_size e_open e_general e_parameter e_framePos e_frameStop e_frameEntity e_frameElement o_separator t_tag t_above t_first t_all t_given t_content t_label t_value t_declaration t_stream s_from s_size s_hash s_next s_head s_mark : Nat) (room wd : Nat) (so : Int32) (most : Nat) (sq sv : Nat) (hJ : ∀ A U, X A U → sJ A U) (hs : ∀ A U, X A U → sAt sq sv [60, 63, 120, 109, 108] A U) (hk : ∀ A U, X A U → vk_R "MarkupJudge$Content" 35 "<?xml" sq U) : CtV l D tI tB tZ tL X y_Content_readAll b_Content_readAll 4 ({ frames := 3, cells := 0, slots := 0, locals := 63 }) [.ref aC] [(aC, .inr (7, [.ref aS, .ref aR, .ref aE, .ref aD, .ref aO, .ref aT])), (aR, .inr (2, [.ref aS, .ref s_chars, .int (nI 143), .int (nI 143), .int 0, .int 0, .int 0, .int 0, .int 0, .int 0, .int 0, .int 0])), (aE, .inr (3, [.ref aS, .ref aR, .ref e_from, .ref e_size, .ref e_open, .int 0, .ref e_general, .ref e_parameter, .ref e_framePos, .ref e_frameStop, .ref e_frameEntity, .ref e_frameElement, .int 0, .int 0, .int 0, .int 0, .int 0])), (aO, .inr (5, [.ref aS, .ref aR, .ref aE, .ref aD, .ref o_separator, .int 0, .int 0, .int 0, .int 0, .int 0])), (aT, .inr (6, [.int (nI most), .int 0, .int 0, .int (-1), .ref t_tag, .ref t_above, .ref t_first, .ref t_all, .ref t_given, .ref t_content, .int 0, .ref t_label, .ref t_value, .ref t_declaration, .ref t_stream, .int 0, .int 0])), (aS, .inr (1, [.int (nI room), .ref s_chars, .int (nI 143), .int (nI 143), .int 0, .int 0, .int 0, .ref s_from, .ref s_size, .ref s_hash, .ref s_next, .ref s_head, .int (nI wd), .int so, .int (nI wd), .ref s_mark, .int 0]))] (S := Unit) (fun (_ : Unit) => True) (fun _ => [(aC, .inr (7, [.ref aS, .ref aR, .ref aE, .ref aD, .ref aO, .ref aT])), (aR, .inr (2, [.ref aS, .ref s_chars, .int (nI 143), .int (nI 143), .int 6, .int 0, .int 0, .int 0, .int 0, .int 0, .int 0, .int 0])), (aE, .inr (3, [.ref aS, .ref aR, .ref e_from, .ref e_size, .ref e_open, .int 0, .ref e_general, .ref e_parameter, .ref e_framePos, .ref e_frameStop, .ref e_frameEntity, .ref e_frameElement, .int 0, .int 0, .int 0, .int 0, .int 0])), (aO, .inr (5, [.ref aS, .ref aR, .ref aE, .ref aD, .ref o_separator, .int 0, .int 0, .int 0, .int 0, .int 0])), (aT, .inr (6, [.int (nI most), .int 0, .int 0, .int (-1), .ref t_tag, .ref t_above, .ref t_first, .ref t_all, .ref t_given, .ref t_content, .int 0, .ref t_label, .ref t_value, .ref t_declaration, .ref t_stream, .int 0, .int 0])), (aS, .inr (1, [.int (nI room), .ref s_chars, .int (nI 143), .int (nI 143), .int 0, .int 0, .int 0, .ref s_from, .ref s_size, .ref s_hash, .ref s_next, .ref s_head, .int (nI wd), .int so, .int (nI wd), .ref s_mark, .int 0]))]) := by
  refine CtV.start hX (by decide) (Nat.le_of_ble_eq_true rfl) ?_
  intro p e s m args below meth c A ls C hr hlk hin hW hl
  refine W.nameQ (fun Q hQ => ?_)
  have hx := C.1.1
  have hb := C.1.2.1
  have hown := C.1.2.2.2.1
  have hT := C.1.2.2.2.2
  have hl : lv_has ls 4 [(0, .ref aC)] := hl
  refine lv_aload_n hx hb d_Content_readAll_0 rfl (lv_at hl 0 rfl) ?_
  refine r_get C hW 0 rfl k_Content i_Content 1 (by decide) rfl w_596 d_Content_readAll_1 ?_
  refine va_ldcS hx hb hown (hk A s C.2.2.2.1) d_Content_readAll_4 ?_
  refine r_callVi [.ref sq] [] C hl.1 hW (c_Reader_at0 l D tI tB tZ tL X hX aR aS s_chars sq sv hJ hs) ok_Reader_at w_1203 (wr := [(aC, .inr (7, [.ref aS, .ref aR, .ref aE, .ref aD, .ref aO, .ref aT])), (aE, .inr (3, [.ref aS, .ref aR, .ref e_from, .ref e_size, .ref e_open, .int 0, .ref e_general, .ref e_parameter, .ref e_framePos, .ref e_frameStop, .ref e_frameEntity, .ref e_frameElement, .int 0, .int 0, .int 0, .int 0, .int 0])), (aO, .inr (5, [.ref aS, .ref aR, .ref aE, .ref aD, .ref o_separator, .int 0, .int 0, .int 0, .int 0, .int 0])), (aT, .inr (6, [.int (nI most), .int 0, .int 0, .int (-1), .ref t_tag, .ref t_above, .ref t_first, .ref t_all, .ref t_given, .ref t_content, .int 0, .ref t_label, .ref t_value, .ref t_declaration, .ref t_stream, .int 0, .int 0])), (aS, .inr (1, [.int (nI room), .ref s_chars, .int (nI 143), .int (nI 143), .int 0, .int 0, .int 0, .ref s_from, .ref s_size, .ref s_hash, .ref s_next, .ref s_head, .int (nI wd), .int so, .int (nI wd), .ref s_mark, .int 0]))]) [1] [0, 2, 3, 4, 5] rfl rfl (by decide) (by decide) (by decide) 0 rfl k_Reader rfl (by decide) (Nat.le_of_ble_eq_true rfl) (by decide) d_Content_readAll_6 (fun r6 u_ H locs hu hW => ?_)
  subst hu
  have hW : Wd D A s [(aC, .inr (7, [.ref aS, .ref aR, .ref aE, .ref aD, .ref aO, .ref aT])), (aE, .inr (3, [.ref aS, .ref aR, .ref e_from, .ref e_size, .ref e_open, .int 0, .ref e_general, .ref e_parameter, .ref e_framePos, .ref e_frameStop, .ref e_frameEntity, .ref e_frameElement, .int 0, .int 0, .int 0, .int 0, .int 0])), (aO, .inr (5, [.ref aS, .ref aR, .ref aE, .ref aD, .ref o_separator, .int 0, .int 0, .int 0, .int 0, .int 0])), (aT, .inr (6, [.int (nI most), .int 0, .int 0, .int (-1), .ref t_tag, .ref t_above, .ref t_first, .ref t_all, .ref t_given, .ref t_content, .int 0, .ref t_label, .ref t_value, .ref t_declaration, .ref t_stream, .int 0, .int 0])), (aS, .inr (1, [.int (nI room), .ref s_chars, .int (nI 143), .int (nI 143), .int 0, .int 0, .int 0, .ref s_from, .ref s_size, .ref s_hash, .ref s_next, .ref s_head, .int (nI wd), .int so, .int (nI wd), .ref s_mark, .int 0])), (aR, .inr (2, [.ref aS, .ref s_chars, .int (nI 143), .int (nI 143), .int 0, .int 0, .int 0, .int 0, .int 0, .int 0, .int 0, .int 0]))] H _ := hW
  refine lv_if_eq (tgt := 58) hx hb d_Content_readAll_9 (by decide) (fun c_9 => ?_) (fun c_9 => absurd rfl c_9)
  refine lv_iconst (v := 1) hx hb d_Content_readAll_58 (by decide) ?_
  refine lv_istore_n (lv' := [(1, .int 1), (0, .ref aC)]) hx hb d_Content_readAll_59 rfl hl (by decide) rfl (fun ls hl => ?_)
  refine lv_iconst (v := 0) hx hb d_Content_readAll_60 (by decide) ?_
  refine lv_istore_n (lv' := [(2, .int 0), (1, .int 1), (0, .ref aC)]) hx hb d_Content_readAll_61 rfl hl (by decide) rfl (fun ls hl => ?_)
  refine lv_iload_n hx hb d_Content_readAll_62 rfl (lv_at hl 0 rfl) ?_
  refine lv_ldc (v := 1000000) hx hb hown (hT _ w_1278) d_Content_readAll_63 ?_
  refine lv_icmp_ge (tgt := 229) hx hb d_Content_readAll_65 (by decide) (fun c_65 => absurd c_65 (by decide)) (fun c_65 => ?_)
  refine lv_iload_n hx hb d_Content_readAll_68 rfl (lv_at hl 1 rfl) ?_
  refine lv_if_eq (tgt := 229) hx hb d_Content_readAll_69 (by decide) (fun c_69 => absurd c_69 (by decide)) (fun c_69 => ?_)
  refine lv_aload_n hx hb d_Content_readAll_72 rfl (lv_at hl 2 rfl) ?_
  refine r_get C hW 0 rfl k_Content i_Content 1 (by decide) rfl w_596 d_Content_readAll_73 ?_
  refine r_get C hW 5 rfl k_Reader i_Reader 4 (by decide) rfl w_246 d_Content_readAll_76 ?_
  refine lv_if_ne (tgt := 229) hx hb d_Content_readAll_79 (by decide) (fun c_79 => absurd rfl c_79) (fun c_79 => ?_)
  refine lv_aload_n hx hb d_Content_readAll_82 rfl (lv_at hl 2 rfl) ?_
  refine r_get C hW 0 rfl k_Content i_Content 2 (by decide) rfl w_597 d_Content_readAll_83 ?_
  refine r_get C hW 1 rfl k_Entities i_Entities 12 (by decide) rfl w_313 d_Content_readAll_86 ?_
  refine lv_if_ne (tgt := 114) hx hb d_Content_readAll_89 (by decide) (fun c_89 => absurd rfl c_89) (fun c_89 => ?_)
  refine lv_aload_n hx hb d_Content_readAll_92 rfl (lv_at hl 2 rfl) ?_
  refine r_get C hW 0 rfl k_Content i_Content 1 (by decide) rfl w_596 d_Content_readAll_93 ?_
  refine lv_aload_n hx hb d_Content_readAll_96 rfl (lv_at hl 2 rfl) ?_
  refine r_get C hW 0 rfl k_Content i_Content 1 (by decide) rfl w_596 d_Content_readAll_97 ?_
  refine r_get C hW 5 rfl k_Reader i_Reader 2 (by decide) rfl w_236 d_Content_readAll_100 ?_
  refine lv_aload_n hx hb d_Content_readAll_103 rfl (lv_at hl 2 rfl) ?_
  refine r_get C hW 0 rfl k_Content i_Content 0 (by decide) rfl w_595 d_Content_readAll_104 ?_
  refine r_get C hW 4 rfl k_Store i_Store 2 (by decide) rfl w_154 d_Content_readAll_107 ?_
  refine lv_isub hx hb d_Content_readAll_110 ?_
  refine W.eq (congrArg (fun z : Int32 => F0 m 111 ls (.int z :: [.ref aR])) (show ((nI 143) - (nI 143)) = 0 from (by decide))) ?_
  refine r_put (v := .int 0) (ty := .int) C hW 5 rfl k_Reader i_Reader t_Reader o_Reader n_Reader 5 (by decide) w_251 rfl (by decide +kernel) rfl rfl (Nat.le_of_ble_eq_true rfl) d_Content_readAll_111 (fun H locs hW => ?_)
  have hW : Wd D A s [(aC, .inr (7, [.ref aS, .ref aR, .ref aE, .ref aD, .ref aO, .ref aT])), (aE, .inr (3, [.ref aS, .ref aR, .ref e_from, .ref e_size, .ref e_open, .int 0, .ref e_general, .ref e_parameter, .ref e_framePos, .ref e_frameStop, .ref e_frameEntity, .ref e_frameElement, .int 0, .int 0, .int 0, .int 0, .int 0])), (aO, .inr (5, [.ref aS, .ref aR, .ref aE, .ref aD, .ref o_separator, .int 0, .int 0, .int 0, .int 0, .int 0])), (aT, .inr (6, [.int (nI most), .int 0, .int 0, .int (-1), .ref t_tag, .ref t_above, .ref t_first, .ref t_all, .ref t_given, .ref t_content, .int 0, .ref t_label, .ref t_value, .ref t_declaration, .ref t_stream, .int 0, .int 0])), (aS, .inr (1, [.int (nI room), .ref s_chars, .int (nI 143), .int (nI 143), .int 0, .int 0, .int 0, .ref s_from, .ref s_size, .ref s_hash, .ref s_next, .ref s_head, .int (nI wd), .int so, .int (nI wd), .ref s_mark, .int 0])), (aR, .inr (2, [.ref aS, .ref s_chars, .int (nI 143), .int (nI 143), .int 0, .int 0, .int 0, .int 0, .int 0, .int 0, .int 0, .int 0]))] H _ := hW
  refine lv_aload_n hx hb d_Content_readAll_114 rfl (lv_at hl 2 rfl) ?_
  refine r_get C hW 0 rfl k_Content i_Content 1 (by decide) rfl w_596 d_Content_readAll_115 ?_
  refine r_get C hW 5 rfl k_Reader i_Reader 2 (by decide) rfl w_236 d_Content_readAll_118 ?_
  refine lv_aload_n hx hb d_Content_readAll_121 rfl (lv_at hl 2 rfl) ?_
  refine r_get C hW 0 rfl k_Content i_Content 1 (by decide) rfl w_596 d_Content_readAll_122 ?_
  refine r_get C hW 5 rfl k_Reader i_Reader 3 (by decide) rfl w_240 d_Content_readAll_125 ?_
  refine lv_icmp_lt (tgt := 139) hx hb d_Content_readAll_128 (by decide) (fun c_128 => absurd c_128 (by decide)) (fun c_128 => ?_)
  refine lv_aload_n hx hb d_Content_readAll_131 rfl (lv_at hl 2 rfl) ?_
  refine r_callVi [] [] C hl.1 hW (c_Content_finish0 l D tI tB tZ tL X hX aC aS aR aE aD aO aT s_chars e_from e_size e_open e_general e_parameter e_framePos e_frameStop e_frameEntity e_frameElement o_separator t_tag t_above t_first t_all t_given t_content t_label t_value t_declaration t_stream most) ok_Content_finish w_1279 (wr := [(aS, .inr (1, [.int (nI room), .ref s_chars, .int (nI 143), .int (nI 143), .int 0, .int 0, .int 0, .ref s_from, .ref s_size, .ref s_hash, .ref s_next, .ref s_head, .int (nI wd), .int so, .int (nI wd), .ref s_mark, .int 0]))]) [0, 5, 1, 2, 3] [4] rfl rfl (by decide) (by decide) (by decide) 0 rfl k_Content rfl (by decide) (Nat.le_of_ble_eq_true rfl) (by decide) d_Content_readAll_132 (fun r132 u_ H locs hu hW => ?_)
  subst hu
  have hW : Wd D A s [(aS, .inr (1, [.int (nI room), .ref s_chars, .int (nI 143), .int (nI 143), .int 0, .int 0, .int 0, .ref s_from, .ref s_size, .ref s_hash, .ref s_next, .ref s_head, .int (nI wd), .int so, .int (nI wd), .ref s_mark, .int 0])), (aC, .inr (7, [.ref aS, .ref aR, .ref aE, .ref aD, .ref aO, .ref aT])), (aR, .inr (2, [.ref aS, .ref s_chars, .int (nI 143), .int (nI 143), .int 6, .int 0, .int 0, .int 0, .int 0, .int 0, .int 0, .int 0])), (aE, .inr (3, [.ref aS, .ref aR, .ref e_from, .ref e_size, .ref e_open, .int 0, .ref e_general, .ref e_parameter, .ref e_framePos, .ref e_frameStop, .ref e_frameEntity, .ref e_frameElement, .int 0, .int 0, .int 0, .int 0, .int 0])), (aO, .inr (5, [.ref aS, .ref aR, .ref aE, .ref aD, .ref o_separator, .int 0, .int 0, .int 0, .int 0, .int 0])), (aT, .inr (6, [.int (nI most), .int 0, .int 0, .int (-1), .ref t_tag, .ref t_above, .ref t_first, .ref t_all, .ref t_given, .ref t_content, .int 0, .ref t_label, .ref t_value, .ref t_declaration, .ref t_stream, .int 0, .int 0]))] H _ := hW
  refine lv_istore_n (lv' := [(1, .int 0), (2, .int 0), (0, .ref aC)]) hx hb d_Content_readAll_135 rfl hl (by decide) rfl (fun ls hl => ?_)
  refine lv_goto (tgt := 223) hx hb d_Content_readAll_136 (by decide) ?_
  refine lv_iinc (v := 1) (lv' := [(2, .int 1), (1, .int 0), (0, .ref aC)]) hx hb d_Content_readAll_223 hl (k := 1) rfl rfl (by decide) rfl (fun ls hl => ?_)
  refine lv_goto (tgt := 62) hx hb d_Content_readAll_226 (by decide) ?_
  refine lv_iload_n hx hb d_Content_readAll_62 rfl (lv_at hl 0 rfl) ?_
  refine lv_ldc (v := 1000000) hx hb hown (hT _ w_1278) d_Content_readAll_63 ?_
  refine lv_icmp_ge (tgt := 229) hx hb d_Content_readAll_65 (by decide) (fun c_65 => absurd c_65 (by decide)) (fun c_65 => ?_)
  refine lv_iload_n hx hb d_Content_readAll_68 rfl (lv_at hl 1 rfl) ?_
  refine lv_if_eq (tgt := 229) hx hb d_Content_readAll_69 (by decide) (fun c_69 => ?_) (fun c_69 => absurd rfl c_69)
  rw [hQ]
  exact r_vret C hr hlk hW () trivial [1, 2, 3, 4, 5, 0] (by decide) rfl d_Content_readAll_229 (by decide) (by decide)
set_option maxHeartbeats 4000000 in
set_option maxRecDepth 100000 in
theorem c_J_judge0 (l : Launch) (D : va_G) (tI tB tZ tL : ClassId) (X : (Nat → Prop) → State → Prop) (hX : Ro X) (aJ j_bytes aS aR aE aD aO aT aC aV aM aW s_chars s_from s_size s_hash s_next s_head s_mark e_from e_size e_open e_general e_parameter e_framePos e_frameStop e_frameEntity e_frameElement d_element d_kind d_source d_elementOf d_label d_type d_how d_value d_list d_listSize d_next d_firstOf d_listed d_notation m_prefixOf m_localOf m_meant m_outside m_counts o_separator t_tag t_above t_first t_all t_given t_content t_label t_value t_declaration t_stream : Nat) (f0 f1 f2 f3 f4 f5 f6 : Nat → Int32) (most room nm wd : Nat) (so : Int32) (hwd : wd ≤ 19) (hn19 : 64 ≤ nm) (hnm : nm < 2 ^ 30) (sq sv : Nat) (hJ : ∀ A U, X A U → sJ A U) (hs : ∀ A U, X A U → sAt sq sv [60, 63, 120, 109, 108] A U) (hk : ∀ A U, X A U → vk_R "MarkupJudge$Content" 35 "<?xml" sq U) (hroom : room ≤ 98304) : CtI l D tI tB tZ tL X y_J_judge b_J_judge 3 .int ({ frames := 4, cells := 0, slots := 0, locals := 88 }) [.ref aJ] [(aJ, .inr (0, [.ref j_bytes, .int 0, .ref aS, .ref aR, .ref aE, .ref aD, .ref aO, .ref aT, .ref aC, .ref aV, .ref aM, .ref aW, .int 0, .int 0, .int (-1)])), (aS, .inr (1, [.int (nI room), .ref s_chars, .int (nI 143), .int (nI 143), .int 0, .int 0, .int 0, .ref s_from, .ref s_size, .ref s_hash, .ref s_next, .ref s_head, .int (nI wd), .int so, .int (nI wd), .ref s_mark, .int 0])), (aR, .inr (2, [.ref aS, .ref s_chars, .int 0, .int 0, .int 0, .int 0, .int 0, .int 0, .int 0, .int 0, .int 0, .int 0])), (aE, .inr (3, [.ref aS, .ref aR, .ref e_from, .ref e_size, .ref e_open, .int 0, .ref e_general, .ref e_parameter, .ref e_framePos, .ref e_frameStop, .ref e_frameEntity, .ref e_frameElement, .int 0, .int 0, .int 0, .int 0, .int 0])), (aD, .inr (4, [.ref d_element, .ref d_kind, .ref d_source, .int 0, .ref d_elementOf, .ref d_label, .ref d_type, .ref d_how, .ref d_value, .ref d_list, .ref d_listSize, .ref d_next, .int 0, .ref d_firstOf, .int 0, .ref d_listed, .int 0, .ref d_notation, .int 0])), (aM, .inr (10, [.ref aS, .ref aT, .ref m_prefixOf, .ref m_localOf, .ref m_meant, .ref m_outside, .ref m_counts, .int 0])), (aO, .inr (5, [.ref aS, .ref aR, .ref aE, .ref aD, .ref o_separator, .int 0, .int 0, .int 0, .int 0, .int 0])), (aT, .inr (6, [.int (nI most), .int 0, .int 0, .int (-1), .ref t_tag, .ref t_above, .ref t_first, .ref t_all, .ref t_given, .ref t_content, .int 0, .ref t_label, .ref t_value, .ref t_declaration, .ref t_stream, .int 0, .int 0])), (aC, .inr (7, [.ref aS, .ref aR, .ref aE, .ref aD, .ref aO, .ref aT])), (e_general, .inl (tI, nm, .inl f0)), (e_parameter, .inl (tI, nm, .inl f1)), (d_elementOf, .inl (tI, nm, .inl f2)), (d_firstOf, .inl (tI, nm, .inl f3)), (d_notation, .inl (tI, nm, .inl f4)), (m_prefixOf, .inl (tI, nm, .inl f5)), (m_meant, .inl (tI, nm, .inl f6))] (S := Nat → Nat → Int32) (fun (r : Int32) (_ : Nat → Nat → Int32) => r = 2) (fun u => [(aJ, .inr (0, [.ref j_bytes, .int 0, .ref aS, .ref aR, .ref aE, .ref aD, .ref aO, .ref aT, .ref aC, .ref aV, .ref aM, .ref aW, .int 0, .int 6, .int 0])), (aS, .inr (1, [.int (nI room), .ref s_chars, .int (nI 143), .int (nI 143), .int 0, .int 0, .int 0, .ref s_from, .ref s_size, .ref s_hash, .ref s_next, .ref s_head, .int (nI wd), .int so, .int (nI wd), .ref s_mark, .int 0])), (aR, .inr (2, [.ref aS, .ref s_chars, .int (nI 143), .int (nI 143), .int 6, .int 0, .int 0, .int 0, .int 0, .int 0, .int 0, .int 0])), (aE, .inr (3, [.ref aS, .ref aR, .ref e_from, .ref e_size, .ref e_open, .int 0, .ref e_general, .ref e_parameter, .ref e_framePos, .ref e_frameStop, .ref e_frameEntity, .ref e_frameElement, .int 0, .int 0, .int 0, .int 0, .int 0])), (aD, .inr (4, [.ref d_element, .ref d_kind, .ref d_source, .int 0, .ref d_elementOf, .ref d_label, .ref d_type, .ref d_how, .ref d_value, .ref d_list, .ref d_listSize, .ref d_next, .int 0, .ref d_firstOf, .int 0, .ref d_listed, .int 0, .ref d_notation, .int 0])), (aM, .inr (10, [.ref aS, .ref aT, .ref m_prefixOf, .ref m_localOf, .ref m_meant, .ref m_outside, .ref m_counts, .int 0])), (aO, .inr (5, [.ref aS, .ref aR, .ref aE, .ref aD, .ref o_separator, .int 0, .int 0, .int 0, .int 0, .int 0])), (aT, .inr (6, [.int (nI most), .int 0, .int 0, .int (-1), .ref t_tag, .ref t_above, .ref t_first, .ref t_all, .ref t_given, .ref t_content, .int 0, .ref t_label, .ref t_value, .ref t_declaration, .ref t_stream, .int 0, .int 0])), (aC, .inr (7, [.ref aS, .ref aR, .ref aE, .ref aD, .ref aO, .ref aT])), (e_general, .inl (tI, nm, .inl (u 0))), (e_parameter, .inl (tI, nm, .inl (u 1))), (d_elementOf, .inl (tI, nm, .inl (u 2))), (d_firstOf, .inl (tI, nm, .inl (u 3))), (d_notation, .inl (tI, nm, .inl (u 4))), (m_prefixOf, .inl (tI, nm, .inl (u 5))), (m_meant, .inl (tI, nm, .inl (u 6)))]) := by
  refine CtI.start hX (by decide) (Nat.le_of_ble_eq_true rfl) ?_
  intro p e s m args below meth c A ls C hr hlk hW hl
  refine W.nameQ (fun Q hQ => ?_)
  have hx := C.1.1
  have hb := C.1.2.1
  have hown := C.1.2.2.2.1
  have hT := C.1.2.2.2.2
  have hl : lv_has ls 3 [(0, .ref aJ)] := hl
  refine lv_aload_n hx hb d_J_judge_0 rfl (lv_at hl 0 rfl) ?_
  refine r_get C hW 0 rfl k_J i_J 1 (by decide) rfl w_787 d_J_judge_1 ?_
  refine lv_istore_n (lv' := [(1, .int 0), (0, .ref aJ)]) hx hb d_J_judge_4 rfl hl (by decide) rfl (fun ls hl => ?_)
  refine lv_aload_n hx hb d_J_judge_5 rfl (lv_at hl 1 rfl) ?_
  refine lv_iconst (v := 0) hx hb d_J_judge_6 (by decide) ?_
  refine r_put (v := .int 0) (ty := .int) C hW 0 rfl k_J i_J t_J o_J n_J 1 (by decide) w_787 rfl (by decide +kernel) rfl rfl (Nat.le_of_ble_eq_true rfl) d_J_judge_7 (fun H locs hW => ?_)
  have hW : Wd D A s [(aJ, .inr (0, [.ref j_bytes, .int 0, .ref aS, .ref aR, .ref aE, .ref aD, .ref aO, .ref aT, .ref aC, .ref aV, .ref aM, .ref aW, .int 0, .int 0, .int (-1)])), (aS, .inr (1, [.int (nI room), .ref s_chars, .int (nI 143), .int (nI 143), .int 0, .int 0, .int 0, .ref s_from, .ref s_size, .ref s_hash, .ref s_next, .ref s_head, .int (nI wd), .int so, .int (nI wd), .ref s_mark, .int 0])), (aR, .inr (2, [.ref aS, .ref s_chars, .int 0, .int 0, .int 0, .int 0, .int 0, .int 0, .int 0, .int 0, .int 0, .int 0])), (aE, .inr (3, [.ref aS, .ref aR, .ref e_from, .ref e_size, .ref e_open, .int 0, .ref e_general, .ref e_parameter, .ref e_framePos, .ref e_frameStop, .ref e_frameEntity, .ref e_frameElement, .int 0, .int 0, .int 0, .int 0, .int 0])), (aD, .inr (4, [.ref d_element, .ref d_kind, .ref d_source, .int 0, .ref d_elementOf, .ref d_label, .ref d_type, .ref d_how, .ref d_value, .ref d_list, .ref d_listSize, .ref d_next, .int 0, .ref d_firstOf, .int 0, .ref d_listed, .int 0, .ref d_notation, .int 0])), (aM, .inr (10, [.ref aS, .ref aT, .ref m_prefixOf, .ref m_localOf, .ref m_meant, .ref m_outside, .ref m_counts, .int 0])), (aO, .inr (5, [.ref aS, .ref aR, .ref aE, .ref aD, .ref o_separator, .int 0, .int 0, .int 0, .int 0, .int 0])), (aT, .inr (6, [.int (nI most), .int 0, .int 0, .int (-1), .ref t_tag, .ref t_above, .ref t_first, .ref t_all, .ref t_given, .ref t_content, .int 0, .ref t_label, .ref t_value, .ref t_declaration, .ref t_stream, .int 0, .int 0])), (aC, .inr (7, [.ref aS, .ref aR, .ref aE, .ref aD, .ref aO, .ref aT])), (e_general, .inl (tI, nm, .inl f0)), (e_parameter, .inl (tI, nm, .inl f1)), (d_elementOf, .inl (tI, nm, .inl f2)), (d_firstOf, .inl (tI, nm, .inl f3)), (d_notation, .inl (tI, nm, .inl f4)), (m_prefixOf, .inl (tI, nm, .inl f5)), (m_meant, .inl (tI, nm, .inl f6))] H _ := hW
  refine lv_aload_n hx hb d_J_judge_10 rfl (lv_at hl 1 rfl) ?_
  refine r_callV [] [] C hl.1 hW (c_J_forget l D tI tB tZ tL X hX aJ j_bytes aS aR aE aD aO aT aC aV aM aW s_chars s_from s_size s_hash s_next s_head s_mark e_from e_size e_open e_general e_parameter e_framePos e_frameStop e_frameEntity e_frameElement d_element d_kind d_source d_elementOf d_label d_type d_how d_value d_list d_listSize d_next d_firstOf d_listed d_notation m_prefixOf m_localOf m_meant m_outside m_counts o_separator t_tag t_above t_first t_all t_given t_content t_label t_value t_declaration t_stream f0 f1 f2 f3 f4 f5 f6 most room nm wd so hwd hn19 hnm) ok_J_forget w_840 (wr := [(aR, .inr (2, [.ref aS, .ref s_chars, .int 0, .int 0, .int 0, .int 0, .int 0, .int 0, .int 0, .int 0, .int 0, .int 0])), (aC, .inr (7, [.ref aS, .ref aR, .ref aE, .ref aD, .ref aO, .ref aT]))]) [0, 1, 3, 4, 5, 6, 7, 9, 10, 11, 12, 13, 14, 15] [2, 8] rfl rfl (by decide) (by decide) (by decide) 0 rfl k_J rfl (by decide) (Nat.le_of_ble_eq_true rfl) (by decide) d_J_judge_11 (fun uf H locs hu hW => ?_)
  have hW : Wd D A s [(aR, .inr (2, [.ref aS, .ref s_chars, .int 0, .int 0, .int 0, .int 0, .int 0, .int 0, .int 0, .int 0, .int 0, .int 0])), (aC, .inr (7, [.ref aS, .ref aR, .ref aE, .ref aD, .ref aO, .ref aT])), (aJ, .inr (0, [.ref j_bytes, .int 0, .ref aS, .ref aR, .ref aE, .ref aD, .ref aO, .ref aT, .ref aC, .ref aV, .ref aM, .ref aW, .int 0, .int 0, .int (-1)])), (aS, .inr (1, [.int (nI room), .ref s_chars, .int (nI 143), .int (nI 143), .int 0, .int 0, .int 0, .ref s_from, .ref s_size, .ref s_hash, .ref s_next, .ref s_head, .int (nI wd), .int so, .int (nI wd), .ref s_mark, .int 0])), (aE, .inr (3, [.ref aS, .ref aR, .ref e_from, .ref e_size, .ref e_open, .int 0, .ref e_general, .ref e_parameter, .ref e_framePos, .ref e_frameStop, .ref e_frameEntity, .ref e_frameElement, .int 0, .int 0, .int 0, .int 0, .int 0])), (aD, .inr (4, [.ref d_element, .ref d_kind, .ref d_source, .int 0, .ref d_elementOf, .ref d_label, .ref d_type, .ref d_how, .ref d_value, .ref d_list, .ref d_listSize, .ref d_next, .int 0, .ref d_firstOf, .int 0, .ref d_listed, .int 0, .ref d_notation, .int 0])), (aM, .inr (10, [.ref aS, .ref aT, .ref m_prefixOf, .ref m_localOf, .ref m_meant, .ref m_outside, .ref m_counts, .int 0])), (aO, .inr (5, [.ref aS, .ref aR, .ref aE, .ref aD, .ref o_separator, .int 0, .int 0, .int 0, .int 0, .int 0])), (aT, .inr (6, [.int (nI most), .int 0, .int 0, .int (-1), .ref t_tag, .ref t_above, .ref t_first, .ref t_all, .ref t_given, .ref t_content, .int 0, .ref t_label, .ref t_value, .ref t_declaration, .ref t_stream, .int 0, .int 0])), (e_general, .inl (tI, nm, .inl (uf 0))), (e_parameter, .inl (tI, nm, .inl (uf 1))), (d_elementOf, .inl (tI, nm, .inl (uf 2))), (d_firstOf, .inl (tI, nm, .inl (uf 3))), (d_notation, .inl (tI, nm, .inl (uf 4))), (m_prefixOf, .inl (tI, nm, .inl (uf 5))), (m_meant, .inl (tI, nm, .inl (uf 6)))] H _ := hW
  refine lv_aload_n hx hb d_J_judge_14 rfl (lv_at hl 1 rfl) ?_
  refine r_get C hW 2 rfl k_J i_J 2 (by decide) rfl w_788 d_J_judge_15 ?_
  refine lv_aload_n hx hb d_J_judge_18 rfl (lv_at hl 1 rfl) ?_
  refine r_get C hW 2 rfl k_J i_J 0 (by decide) rfl w_786 d_J_judge_19 ?_
  refine lv_iload_n hx hb d_J_judge_22 rfl (lv_at hl 0 rfl) ?_
  refine r_callVi [.ref j_bytes, .int 0] [] C hl.1 hW (c_Store_load0 l D tI tB tZ tL X hX aS s_chars s_from s_size s_hash s_next s_head s_mark j_bytes room wd so) ok_Store_load w_1156 (wr := [(aR, .inr (2, [.ref aS, .ref s_chars, .int 0, .int 0, .int 0, .int 0, .int 0, .int 0, .int 0, .int 0, .int 0, .int 0])), (aC, .inr (7, [.ref aS, .ref aR, .ref aE, .ref aD, .ref aO, .ref aT])), (aJ, .inr (0, [.ref j_bytes, .int 0, .ref aS, .ref aR, .ref aE, .ref aD, .ref aO, .ref aT, .ref aC, .ref aV, .ref aM, .ref aW, .int 0, .int 0, .int (-1)])), (aE, .inr (3, [.ref aS, .ref aR, .ref e_from, .ref e_size, .ref e_open, .int 0, .ref e_general, .ref e_parameter, .ref e_framePos, .ref e_frameStop, .ref e_frameEntity, .ref e_frameElement, .int 0, .int 0, .int 0, .int 0, .int 0])), (aD, .inr (4, [.ref d_element, .ref d_kind, .ref d_source, .int 0, .ref d_elementOf, .ref d_label, .ref d_type, .ref d_how, .ref d_value, .ref d_list, .ref d_listSize, .ref d_next, .int 0, .ref d_firstOf, .int 0, .ref d_listed, .int 0, .ref d_notation, .int 0])), (aM, .inr (10, [.ref aS, .ref aT, .ref m_prefixOf, .ref m_localOf, .ref m_meant, .ref m_outside, .ref m_counts, .int 0])), (aO, .inr (5, [.ref aS, .ref aR, .ref aE, .ref aD, .ref o_separator, .int 0, .int 0, .int 0, .int 0, .int 0])), (aT, .inr (6, [.int (nI most), .int 0, .int 0, .int (-1), .ref t_tag, .ref t_above, .ref t_first, .ref t_all, .ref t_given, .ref t_content, .int 0, .ref t_label, .ref t_value, .ref t_declaration, .ref t_stream, .int 0, .int 0])), (e_general, .inl (tI, nm, .inl (uf 0))), (e_parameter, .inl (tI, nm, .inl (uf 1))), (d_elementOf, .inl (tI, nm, .inl (uf 2))), (d_firstOf, .inl (tI, nm, .inl (uf 3))), (d_notation, .inl (tI, nm, .inl (uf 4))), (m_prefixOf, .inl (tI, nm, .inl (uf 5))), (m_meant, .inl (tI, nm, .inl (uf 6)))]) [3] [0, 1, 2, 4, 5, 6, 7, 8, 9, 10, 11, 12, 13, 14, 15] rfl rfl (by decide) (by decide) (by decide) 0 rfl k_Store rfl (by decide) (Nat.le_of_ble_eq_true rfl) (by decide) d_J_judge_23 (fun r23 u_ H locs hu hW => ?_)
  subst hu
  have hW : Wd D A s [(aR, .inr (2, [.ref aS, .ref s_chars, .int 0, .int 0, .int 0, .int 0, .int 0, .int 0, .int 0, .int 0, .int 0, .int 0])), (aC, .inr (7, [.ref aS, .ref aR, .ref aE, .ref aD, .ref aO, .ref aT])), (aJ, .inr (0, [.ref j_bytes, .int 0, .ref aS, .ref aR, .ref aE, .ref aD, .ref aO, .ref aT, .ref aC, .ref aV, .ref aM, .ref aW, .int 0, .int 0, .int (-1)])), (aE, .inr (3, [.ref aS, .ref aR, .ref e_from, .ref e_size, .ref e_open, .int 0, .ref e_general, .ref e_parameter, .ref e_framePos, .ref e_frameStop, .ref e_frameEntity, .ref e_frameElement, .int 0, .int 0, .int 0, .int 0, .int 0])), (aD, .inr (4, [.ref d_element, .ref d_kind, .ref d_source, .int 0, .ref d_elementOf, .ref d_label, .ref d_type, .ref d_how, .ref d_value, .ref d_list, .ref d_listSize, .ref d_next, .int 0, .ref d_firstOf, .int 0, .ref d_listed, .int 0, .ref d_notation, .int 0])), (aM, .inr (10, [.ref aS, .ref aT, .ref m_prefixOf, .ref m_localOf, .ref m_meant, .ref m_outside, .ref m_counts, .int 0])), (aO, .inr (5, [.ref aS, .ref aR, .ref aE, .ref aD, .ref o_separator, .int 0, .int 0, .int 0, .int 0, .int 0])), (aT, .inr (6, [.int (nI most), .int 0, .int 0, .int (-1), .ref t_tag, .ref t_above, .ref t_first, .ref t_all, .ref t_given, .ref t_content, .int 0, .ref t_label, .ref t_value, .ref t_declaration, .ref t_stream, .int 0, .int 0])), (e_general, .inl (tI, nm, .inl (uf 0))), (e_parameter, .inl (tI, nm, .inl (uf 1))), (d_elementOf, .inl (tI, nm, .inl (uf 2))), (d_firstOf, .inl (tI, nm, .inl (uf 3))), (d_notation, .inl (tI, nm, .inl (uf 4))), (m_prefixOf, .inl (tI, nm, .inl (uf 5))), (m_meant, .inl (tI, nm, .inl (uf 6))), (aS, .inr (1, [.int (nI room), .ref s_chars, .int (nI 143), .int (nI 143), .int 0, .int 0, .int 0, .ref s_from, .ref s_size, .ref s_hash, .ref s_next, .ref s_head, .int (nI wd), .int so, .int (nI wd), .ref s_mark, .int 0]))] H _ := hW
  refine lv_istore_n (lv' := [(2, .int (-1)), (1, .int 0), (0, .ref aJ)]) hx hb d_J_judge_26 rfl hl (by decide) rfl (fun ls hl => ?_)
  refine lv_aload_n hx hb d_J_judge_27 rfl (lv_at hl 2 rfl) ?_
  refine r_get C hW 2 rfl k_J i_J 3 (by decide) rfl w_789 d_J_judge_28 ?_
  refine r_callV [] [] C hl.1 hW (c_Reader_start0 l D tI tB tZ tL X hX aR aS s_chars s_from s_size s_hash s_next s_head s_mark room wd so) ok_Reader_start w_1186 (wr := [(aC, .inr (7, [.ref aS, .ref aR, .ref aE, .ref aD, .ref aO, .ref aT])), (aJ, .inr (0, [.ref j_bytes, .int 0, .ref aS, .ref aR, .ref aE, .ref aD, .ref aO, .ref aT, .ref aC, .ref aV, .ref aM, .ref aW, .int 0, .int 0, .int (-1)])), (aE, .inr (3, [.ref aS, .ref aR, .ref e_from, .ref e_size, .ref e_open, .int 0, .ref e_general, .ref e_parameter, .ref e_framePos, .ref e_frameStop, .ref e_frameEntity, .ref e_frameElement, .int 0, .int 0, .int 0, .int 0, .int 0])), (aD, .inr (4, [.ref d_element, .ref d_kind, .ref d_source, .int 0, .ref d_elementOf, .ref d_label, .ref d_type, .ref d_how, .ref d_value, .ref d_list, .ref d_listSize, .ref d_next, .int 0, .ref d_firstOf, .int 0, .ref d_listed, .int 0, .ref d_notation, .int 0])), (aM, .inr (10, [.ref aS, .ref aT, .ref m_prefixOf, .ref m_localOf, .ref m_meant, .ref m_outside, .ref m_counts, .int 0])), (aO, .inr (5, [.ref aS, .ref aR, .ref aE, .ref aD, .ref o_separator, .int 0, .int 0, .int 0, .int 0, .int 0])), (aT, .inr (6, [.int (nI most), .int 0, .int 0, .int (-1), .ref t_tag, .ref t_above, .ref t_first, .ref t_all, .ref t_given, .ref t_content, .int 0, .ref t_label, .ref t_value, .ref t_declaration, .ref t_stream, .int 0, .int 0])), (e_general, .inl (tI, nm, .inl (uf 0))), (e_parameter, .inl (tI, nm, .inl (uf 1))), (d_elementOf, .inl (tI, nm, .inl (uf 2))), (d_firstOf, .inl (tI, nm, .inl (uf 3))), (d_notation, .inl (tI, nm, .inl (uf 4))), (m_prefixOf, .inl (tI, nm, .inl (uf 5))), (m_meant, .inl (tI, nm, .inl (uf 6)))]) [0, 15] [1, 2, 3, 4, 5, 6, 7, 8, 9, 10, 11, 12, 13, 14] rfl rfl (by decide) (by decide) (by decide) 0 rfl k_Reader rfl (by decide) (Nat.le_of_ble_eq_true rfl) (by decide) d_J_judge_31 (fun u_ H locs hu hW => ?_)
  have hW : Wd D A s [(aC, .inr (7, [.ref aS, .ref aR, .ref aE, .ref aD, .ref aO, .ref aT])), (aJ, .inr (0, [.ref j_bytes, .int 0, .ref aS, .ref aR, .ref aE, .ref aD, .ref aO, .ref aT, .ref aC, .ref aV, .ref aM, .ref aW, .int 0, .int 0, .int (-1)])), (aE, .inr (3, [.ref aS, .ref aR, .ref e_from, .ref e_size, .ref e_open, .int 0, .ref e_general, .ref e_parameter, .ref e_framePos, .ref e_frameStop, .ref e_frameEntity, .ref e_frameElement, .int 0, .int 0, .int 0, .int 0, .int 0])), (aD, .inr (4, [.ref d_element, .ref d_kind, .ref d_source, .int 0, .ref d_elementOf, .ref d_label, .ref d_type, .ref d_how, .ref d_value, .ref d_list, .ref d_listSize, .ref d_next, .int 0, .ref d_firstOf, .int 0, .ref d_listed, .int 0, .ref d_notation, .int 0])), (aM, .inr (10, [.ref aS, .ref aT, .ref m_prefixOf, .ref m_localOf, .ref m_meant, .ref m_outside, .ref m_counts, .int 0])), (aO, .inr (5, [.ref aS, .ref aR, .ref aE, .ref aD, .ref o_separator, .int 0, .int 0, .int 0, .int 0, .int 0])), (aT, .inr (6, [.int (nI most), .int 0, .int 0, .int (-1), .ref t_tag, .ref t_above, .ref t_first, .ref t_all, .ref t_given, .ref t_content, .int 0, .ref t_label, .ref t_value, .ref t_declaration, .ref t_stream, .int 0, .int 0])), (e_general, .inl (tI, nm, .inl (uf 0))), (e_parameter, .inl (tI, nm, .inl (uf 1))), (d_elementOf, .inl (tI, nm, .inl (uf 2))), (d_firstOf, .inl (tI, nm, .inl (uf 3))), (d_notation, .inl (tI, nm, .inl (uf 4))), (m_prefixOf, .inl (tI, nm, .inl (uf 5))), (m_meant, .inl (tI, nm, .inl (uf 6))), (aR, .inr (2, [.ref aS, .ref s_chars, .int (nI 143), .int (nI 143), .int 0, .int 0, .int 0, .int 0, .int 0, .int 0, .int 0, .int 0])), (aS, .inr (1, [.int (nI room), .ref s_chars, .int (nI 143), .int (nI 143), .int 0, .int 0, .int 0, .ref s_from, .ref s_size, .ref s_hash, .ref s_next, .ref s_head, .int (nI wd), .int so, .int (nI wd), .ref s_mark, .int 0]))] H _ := hW
  refine lv_iload_n hx hb d_J_judge_34 rfl (lv_at hl 0 rfl) ?_
  refine lv_iconst (v := (-1)) hx hb d_J_judge_35 (by decide) ?_
  refine lv_icmp_eq (tgt := 58) hx hb d_J_judge_36 (by decide) (fun c_36 => ?_) (fun c_36 => absurd rfl c_36)
  refine lv_aload_n hx hb d_J_judge_58 rfl (lv_at hl 2 rfl) ?_
  refine r_get C hW 1 rfl k_J i_J 2 (by decide) rfl w_788 d_J_judge_59 ?_
  refine r_get C hW 15 rfl k_Store i_Store 4 (by decide) rfl w_162 d_J_judge_62 ?_
  refine lv_aload_n hx hb d_J_judge_65 rfl (lv_at hl 2 rfl) ?_
  refine r_get C hW 1 rfl k_J i_J 2 (by decide) rfl w_788 d_J_judge_66 ?_
  refine r_get C hW 15 rfl k_Store i_Store 0 (by decide) rfl w_145 d_J_judge_69 ?_
  refine lv_icmp_le (tgt := 86) hx hb d_J_judge_72 (by decide) (fun c_72 => ?_) (fun c_72 => absurd (nI_pos' (by omega)) c_72)
  refine lv_aload_n hx hb d_J_judge_86 rfl (lv_at hl 2 rfl) ?_
  refine r_get C hW 1 rfl k_J i_J 4 (by decide) rfl w_790 d_J_judge_87 ?_
  refine r_callV [] [] C hl.1 hW (c_Entities_start0 l D tI tB tZ tL X hX aE aS aR e_from e_size e_open e_general e_parameter e_framePos e_frameStop e_frameEntity e_frameElement s_chars s_from s_size s_hash s_next s_head s_mark room wd so) ok_Entities_start w_1194 (wr := [(aC, .inr (7, [.ref aS, .ref aR, .ref aE, .ref aD, .ref aO, .ref aT])), (aJ, .inr (0, [.ref j_bytes, .int 0, .ref aS, .ref aR, .ref aE, .ref aD, .ref aO, .ref aT, .ref aC, .ref aV, .ref aM, .ref aW, .int 0, .int 0, .int (-1)])), (aD, .inr (4, [.ref d_element, .ref d_kind, .ref d_source, .int 0, .ref d_elementOf, .ref d_label, .ref d_type, .ref d_how, .ref d_value, .ref d_list, .ref d_listSize, .ref d_next, .int 0, .ref d_firstOf, .int 0, .ref d_listed, .int 0, .ref d_notation, .int 0])), (aM, .inr (10, [.ref aS, .ref aT, .ref m_prefixOf, .ref m_localOf, .ref m_meant, .ref m_outside, .ref m_counts, .int 0])), (aO, .inr (5, [.ref aS, .ref aR, .ref aE, .ref aD, .ref o_separator, .int 0, .int 0, .int 0, .int 0, .int 0])), (aT, .inr (6, [.int (nI most), .int 0, .int 0, .int (-1), .ref t_tag, .ref t_above, .ref t_first, .ref t_all, .ref t_given, .ref t_content, .int 0, .ref t_label, .ref t_value, .ref t_declaration, .ref t_stream, .int 0, .int 0])), (e_general, .inl (tI, nm, .inl (uf 0))), (e_parameter, .inl (tI, nm, .inl (uf 1))), (d_elementOf, .inl (tI, nm, .inl (uf 2))), (d_firstOf, .inl (tI, nm, .inl (uf 3))), (d_notation, .inl (tI, nm, .inl (uf 4))), (m_prefixOf, .inl (tI, nm, .inl (uf 5))), (m_meant, .inl (tI, nm, .inl (uf 6))), (aR, .inr (2, [.ref aS, .ref s_chars, .int (nI 143), .int (nI 143), .int 0, .int 0, .int 0, .int 0, .int 0, .int 0, .int 0, .int 0]))]) [2, 15] [0, 1, 3, 4, 5, 6, 7, 8, 9, 10, 11, 12, 13, 14] rfl rfl (by decide) (by decide) (by decide) 0 rfl k_Entities rfl (by decide) (Nat.le_of_ble_eq_true rfl) (by decide) d_J_judge_90 (fun u_ H locs hu hW => ?_)
  have hW : Wd D A s [(aC, .inr (7, [.ref aS, .ref aR, .ref aE, .ref aD, .ref aO, .ref aT])), (aJ, .inr (0, [.ref j_bytes, .int 0, .ref aS, .ref aR, .ref aE, .ref aD, .ref aO, .ref aT, .ref aC, .ref aV, .ref aM, .ref aW, .int 0, .int 0, .int (-1)])), (aD, .inr (4, [.ref d_element, .ref d_kind, .ref d_source, .int 0, .ref d_elementOf, .ref d_label, .ref d_type, .ref d_how, .ref d_value, .ref d_list, .ref d_listSize, .ref d_next, .int 0, .ref d_firstOf, .int 0, .ref d_listed, .int 0, .ref d_notation, .int 0])), (aM, .inr (10, [.ref aS, .ref aT, .ref m_prefixOf, .ref m_localOf, .ref m_meant, .ref m_outside, .ref m_counts, .int 0])), (aO, .inr (5, [.ref aS, .ref aR, .ref aE, .ref aD, .ref o_separator, .int 0, .int 0, .int 0, .int 0, .int 0])), (aT, .inr (6, [.int (nI most), .int 0, .int 0, .int (-1), .ref t_tag, .ref t_above, .ref t_first, .ref t_all, .ref t_given, .ref t_content, .int 0, .ref t_label, .ref t_value, .ref t_declaration, .ref t_stream, .int 0, .int 0])), (e_general, .inl (tI, nm, .inl (uf 0))), (e_parameter, .inl (tI, nm, .inl (uf 1))), (d_elementOf, .inl (tI, nm, .inl (uf 2))), (d_firstOf, .inl (tI, nm, .inl (uf 3))), (d_notation, .inl (tI, nm, .inl (uf 4))), (m_prefixOf, .inl (tI, nm, .inl (uf 5))), (m_meant, .inl (tI, nm, .inl (uf 6))), (aR, .inr (2, [.ref aS, .ref s_chars, .int (nI 143), .int (nI 143), .int 0, .int 0, .int 0, .int 0, .int 0, .int 0, .int 0, .int 0])), (aE, .inr (3, [.ref aS, .ref aR, .ref e_from, .ref e_size, .ref e_open, .int 0, .ref e_general, .ref e_parameter, .ref e_framePos, .ref e_frameStop, .ref e_frameEntity, .ref e_frameElement, .int 0, .int 0, .int 0, .int 0, .int 0])), (aS, .inr (1, [.int (nI room), .ref s_chars, .int (nI 143), .int (nI 143), .int 0, .int 0, .int 0, .ref s_from, .ref s_size, .ref s_hash, .ref s_next, .ref s_head, .int (nI wd), .int so, .int (nI wd), .ref s_mark, .int 0]))] H _ := hW
  refine lv_aload_n hx hb d_J_judge_93 rfl (lv_at hl 2 rfl) ?_
  refine r_get C hW 1 rfl k_J i_J 8 (by decide) rfl w_794 d_J_judge_94 ?_
  refine r_callV [] [] C hl.1 hW (c_Content_readAll0 l D tI tB tZ tL X hX aC aS aR aE aD aO aT s_chars e_from e_size e_open e_general e_parameter e_framePos e_frameStop e_frameEntity e_frameElement o_separator t_tag t_above t_first t_all t_given t_content t_label t_value t_declaration t_stream s_from s_size s_hash s_next s_head s_mark room wd so most sq sv hJ hs hk) ok_Content_readAll w_1198 (wr := [(aJ, .inr (0, [.ref j_bytes, .int 0, .ref aS, .ref aR, .ref aE, .ref aD, .ref aO, .ref aT, .ref aC, .ref aV, .ref aM, .ref aW, .int 0, .int 0, .int (-1)])), (aD, .inr (4, [.ref d_element, .ref d_kind, .ref d_source, .int 0, .ref d_elementOf, .ref d_label, .ref d_type, .ref d_how, .ref d_value, .ref d_list, .ref d_listSize, .ref d_next, .int 0, .ref d_firstOf, .int 0, .ref d_listed, .int 0, .ref d_notation, .int 0])), (aM, .inr (10, [.ref aS, .ref aT, .ref m_prefixOf, .ref m_localOf, .ref m_meant, .ref m_outside, .ref m_counts, .int 0])), (e_general, .inl (tI, nm, .inl (uf 0))), (e_parameter, .inl (tI, nm, .inl (uf 1))), (d_elementOf, .inl (tI, nm, .inl (uf 2))), (d_firstOf, .inl (tI, nm, .inl (uf 3))), (d_notation, .inl (tI, nm, .inl (uf 4))), (m_prefixOf, .inl (tI, nm, .inl (uf 5))), (m_meant, .inl (tI, nm, .inl (uf 6)))]) [0, 13, 14, 4, 5, 15] [1, 2, 3, 6, 7, 8, 9, 10, 11, 12] rfl rfl (by decide) (by decide) (by decide) 0 rfl k_Content rfl (by decide) (Nat.le_of_ble_eq_true rfl) (by decide) d_J_judge_97 (fun u_ H locs hu hW => ?_)
  have hW : Wd D A s [(aJ, .inr (0, [.ref j_bytes, .int 0, .ref aS, .ref aR, .ref aE, .ref aD, .ref aO, .ref aT, .ref aC, .ref aV, .ref aM, .ref aW, .int 0, .int 0, .int (-1)])), (aD, .inr (4, [.ref d_element, .ref d_kind, .ref d_source, .int 0, .ref d_elementOf, .ref d_label, .ref d_type, .ref d_how, .ref d_value, .ref d_list, .ref d_listSize, .ref d_next, .int 0, .ref d_firstOf, .int 0, .ref d_listed, .int 0, .ref d_notation, .int 0])), (aM, .inr (10, [.ref aS, .ref aT, .ref m_prefixOf, .ref m_localOf, .ref m_meant, .ref m_outside, .ref m_counts, .int 0])), (e_general, .inl (tI, nm, .inl (uf 0))), (e_parameter, .inl (tI, nm, .inl (uf 1))), (d_elementOf, .inl (tI, nm, .inl (uf 2))), (d_firstOf, .inl (tI, nm, .inl (uf 3))), (d_notation, .inl (tI, nm, .inl (uf 4))), (m_prefixOf, .inl (tI, nm, .inl (uf 5))), (m_meant, .inl (tI, nm, .inl (uf 6))), (aC, .inr (7, [.ref aS, .ref aR, .ref aE, .ref aD, .ref aO, .ref aT])), (aR, .inr (2, [.ref aS, .ref s_chars, .int (nI 143), .int (nI 143), .int 6, .int 0, .int 0, .int 0, .int 0, .int 0, .int 0, .int 0])), (aE, .inr (3, [.ref aS, .ref aR, .ref e_from, .ref e_size, .ref e_open, .int 0, .ref e_general, .ref e_parameter, .ref e_framePos, .ref e_frameStop, .ref e_frameEntity, .ref e_frameElement, .int 0, .int 0, .int 0, .int 0, .int 0])), (aO, .inr (5, [.ref aS, .ref aR, .ref aE, .ref aD, .ref o_separator, .int 0, .int 0, .int 0, .int 0, .int 0])), (aT, .inr (6, [.int (nI most), .int 0, .int 0, .int (-1), .ref t_tag, .ref t_above, .ref t_first, .ref t_all, .ref t_given, .ref t_content, .int 0, .ref t_label, .ref t_value, .ref t_declaration, .ref t_stream, .int 0, .int 0])), (aS, .inr (1, [.int (nI room), .ref s_chars, .int (nI 143), .int (nI 143), .int 0, .int 0, .int 0, .ref s_from, .ref s_size, .ref s_hash, .ref s_next, .ref s_head, .int (nI wd), .int so, .int (nI wd), .ref s_mark, .int 0]))] H _ := hW
  refine lv_aload_n hx hb d_J_judge_100 rfl (lv_at hl 2 rfl) ?_
  refine lv_aload_n hx hb d_J_judge_101 rfl (lv_at hl 2 rfl) ?_
  refine r_get C hW 0 rfl k_J i_J 3 (by decide) rfl w_789 d_J_judge_102 ?_
  refine r_get C hW 11 rfl k_Reader i_Reader 4 (by decide) rfl w_249 d_J_judge_105 ?_
  refine r_put (v := .int 6) (ty := .int) C hW 0 rfl k_J i_J t_J o_J n_J 13 (by decide) w_799 rfl (by decide +kernel) rfl rfl (Nat.le_of_ble_eq_true rfl) d_J_judge_108 (fun H locs hW => ?_)
  have hW : Wd D A s [(aJ, .inr (0, [.ref j_bytes, .int 0, .ref aS, .ref aR, .ref aE, .ref aD, .ref aO, .ref aT, .ref aC, .ref aV, .ref aM, .ref aW, .int 0, .int 6, .int (-1)])), (aD, .inr (4, [.ref d_element, .ref d_kind, .ref d_source, .int 0, .ref d_elementOf, .ref d_label, .ref d_type, .ref d_how, .ref d_value, .ref d_list, .ref d_listSize, .ref d_next, .int 0, .ref d_firstOf, .int 0, .ref d_listed, .int 0, .ref d_notation, .int 0])), (aM, .inr (10, [.ref aS, .ref aT, .ref m_prefixOf, .ref m_localOf, .ref m_meant, .ref m_outside, .ref m_counts, .int 0])), (e_general, .inl (tI, nm, .inl (uf 0))), (e_parameter, .inl (tI, nm, .inl (uf 1))), (d_elementOf, .inl (tI, nm, .inl (uf 2))), (d_firstOf, .inl (tI, nm, .inl (uf 3))), (d_notation, .inl (tI, nm, .inl (uf 4))), (m_prefixOf, .inl (tI, nm, .inl (uf 5))), (m_meant, .inl (tI, nm, .inl (uf 6))), (aC, .inr (7, [.ref aS, .ref aR, .ref aE, .ref aD, .ref aO, .ref aT])), (aR, .inr (2, [.ref aS, .ref s_chars, .int (nI 143), .int (nI 143), .int 6, .int 0, .int 0, .int 0, .int 0, .int 0, .int 0, .int 0])), (aE, .inr (3, [.ref aS, .ref aR, .ref e_from, .ref e_size, .ref e_open, .int 0, .ref e_general, .ref e_parameter, .ref e_framePos, .ref e_frameStop, .ref e_frameEntity, .ref e_frameElement, .int 0, .int 0, .int 0, .int 0, .int 0])), (aO, .inr (5, [.ref aS, .ref aR, .ref aE, .ref aD, .ref o_separator, .int 0, .int 0, .int 0, .int 0, .int 0])), (aT, .inr (6, [.int (nI most), .int 0, .int 0, .int (-1), .ref t_tag, .ref t_above, .ref t_first, .ref t_all, .ref t_given, .ref t_content, .int 0, .ref t_label, .ref t_value, .ref t_declaration, .ref t_stream, .int 0, .int 0])), (aS, .inr (1, [.int (nI room), .ref s_chars, .int (nI 143), .int (nI 143), .int 0, .int 0, .int 0, .ref s_from, .ref s_size, .ref s_hash, .ref s_next, .ref s_head, .int (nI wd), .int so, .int (nI wd), .ref s_mark, .int 0]))] H _ := hW
  refine lv_aload_n hx hb d_J_judge_111 rfl (lv_at hl 2 rfl) ?_
  refine lv_aload_n hx hb d_J_judge_112 rfl (lv_at hl 2 rfl) ?_
  refine r_get C hW 0 rfl k_J i_J 13 (by decide) rfl w_799 d_J_judge_113 ?_
  refine lv_if_ne (tgt := 123) hx hb d_J_judge_116 (by decide) (fun c_116 => ?_) (fun c_116 => absurd c_116 (by decide))
  refine lv_iconst (v := 0) hx hb d_J_judge_123 (by decide) ?_
  refine r_put (v := .int 0) (ty := .boolean) C hW 0 rfl k_J i_J t_J o_J n_J 12 (by decide) w_798 rfl (by decide +kernel) rfl rfl (Nat.le_of_ble_eq_true rfl) d_J_judge_124 (fun H locs hW => ?_)
  have hW : Wd D A s [(aJ, .inr (0, [.ref j_bytes, .int 0, .ref aS, .ref aR, .ref aE, .ref aD, .ref aO, .ref aT, .ref aC, .ref aV, .ref aM, .ref aW, .int 0, .int 6, .int (-1)])), (aD, .inr (4, [.ref d_element, .ref d_kind, .ref d_source, .int 0, .ref d_elementOf, .ref d_label, .ref d_type, .ref d_how, .ref d_value, .ref d_list, .ref d_listSize, .ref d_next, .int 0, .ref d_firstOf, .int 0, .ref d_listed, .int 0, .ref d_notation, .int 0])), (aM, .inr (10, [.ref aS, .ref aT, .ref m_prefixOf, .ref m_localOf, .ref m_meant, .ref m_outside, .ref m_counts, .int 0])), (e_general, .inl (tI, nm, .inl (uf 0))), (e_parameter, .inl (tI, nm, .inl (uf 1))), (d_elementOf, .inl (tI, nm, .inl (uf 2))), (d_firstOf, .inl (tI, nm, .inl (uf 3))), (d_notation, .inl (tI, nm, .inl (uf 4))), (m_prefixOf, .inl (tI, nm, .inl (uf 5))), (m_meant, .inl (tI, nm, .inl (uf 6))), (aC, .inr (7, [.ref aS, .ref aR, .ref aE, .ref aD, .ref aO, .ref aT])), (aR, .inr (2, [.ref aS, .ref s_chars, .int (nI 143), .int (nI 143), .int 6, .int 0, .int 0, .int 0, .int 0, .int 0, .int 0, .int 0])), (aE, .inr (3, [.ref aS, .ref aR, .ref e_from, .ref e_size, .ref e_open, .int 0, .ref e_general, .ref e_parameter, .ref e_framePos, .ref e_frameStop, .ref e_frameEntity, .ref e_frameElement, .int 0, .int 0, .int 0, .int 0, .int 0])), (aO, .inr (5, [.ref aS, .ref aR, .ref aE, .ref aD, .ref o_separator, .int 0, .int 0, .int 0, .int 0, .int 0])), (aT, .inr (6, [.int (nI most), .int 0, .int 0, .int (-1), .ref t_tag, .ref t_above, .ref t_first, .ref t_all, .ref t_given, .ref t_content, .int 0, .ref t_label, .ref t_value, .ref t_declaration, .ref t_stream, .int 0, .int 0])), (aS, .inr (1, [.int (nI room), .ref s_chars, .int (nI 143), .int (nI 143), .int 0, .int 0, .int 0, .ref s_from, .ref s_size, .ref s_hash, .ref s_next, .ref s_head, .int (nI wd), .int so, .int (nI wd), .ref s_mark, .int 0]))] H _ := hW
  refine lv_aload_n hx hb d_J_judge_127 rfl (lv_at hl 2 rfl) ?_
  refine lv_aload_n hx hb d_J_judge_128 rfl (lv_at hl 2 rfl) ?_
  refine r_get C hW 0 rfl k_J i_J 12 (by decide) rfl w_798 d_J_judge_129 ?_
  refine lv_if_eq (tgt := 139) hx hb d_J_judge_132 (by decide) (fun c_132 => ?_) (fun c_132 => absurd rfl c_132)
  refine lv_aload_n hx hb d_J_judge_139 rfl (lv_at hl 2 rfl) ?_
  refine r_get C hW 0 rfl k_J i_J 3 (by decide) rfl w_789 d_J_judge_140 ?_
  refine r_get C hW 11 rfl k_Reader i_Reader 5 (by decide) rfl w_252 d_J_judge_143 ?_
  refine r_put (v := .int 0) (ty := .int) C hW 0 rfl k_J i_J t_J o_J n_J 14 (by decide) w_800 rfl (by decide +kernel) rfl rfl (Nat.le_of_ble_eq_true rfl) d_J_judge_146 (fun H locs hW => ?_)
  have hW : Wd D A s [(aJ, .inr (0, [.ref j_bytes, .int 0, .ref aS, .ref aR, .ref aE, .ref aD, .ref aO, .ref aT, .ref aC, .ref aV, .ref aM, .ref aW, .int 0, .int 6, .int 0])), (aD, .inr (4, [.ref d_element, .ref d_kind, .ref d_source, .int 0, .ref d_elementOf, .ref d_label, .ref d_type, .ref d_how, .ref d_value, .ref d_list, .ref d_listSize, .ref d_next, .int 0, .ref d_firstOf, .int 0, .ref d_listed, .int 0, .ref d_notation, .int 0])), (aM, .inr (10, [.ref aS, .ref aT, .ref m_prefixOf, .ref m_localOf, .ref m_meant, .ref m_outside, .ref m_counts, .int 0])), (e_general, .inl (tI, nm, .inl (uf 0))), (e_parameter, .inl (tI, nm, .inl (uf 1))), (d_elementOf, .inl (tI, nm, .inl (uf 2))), (d_firstOf, .inl (tI, nm, .inl (uf 3))), (d_notation, .inl (tI, nm, .inl (uf 4))), (m_prefixOf, .inl (tI, nm, .inl (uf 5))), (m_meant, .inl (tI, nm, .inl (uf 6))), (aC, .inr (7, [.ref aS, .ref aR, .ref aE, .ref aD, .ref aO, .ref aT])), (aR, .inr (2, [.ref aS, .ref s_chars, .int (nI 143), .int (nI 143), .int 6, .int 0, .int 0, .int 0, .int 0, .int 0, .int 0, .int 0])), (aE, .inr (3, [.ref aS, .ref aR, .ref e_from, .ref e_size, .ref e_open, .int 0, .ref e_general, .ref e_parameter, .ref e_framePos, .ref e_frameStop, .ref e_frameEntity, .ref e_frameElement, .int 0, .int 0, .int 0, .int 0, .int 0])), (aO, .inr (5, [.ref aS, .ref aR, .ref aE, .ref aD, .ref o_separator, .int 0, .int 0, .int 0, .int 0, .int 0])), (aT, .inr (6, [.int (nI most), .int 0, .int 0, .int (-1), .ref t_tag, .ref t_above, .ref t_first, .ref t_all, .ref t_given, .ref t_content, .int 0, .ref t_label, .ref t_value, .ref t_declaration, .ref t_stream, .int 0, .int 0])), (aS, .inr (1, [.int (nI room), .ref s_chars, .int (nI 143), .int (nI 143), .int 0, .int 0, .int 0, .ref s_from, .ref s_size, .ref s_hash, .ref s_next, .ref s_head, .int (nI wd), .int so, .int (nI wd), .ref s_mark, .int 0]))] H _ := hW
  refine lv_aload_n hx hb d_J_judge_149 rfl (lv_at hl 2 rfl) ?_
  refine r_get C hW 0 rfl k_J i_J 12 (by decide) rfl w_798 d_J_judge_150 ?_
  refine lv_if_ne (tgt := 165) hx hb d_J_judge_153 (by decide) (fun c_153 => absurd rfl c_153) (fun c_153 => ?_)
  refine lv_aload_n hx hb d_J_judge_156 rfl (lv_at hl 2 rfl) ?_
  refine r_get C hW 0 rfl k_J i_J 7 (by decide) rfl w_793 d_J_judge_157 ?_
  refine r_callV [] [] C hl.1 hW (c_Tree_forget l D tI tB tZ tL X hX aT t_tag t_above t_first t_all t_given t_content t_label t_value t_declaration t_stream most) ok_Tree_forget w_1152 (wr := [(aJ, .inr (0, [.ref j_bytes, .int 0, .ref aS, .ref aR, .ref aE, .ref aD, .ref aO, .ref aT, .ref aC, .ref aV, .ref aM, .ref aW, .int 0, .int 6, .int 0])), (aD, .inr (4, [.ref d_element, .ref d_kind, .ref d_source, .int 0, .ref d_elementOf, .ref d_label, .ref d_type, .ref d_how, .ref d_value, .ref d_list, .ref d_listSize, .ref d_next, .int 0, .ref d_firstOf, .int 0, .ref d_listed, .int 0, .ref d_notation, .int 0])), (aM, .inr (10, [.ref aS, .ref aT, .ref m_prefixOf, .ref m_localOf, .ref m_meant, .ref m_outside, .ref m_counts, .int 0])), (e_general, .inl (tI, nm, .inl (uf 0))), (e_parameter, .inl (tI, nm, .inl (uf 1))), (d_elementOf, .inl (tI, nm, .inl (uf 2))), (d_firstOf, .inl (tI, nm, .inl (uf 3))), (d_notation, .inl (tI, nm, .inl (uf 4))), (m_prefixOf, .inl (tI, nm, .inl (uf 5))), (m_meant, .inl (tI, nm, .inl (uf 6))), (aC, .inr (7, [.ref aS, .ref aR, .ref aE, .ref aD, .ref aO, .ref aT])), (aR, .inr (2, [.ref aS, .ref s_chars, .int (nI 143), .int (nI 143), .int 6, .int 0, .int 0, .int 0, .int 0, .int 0, .int 0, .int 0])), (aE, .inr (3, [.ref aS, .ref aR, .ref e_from, .ref e_size, .ref e_open, .int 0, .ref e_general, .ref e_parameter, .ref e_framePos, .ref e_frameStop, .ref e_frameEntity, .ref e_frameElement, .int 0, .int 0, .int 0, .int 0, .int 0])), (aO, .inr (5, [.ref aS, .ref aR, .ref aE, .ref aD, .ref o_separator, .int 0, .int 0, .int 0, .int 0, .int 0])), (aS, .inr (1, [.int (nI room), .ref s_chars, .int (nI 143), .int (nI 143), .int 0, .int 0, .int 0, .ref s_from, .ref s_size, .ref s_hash, .ref s_next, .ref s_head, .int (nI wd), .int so, .int (nI wd), .ref s_mark, .int 0]))]) [14] [0, 1, 2, 3, 4, 5, 6, 7, 8, 9, 10, 11, 12, 13, 15] rfl rfl (by decide) (by decide) (by decide) 0 rfl k_Tree rfl (by decide) (Nat.le_of_ble_eq_true rfl) (by decide) d_J_judge_160 (fun u_ H locs hu hW => ?_)
  have hW : Wd D A s [(aJ, .inr (0, [.ref j_bytes, .int 0, .ref aS, .ref aR, .ref aE, .ref aD, .ref aO, .ref aT, .ref aC, .ref aV, .ref aM, .ref aW, .int 0, .int 6, .int 0])), (aD, .inr (4, [.ref d_element, .ref d_kind, .ref d_source, .int 0, .ref d_elementOf, .ref d_label, .ref d_type, .ref d_how, .ref d_value, .ref d_list, .ref d_listSize, .ref d_next, .int 0, .ref d_firstOf, .int 0, .ref d_listed, .int 0, .ref d_notation, .int 0])), (aM, .inr (10, [.ref aS, .ref aT, .ref m_prefixOf, .ref m_localOf, .ref m_meant, .ref m_outside, .ref m_counts, .int 0])), (e_general, .inl (tI, nm, .inl (uf 0))), (e_parameter, .inl (tI, nm, .inl (uf 1))), (d_elementOf, .inl (tI, nm, .inl (uf 2))), (d_firstOf, .inl (tI, nm, .inl (uf 3))), (d_notation, .inl (tI, nm, .inl (uf 4))), (m_prefixOf, .inl (tI, nm, .inl (uf 5))), (m_meant, .inl (tI, nm, .inl (uf 6))), (aC, .inr (7, [.ref aS, .ref aR, .ref aE, .ref aD, .ref aO, .ref aT])), (aR, .inr (2, [.ref aS, .ref s_chars, .int (nI 143), .int (nI 143), .int 6, .int 0, .int 0, .int 0, .int 0, .int 0, .int 0, .int 0])), (aE, .inr (3, [.ref aS, .ref aR, .ref e_from, .ref e_size, .ref e_open, .int 0, .ref e_general, .ref e_parameter, .ref e_framePos, .ref e_frameStop, .ref e_frameEntity, .ref e_frameElement, .int 0, .int 0, .int 0, .int 0, .int 0])), (aO, .inr (5, [.ref aS, .ref aR, .ref aE, .ref aD, .ref o_separator, .int 0, .int 0, .int 0, .int 0, .int 0])), (aS, .inr (1, [.int (nI room), .ref s_chars, .int (nI 143), .int (nI 143), .int 0, .int 0, .int 0, .ref s_from, .ref s_size, .ref s_hash, .ref s_next, .ref s_head, .int (nI wd), .int so, .int (nI wd), .ref s_mark, .int 0])), (aT, .inr (6, [.int (nI most), .int 0, .int 0, .int (-1), .ref t_tag, .ref t_above, .ref t_first, .ref t_all, .ref t_given, .ref t_content, .int 0, .ref t_label, .ref t_value, .ref t_declaration, .ref t_stream, .int 0, .int 0]))] H _ := hW
  refine lv_iconst (v := 2) hx hb d_J_judge_163 (by decide) ?_
  rw [hQ]
  exact r_iret C hr hlk hW rfl (fun k => [(uf 0), (uf 1), (uf 2), (uf 3), (uf 4), (uf 5), (uf 6)].getD k (fun _ => 0)) rfl [0, 14, 11, 12, 1, 2, 13, 15, 10, 3, 4, 5, 6, 7, 8, 9] (by decide) rfl d_J_judge_164 (by decide) (by decide)
