def y_Store_add : MethodName := ⟨"MarkupJudge$Store", "add", "(I)V"⟩
abbrev b_Store_add : ByteArray := prog_9_method_4_code
def y_Store_find : MethodName := ⟨"MarkupJudge$Store", "find", "(II)I"⟩
abbrev b_Store_find : ByteArray := prog_9_method_9_code
def y_Store_intern : MethodName := ⟨"MarkupJudge$Store", "intern", "(II)I"⟩
abbrev b_Store_intern : ByteArray := prog_9_method_10_code
def y_Store_keep : MethodName := ⟨"MarkupJudge$Store", "keep", "(Ljava/lang/String;)V"⟩
abbrev b_Store_keep : ByteArray := prog_9_method_2_code
theorem w_63 : (Jvm.Cond.methodLink "MarkupJudge$Store" (104 : Nat) ({ cls := "java/lang/String", name := "length", desc := "()I" } : Jvm.MethodName)) ∈ lwG := s_1 (List.mem_of_getElem? (i := 63) rfl) rfl
theorem w_73 : (Jvm.Cond.methodLink "MarkupJudge$Store" (110 : Nat) ({ cls := "java/lang/String", name := "charAt", desc := "(I)C" } : Jvm.MethodName)) ∈ lwG := s_1 (List.mem_of_getElem? (i := 73) rfl) rfl
theorem w_111 : (Jvm.Cond.methodLink "MarkupJudge$Store" (114 : Nat) ({ cls := "MarkupJudge$Store", name := "add", desc := "(I)V" } : Jvm.MethodName)) ∈ lwG := s_1 (List.mem_of_getElem? (i := 111) rfl) rfl
theorem w_115 : (Jvm.Cond.methodLink "MarkupJudge$Store" (118 : Nat) ({ cls := "MarkupJudge$Store", name := "intern", desc := "(II)I" } : Jvm.MethodName)) ∈ lwG := s_1 (List.mem_of_getElem? (i := 115) rfl) rfl
theorem w_119 : (Jvm.Cond.methodLink "MarkupJudge$Store" (156 : Nat) ({ cls := "MarkupJudge$Store", name := "find", desc := "(II)I" } : Jvm.MethodName)) ∈ lwG := s_1 (List.mem_of_getElem? (i := 119) rfl) rfl
theorem w_147 : (Jvm.Cond.fieldLink "MarkupJudge$Store" (22 : Nat) "MarkupJudge$Store" "chars" "[I") ∈ lwG := s_1 (List.mem_of_getElem? (i := 147) rfl) rfl
theorem w_155 : (Jvm.Cond.fieldLink "MarkupJudge$Store" (98 : Nat) "MarkupJudge$Store" "top" "I") ∈ lwG := s_1 (List.mem_of_getElem? (i := 155) rfl) rfl
theorem w_166 : (Jvm.Cond.fieldLink "MarkupJudge$Store" (26 : Nat) "MarkupJudge$Store" "from" "[I") ∈ lwG := s_1 (List.mem_of_getElem? (i := 166) rfl) rfl
theorem w_169 : (Jvm.Cond.fieldLink "MarkupJudge$Store" (29 : Nat) "MarkupJudge$Store" "size" "[I") ∈ lwG := s_1 (List.mem_of_getElem? (i := 169) rfl) rfl
theorem w_173 : (Jvm.Cond.fieldLink "MarkupJudge$Store" (32 : Nat) "MarkupJudge$Store" "hash" "[I") ∈ lwG := s_1 (List.mem_of_getElem? (i := 173) rfl) rfl
theorem w_174 : (Jvm.Cond.fieldLink "MarkupJudge$Store" (35 : Nat) "MarkupJudge$Store" "next" "[I") ∈ lwG := s_1 (List.mem_of_getElem? (i := 174) rfl) rfl
theorem w_175 : (Jvm.Cond.fieldLink "MarkupJudge$Store" (41 : Nat) "MarkupJudge$Store" "head" "[I") ∈ lwG := s_1 (List.mem_of_getElem? (i := 175) rfl) rfl
theorem w_177 : (Jvm.Cond.fieldLink "MarkupJudge$Store" (153 : Nat) "MarkupJudge$Store" "sought" "I") ∈ lwG := s_1 (List.mem_of_getElem? (i := 177) rfl) rfl
theorem w_178 : (Jvm.Cond.fieldLink "MarkupJudge$Store" (92 : Nat) "MarkupJudge$Store" "words" "I") ∈ lwG := s_1 (List.mem_of_getElem? (i := 178) rfl) rfl
theorem ok_Store_add : okV y_Store_add b_Store_add 2 none 1 := ⟨s_1 (List.mem_of_getElem? (i := 114) rfl) rfl, s_1 (List.mem_of_getElem? (i := 112) rfl) rfl, s_1 (List.mem_of_getElem? (i := 113) rfl) rfl, s_1 (List.mem_of_getElem? (i := 2) rfl) rfl, ⟨by decide +kernel, by decide +kernel, by decide +kernel⟩⟩
theorem ok_Store_find : okV y_Store_find b_Store_find 8 (some .int) 2 := ⟨s_1 (List.mem_of_getElem? (i := 122) rfl) rfl, s_1 (List.mem_of_getElem? (i := 120) rfl) rfl, s_1 (List.mem_of_getElem? (i := 121) rfl) rfl, s_1 (List.mem_of_getElem? (i := 2) rfl) rfl, ⟨by decide +kernel, by decide +kernel, by decide +kernel⟩⟩
theorem ok_Store_intern : okV y_Store_intern b_Store_intern 5 (some .int) 2 := ⟨s_1 (List.mem_of_getElem? (i := 118) rfl) rfl, s_1 (List.mem_of_getElem? (i := 116) rfl) rfl, s_1 (List.mem_of_getElem? (i := 117) rfl) rfl, s_1 (List.mem_of_getElem? (i := 2) rfl) rfl, ⟨by decide +kernel, by decide +kernel, by decide +kernel⟩⟩
theorem ok_Str_charAt : okV y_Str_charAt b_Str_charAt 2 (some .char) 1 := ⟨s_1 (List.mem_of_getElem? (i := 76) rfl) rfl, s_1 (List.mem_of_getElem? (i := 74) rfl) rfl, s_1 (List.mem_of_getElem? (i := 75) rfl) rfl, s_1 (List.mem_of_getElem? (i := 5) rfl) rfl, ⟨by decide +kernel, by decide +kernel, by decide +kernel⟩⟩
theorem ok_Str_length : okV y_Str_length b_Str_length 1 (some .int) 0 := ⟨s_1 (List.mem_of_getElem? (i := 66) rfl) rfl, s_1 (List.mem_of_getElem? (i := 64) rfl) rfl, s_1 (List.mem_of_getElem? (i := 65) rfl) rfl, s_1 (List.mem_of_getElem? (i := 5) rfl) rfl, ⟨by decide +kernel, by decide +kernel, by decide +kernel⟩⟩
theorem d_Store_add_0 : decode b_Store_add 0 = .ok (.aload_n 0, 1) := by decide +kernel
theorem d_Store_add_1 : decode b_Store_add 1 = .ok (.getfield 98, 3) := by decide +kernel
theorem d_Store_add_4 : decode b_Store_add 4 = .ok (.aload_n 0, 1) := by decide +kernel
theorem d_Store_add_5 : decode b_Store_add 5 = .ok (.getfield 22, 3) := by decide +kernel
theorem d_Store_add_8 : decode b_Store_add 8 = .ok (.arraylength, 1) := by decide +kernel
theorem d_Store_add_9 : decode b_Store_add 9 = .ok (.if_icmp .ge 23, 3) := by decide +kernel
theorem d_Store_add_12 : decode b_Store_add 12 = .ok (.aload_n 0, 1) := by decide +kernel
theorem d_Store_add_13 : decode b_Store_add 13 = .ok (.getfield 22, 3) := by decide +kernel
theorem d_Store_add_16 : decode b_Store_add 16 = .ok (.aload_n 0, 1) := by decide +kernel
theorem d_Store_add_17 : decode b_Store_add 17 = .ok (.getfield 98, 3) := by decide +kernel
theorem d_Store_add_20 : decode b_Store_add 20 = .ok (.iload_n 1, 1) := by decide +kernel
theorem d_Store_add_21 : decode b_Store_add 21 = .ok (.iastore, 1) := by decide +kernel
theorem d_Store_add_22 : decode b_Store_add 22 = .ok (.aload_n 0, 1) := by decide +kernel
theorem d_Store_add_23 : decode b_Store_add 23 = .ok (.dup, 1) := by decide +kernel
theorem d_Store_add_24 : decode b_Store_add 24 = .ok (.getfield 98, 3) := by decide +kernel
theorem d_Store_add_27 : decode b_Store_add 27 = .ok (.iconst 1, 1) := by decide +kernel
theorem d_Store_add_28 : decode b_Store_add 28 = .ok (.iadd, 1) := by decide +kernel
theorem d_Store_add_29 : decode b_Store_add 29 = .ok (.putfield 98, 3) := by decide +kernel
theorem d_Store_add_32 : decode b_Store_add 32 = .ok (.return_, 1) := by decide +kernel
theorem d_Store_find_0 : decode b_Store_find 0 = .ok (.iload_n 2, 1) := by decide +kernel
theorem d_Store_find_1 : decode b_Store_find 1 = .ok (.istore_n 3, 1) := by decide +kernel
theorem d_Store_find_2 : decode b_Store_find 2 = .ok (.iload_n 1, 1) := by decide +kernel
theorem d_Store_find_3 : decode b_Store_find 3 = .ok (.istore 4, 2) := by decide +kernel
theorem d_Store_find_5 : decode b_Store_find 5 = .ok (.iload 4, 2) := by decide +kernel
theorem d_Store_find_7 : decode b_Store_find 7 = .ok (.iload_n 1, 1) := by decide +kernel
theorem d_Store_find_8 : decode b_Store_find 8 = .ok (.iload_n 2, 1) := by decide +kernel
theorem d_Store_find_9 : decode b_Store_find 9 = .ok (.iadd, 1) := by decide +kernel
theorem d_Store_find_10 : decode b_Store_find 10 = .ok (.if_icmp .ge 22, 3) := by decide +kernel
theorem d_Store_find_13 : decode b_Store_find 13 = .ok (.iload_n 3, 1) := by decide +kernel
theorem d_Store_find_14 : decode b_Store_find 14 = .ok (.bipush 31, 2) := by decide +kernel
theorem d_Store_find_16 : decode b_Store_find 16 = .ok (.imul, 1) := by decide +kernel
theorem d_Store_find_17 : decode b_Store_find 17 = .ok (.aload_n 0, 1) := by decide +kernel
theorem d_Store_find_18 : decode b_Store_find 18 = .ok (.getfield 22, 3) := by decide +kernel
theorem d_Store_find_21 : decode b_Store_find 21 = .ok (.iload 4, 2) := by decide +kernel
theorem d_Store_find_23 : decode b_Store_find 23 = .ok (.iaload, 1) := by decide +kernel
theorem d_Store_find_24 : decode b_Store_find 24 = .ok (.iadd, 1) := by decide +kernel
theorem d_Store_find_25 : decode b_Store_find 25 = .ok (.istore_n 3, 1) := by decide +kernel
theorem d_Store_find_26 : decode b_Store_find 26 = .ok (.iinc 4 1, 3) := by decide +kernel
theorem d_Store_find_29 : decode b_Store_find 29 = .ok (.goto (-24), 3) := by decide +kernel
theorem d_Store_find_32 : decode b_Store_find 32 = .ok (.aload_n 0, 1) := by decide +kernel
theorem d_Store_find_33 : decode b_Store_find 33 = .ok (.iload_n 3, 1) := by decide +kernel
theorem d_Store_find_34 : decode b_Store_find 34 = .ok (.iload_n 3, 1) := by decide +kernel
theorem d_Store_find_35 : decode b_Store_find 35 = .ok (.bipush 15, 2) := by decide +kernel
theorem d_Store_find_37 : decode b_Store_find 37 = .ok (.iushr, 1) := by decide +kernel
theorem d_Store_find_38 : decode b_Store_find 38 = .ok (.ixor, 1) := by decide +kernel
theorem d_Store_find_39 : decode b_Store_find 39 = .ok (.putfield 153, 3) := by decide +kernel
theorem d_Store_find_42 : decode b_Store_find 42 = .ok (.aload_n 0, 1) := by decide +kernel
theorem d_Store_find_43 : decode b_Store_find 43 = .ok (.getfield 41, 3) := by decide +kernel
theorem d_Store_find_46 : decode b_Store_find 46 = .ok (.aload_n 0, 1) := by decide +kernel
theorem d_Store_find_47 : decode b_Store_find 47 = .ok (.getfield 153, 3) := by decide +kernel
theorem d_Store_find_50 : decode b_Store_find 50 = .ok (.aload_n 0, 1) := by decide +kernel
theorem d_Store_find_51 : decode b_Store_find 51 = .ok (.getfield 41, 3) := by decide +kernel
theorem d_Store_find_54 : decode b_Store_find 54 = .ok (.arraylength, 1) := by decide +kernel
theorem d_Store_find_55 : decode b_Store_find 55 = .ok (.iconst 1, 1) := by decide +kernel
theorem d_Store_find_56 : decode b_Store_find 56 = .ok (.isub, 1) := by decide +kernel
theorem d_Store_find_57 : decode b_Store_find 57 = .ok (.iand, 1) := by decide +kernel
theorem d_Store_find_58 : decode b_Store_find 58 = .ok (.iaload, 1) := by decide +kernel
theorem d_Store_find_59 : decode b_Store_find 59 = .ok (.istore 4, 2) := by decide +kernel
theorem d_Store_find_61 : decode b_Store_find 61 = .ok (.iconst 0, 1) := by decide +kernel
theorem d_Store_find_62 : decode b_Store_find 62 = .ok (.istore 5, 2) := by decide +kernel
theorem d_Store_find_64 : decode b_Store_find 64 = .ok (.iload 5, 2) := by decide +kernel
theorem d_Store_find_66 : decode b_Store_find 66 = .ok (.aload_n 0, 1) := by decide +kernel
theorem d_Store_find_67 : decode b_Store_find 67 = .ok (.getfield 92, 3) := by decide +kernel
theorem d_Store_find_70 : decode b_Store_find 70 = .ok (.if_icmp .ge 117, 3) := by decide +kernel
theorem d_Store_find_73 : decode b_Store_find 73 = .ok (.iload 4, 2) := by decide +kernel
theorem d_Store_find_75 : decode b_Store_find 75 = .ok (.iconst (-1), 1) := by decide +kernel
theorem d_Store_find_76 : decode b_Store_find 76 = .ok (.if_icmp .eq 111, 3) := by decide +kernel
theorem d_Store_find_79 : decode b_Store_find 79 = .ok (.aload_n 0, 1) := by decide +kernel
theorem d_Store_find_80 : decode b_Store_find 80 = .ok (.getfield 32, 3) := by decide +kernel
theorem d_Store_find_83 : decode b_Store_find 83 = .ok (.iload 4, 2) := by decide +kernel
theorem d_Store_find_85 : decode b_Store_find 85 = .ok (.iaload, 1) := by decide +kernel
theorem d_Store_find_86 : decode b_Store_find 86 = .ok (.aload_n 0, 1) := by decide +kernel
theorem d_Store_find_87 : decode b_Store_find 87 = .ok (.getfield 153, 3) := by decide +kernel
theorem d_Store_find_90 : decode b_Store_find 90 = .ok (.if_icmp .ne 18, 3) := by decide +kernel
theorem d_Store_find_93 : decode b_Store_find 93 = .ok (.aload_n 0, 1) := by decide +kernel
theorem d_Store_find_94 : decode b_Store_find 94 = .ok (.getfield 29, 3) := by decide +kernel
theorem d_Store_find_97 : decode b_Store_find 97 = .ok (.iload 4, 2) := by decide +kernel
theorem d_Store_find_99 : decode b_Store_find 99 = .ok (.iaload, 1) := by decide +kernel
theorem d_Store_find_100 : decode b_Store_find 100 = .ok (.iload_n 2, 1) := by decide +kernel
theorem d_Store_find_101 : decode b_Store_find 101 = .ok (.if_icmp .ne 7, 3) := by decide +kernel
theorem d_Store_find_104 : decode b_Store_find 104 = .ok (.iconst 0, 1) := by decide +kernel
theorem d_Store_find_105 : decode b_Store_find 105 = .ok (.goto 4, 3) := by decide +kernel
theorem d_Store_find_108 : decode b_Store_find 108 = .ok (.iconst (-1), 1) := by decide +kernel
theorem d_Store_find_109 : decode b_Store_find 109 = .ok (.istore 6, 2) := by decide +kernel
theorem d_Store_find_111 : decode b_Store_find 111 = .ok (.iconst 0, 1) := by decide +kernel
theorem d_Store_find_112 : decode b_Store_find 112 = .ok (.istore 7, 2) := by decide +kernel
theorem d_Store_find_114 : decode b_Store_find 114 = .ok (.iload 7, 2) := by decide +kernel
theorem d_Store_find_116 : decode b_Store_find 116 = .ok (.iload_n 2, 1) := by decide +kernel
theorem d_Store_find_117 : decode b_Store_find 117 = .ok (.if_icmp .ge 46, 3) := by decide +kernel
theorem d_Store_find_120 : decode b_Store_find 120 = .ok (.iload 6, 2) := by decide +kernel
theorem d_Store_find_122 : decode b_Store_find 122 = .ok (.iload 7, 2) := by decide +kernel
theorem d_Store_find_124 : decode b_Store_find 124 = .ok (.if_icmp .ne 39, 3) := by decide +kernel
theorem d_Store_find_127 : decode b_Store_find 127 = .ok (.aload_n 0, 1) := by decide +kernel
theorem d_Store_find_128 : decode b_Store_find 128 = .ok (.getfield 22, 3) := by decide +kernel
theorem d_Store_find_131 : decode b_Store_find 131 = .ok (.aload_n 0, 1) := by decide +kernel
theorem d_Store_find_132 : decode b_Store_find 132 = .ok (.getfield 26, 3) := by decide +kernel
theorem d_Store_find_135 : decode b_Store_find 135 = .ok (.iload 4, 2) := by decide +kernel
theorem d_Store_find_137 : decode b_Store_find 137 = .ok (.iaload, 1) := by decide +kernel
theorem d_Store_find_138 : decode b_Store_find 138 = .ok (.iload 7, 2) := by decide +kernel
theorem d_Store_find_140 : decode b_Store_find 140 = .ok (.iadd, 1) := by decide +kernel
theorem d_Store_find_141 : decode b_Store_find 141 = .ok (.iaload, 1) := by decide +kernel
theorem d_Store_find_142 : decode b_Store_find 142 = .ok (.aload_n 0, 1) := by decide +kernel
theorem d_Store_find_143 : decode b_Store_find 143 = .ok (.getfield 22, 3) := by decide +kernel
theorem d_Store_find_146 : decode b_Store_find 146 = .ok (.iload_n 1, 1) := by decide +kernel
theorem d_Store_find_147 : decode b_Store_find 147 = .ok (.iload 7, 2) := by decide +kernel
theorem d_Store_find_149 : decode b_Store_find 149 = .ok (.iadd, 1) := by decide +kernel
theorem d_Store_find_150 : decode b_Store_find 150 = .ok (.iaload, 1) := by decide +kernel
theorem d_Store_find_151 : decode b_Store_find 151 = .ok (.if_icmp .ne 12, 3) := by decide +kernel
theorem d_Store_find_154 : decode b_Store_find 154 = .ok (.iinc 6 1, 3) := by decide +kernel
theorem d_Store_find_157 : decode b_Store_find 157 = .ok (.iinc 7 1, 3) := by decide +kernel
theorem d_Store_find_160 : decode b_Store_find 160 = .ok (.goto (-46), 3) := by decide +kernel
theorem d_Store_find_163 : decode b_Store_find 163 = .ok (.iload 6, 2) := by decide +kernel
theorem d_Store_find_165 : decode b_Store_find 165 = .ok (.iload_n 2, 1) := by decide +kernel
theorem d_Store_find_166 : decode b_Store_find 166 = .ok (.if_icmp .ne 6, 3) := by decide +kernel
theorem d_Store_find_169 : decode b_Store_find 169 = .ok (.iload 4, 2) := by decide +kernel
theorem d_Store_find_171 : decode b_Store_find 171 = .ok (.ireturn, 1) := by decide +kernel
theorem d_Store_find_172 : decode b_Store_find 172 = .ok (.aload_n 0, 1) := by decide +kernel
theorem d_Store_find_173 : decode b_Store_find 173 = .ok (.getfield 35, 3) := by decide +kernel
theorem d_Store_find_176 : decode b_Store_find 176 = .ok (.iload 4, 2) := by decide +kernel
theorem d_Store_find_178 : decode b_Store_find 178 = .ok (.iaload, 1) := by decide +kernel
theorem d_Store_find_179 : decode b_Store_find 179 = .ok (.istore 4, 2) := by decide +kernel
theorem d_Store_find_181 : decode b_Store_find 181 = .ok (.iinc 5 1, 3) := by decide +kernel
theorem d_Store_find_184 : decode b_Store_find 184 = .ok (.goto (-120), 3) := by decide +kernel
theorem d_Store_find_187 : decode b_Store_find 187 = .ok (.iconst (-1), 1) := by decide +kernel
theorem d_Store_find_188 : decode b_Store_find 188 = .ok (.ireturn, 1) := by decide +kernel
theorem d_Store_intern_0 : decode b_Store_intern 0 = .ok (.aload_n 0, 1) := by decide +kernel
theorem d_Store_intern_1 : decode b_Store_intern 1 = .ok (.iload_n 1, 1) := by decide +kernel
theorem d_Store_intern_2 : decode b_Store_intern 2 = .ok (.iload_n 2, 1) := by decide +kernel
theorem d_Store_intern_3 : decode b_Store_intern 3 = .ok (.invokevirtual 156, 3) := by decide +kernel
theorem d_Store_intern_6 : decode b_Store_intern 6 = .ok (.istore_n 3, 1) := by decide +kernel
theorem d_Store_intern_7 : decode b_Store_intern 7 = .ok (.iload_n 3, 1) := by decide +kernel
theorem d_Store_intern_8 : decode b_Store_intern 8 = .ok (.iconst (-1), 1) := by decide +kernel
theorem d_Store_intern_9 : decode b_Store_intern 9 = .ok (.if_icmp .eq 5, 3) := by decide +kernel
theorem d_Store_intern_12 : decode b_Store_intern 12 = .ok (.iload_n 3, 1) := by decide +kernel
theorem d_Store_intern_13 : decode b_Store_intern 13 = .ok (.ireturn, 1) := by decide +kernel
theorem d_Store_intern_14 : decode b_Store_intern 14 = .ok (.aload_n 0, 1) := by decide +kernel
theorem d_Store_intern_15 : decode b_Store_intern 15 = .ok (.getfield 92, 3) := by decide +kernel
theorem d_Store_intern_18 : decode b_Store_intern 18 = .ok (.aload_n 0, 1) := by decide +kernel
theorem d_Store_intern_19 : decode b_Store_intern 19 = .ok (.getfield 26, 3) := by decide +kernel
theorem d_Store_intern_22 : decode b_Store_intern 22 = .ok (.arraylength, 1) := by decide +kernel
theorem d_Store_intern_23 : decode b_Store_intern 23 = .ok (.if_icmp .lt 5, 3) := by decide +kernel
theorem d_Store_intern_26 : decode b_Store_intern 26 = .ok (.iconst 0, 1) := by decide +kernel
theorem d_Store_intern_27 : decode b_Store_intern 27 = .ok (.ireturn, 1) := by decide +kernel
theorem d_Store_intern_28 : decode b_Store_intern 28 = .ok (.aload_n 0, 1) := by decide +kernel
theorem d_Store_intern_29 : decode b_Store_intern 29 = .ok (.getfield 26, 3) := by decide +kernel
theorem d_Store_intern_32 : decode b_Store_intern 32 = .ok (.aload_n 0, 1) := by decide +kernel
theorem d_Store_intern_33 : decode b_Store_intern 33 = .ok (.getfield 92, 3) := by decide +kernel
theorem d_Store_intern_36 : decode b_Store_intern 36 = .ok (.iload_n 1, 1) := by decide +kernel
theorem d_Store_intern_37 : decode b_Store_intern 37 = .ok (.iastore, 1) := by decide +kernel
theorem d_Store_intern_38 : decode b_Store_intern 38 = .ok (.aload_n 0, 1) := by decide +kernel
theorem d_Store_intern_39 : decode b_Store_intern 39 = .ok (.getfield 29, 3) := by decide +kernel
theorem d_Store_intern_42 : decode b_Store_intern 42 = .ok (.aload_n 0, 1) := by decide +kernel
theorem d_Store_intern_43 : decode b_Store_intern 43 = .ok (.getfield 92, 3) := by decide +kernel
theorem d_Store_intern_46 : decode b_Store_intern 46 = .ok (.iload_n 2, 1) := by decide +kernel
theorem d_Store_intern_47 : decode b_Store_intern 47 = .ok (.iastore, 1) := by decide +kernel
theorem d_Store_intern_48 : decode b_Store_intern 48 = .ok (.aload_n 0, 1) := by decide +kernel
theorem d_Store_intern_49 : decode b_Store_intern 49 = .ok (.getfield 32, 3) := by decide +kernel
theorem d_Store_intern_52 : decode b_Store_intern 52 = .ok (.aload_n 0, 1) := by decide +kernel
theorem d_Store_intern_53 : decode b_Store_intern 53 = .ok (.getfield 92, 3) := by decide +kernel
theorem d_Store_intern_56 : decode b_Store_intern 56 = .ok (.aload_n 0, 1) := by decide +kernel
theorem d_Store_intern_57 : decode b_Store_intern 57 = .ok (.getfield 153, 3) := by decide +kernel
theorem d_Store_intern_60 : decode b_Store_intern 60 = .ok (.iastore, 1) := by decide +kernel
theorem d_Store_intern_61 : decode b_Store_intern 61 = .ok (.aload_n 0, 1) := by decide +kernel
theorem d_Store_intern_62 : decode b_Store_intern 62 = .ok (.getfield 153, 3) := by decide +kernel
theorem d_Store_intern_65 : decode b_Store_intern 65 = .ok (.aload_n 0, 1) := by decide +kernel
theorem d_Store_intern_66 : decode b_Store_intern 66 = .ok (.getfield 41, 3) := by decide +kernel
theorem d_Store_intern_69 : decode b_Store_intern 69 = .ok (.arraylength, 1) := by decide +kernel
theorem d_Store_intern_70 : decode b_Store_intern 70 = .ok (.iconst 1, 1) := by decide +kernel
theorem d_Store_intern_71 : decode b_Store_intern 71 = .ok (.isub, 1) := by decide +kernel
theorem d_Store_intern_72 : decode b_Store_intern 72 = .ok (.iand, 1) := by decide +kernel
theorem d_Store_intern_73 : decode b_Store_intern 73 = .ok (.istore 4, 2) := by decide +kernel
theorem d_Store_intern_75 : decode b_Store_intern 75 = .ok (.aload_n 0, 1) := by decide +kernel
theorem d_Store_intern_76 : decode b_Store_intern 76 = .ok (.getfield 35, 3) := by decide +kernel
theorem d_Store_intern_79 : decode b_Store_intern 79 = .ok (.aload_n 0, 1) := by decide +kernel
theorem d_Store_intern_80 : decode b_Store_intern 80 = .ok (.getfield 92, 3) := by decide +kernel
theorem d_Store_intern_83 : decode b_Store_intern 83 = .ok (.aload_n 0, 1) := by decide +kernel
theorem d_Store_intern_84 : decode b_Store_intern 84 = .ok (.getfield 41, 3) := by decide +kernel
theorem d_Store_intern_87 : decode b_Store_intern 87 = .ok (.iload 4, 2) := by decide +kernel
theorem d_Store_intern_89 : decode b_Store_intern 89 = .ok (.iaload, 1) := by decide +kernel
theorem d_Store_intern_90 : decode b_Store_intern 90 = .ok (.iastore, 1) := by decide +kernel
theorem d_Store_intern_91 : decode b_Store_intern 91 = .ok (.aload_n 0, 1) := by decide +kernel
theorem d_Store_intern_92 : decode b_Store_intern 92 = .ok (.getfield 41, 3) := by decide +kernel
theorem d_Store_intern_95 : decode b_Store_intern 95 = .ok (.iload 4, 2) := by decide +kernel
theorem d_Store_intern_97 : decode b_Store_intern 97 = .ok (.aload_n 0, 1) := by decide +kernel
theorem d_Store_intern_98 : decode b_Store_intern 98 = .ok (.getfield 92, 3) := by decide +kernel
theorem d_Store_intern_101 : decode b_Store_intern 101 = .ok (.iastore, 1) := by decide +kernel
theorem d_Store_intern_102 : decode b_Store_intern 102 = .ok (.aload_n 0, 1) := by decide +kernel
theorem d_Store_intern_103 : decode b_Store_intern 103 = .ok (.dup, 1) := by decide +kernel
theorem d_Store_intern_104 : decode b_Store_intern 104 = .ok (.getfield 92, 3) := by decide +kernel
theorem d_Store_intern_107 : decode b_Store_intern 107 = .ok (.iconst 1, 1) := by decide +kernel
theorem d_Store_intern_108 : decode b_Store_intern 108 = .ok (.iadd, 1) := by decide +kernel
theorem d_Store_intern_109 : decode b_Store_intern 109 = .ok (.putfield 92, 3) := by decide +kernel
theorem d_Store_intern_112 : decode b_Store_intern 112 = .ok (.aload_n 0, 1) := by decide +kernel
theorem d_Store_intern_113 : decode b_Store_intern 113 = .ok (.getfield 92, 3) := by decide +kernel
theorem d_Store_intern_116 : decode b_Store_intern 116 = .ok (.iconst 1, 1) := by decide +kernel
theorem d_Store_intern_117 : decode b_Store_intern 117 = .ok (.isub, 1) := by decide +kernel
theorem d_Store_intern_118 : decode b_Store_intern 118 = .ok (.ireturn, 1) := by decide +kernel
theorem d_Store_keep_0 : decode b_Store_keep 0 = .ok (.aload_n 0, 1) := by decide +kernel
theorem d_Store_keep_1 : decode b_Store_keep 1 = .ok (.getfield 98, 3) := by decide +kernel
theorem d_Store_keep_4 : decode b_Store_keep 4 = .ok (.istore_n 2, 1) := by decide +kernel
theorem d_Store_keep_5 : decode b_Store_keep 5 = .ok (.iconst 0, 1) := by decide +kernel
theorem d_Store_keep_6 : decode b_Store_keep 6 = .ok (.istore_n 3, 1) := by decide +kernel
theorem d_Store_keep_7 : decode b_Store_keep 7 = .ok (.iload_n 3, 1) := by decide +kernel
theorem d_Store_keep_8 : decode b_Store_keep 8 = .ok (.aload_n 1, 1) := by decide +kernel
theorem d_Store_keep_9 : decode b_Store_keep 9 = .ok (.invokevirtual 104, 3) := by decide +kernel
theorem d_Store_keep_12 : decode b_Store_keep 12 = .ok (.if_icmp .ge 18, 3) := by decide +kernel
theorem d_Store_keep_15 : decode b_Store_keep 15 = .ok (.aload_n 0, 1) := by decide +kernel
theorem d_Store_keep_16 : decode b_Store_keep 16 = .ok (.aload_n 1, 1) := by decide +kernel
theorem d_Store_keep_17 : decode b_Store_keep 17 = .ok (.iload_n 3, 1) := by decide +kernel
theorem d_Store_keep_18 : decode b_Store_keep 18 = .ok (.invokevirtual 110, 3) := by decide +kernel
theorem d_Store_keep_21 : decode b_Store_keep 21 = .ok (.invokevirtual 114, 3) := by decide +kernel
theorem d_Store_keep_24 : decode b_Store_keep 24 = .ok (.iinc 3 1, 3) := by decide +kernel
theorem d_Store_keep_27 : decode b_Store_keep 27 = .ok (.goto (-20), 3) := by decide +kernel
theorem d_Store_keep_30 : decode b_Store_keep 30 = .ok (.aload_n 0, 1) := by decide +kernel
theorem d_Store_keep_31 : decode b_Store_keep 31 = .ok (.iload_n 2, 1) := by decide +kernel
theorem d_Store_keep_32 : decode b_Store_keep 32 = .ok (.aload_n 1, 1) := by decide +kernel
theorem d_Store_keep_33 : decode b_Store_keep 33 = .ok (.invokevirtual 104, 3) := by decide +kernel
theorem d_Store_keep_36 : decode b_Store_keep 36 = .ok (.invokevirtual 118, 3) := by decide +kernel
theorem d_Store_keep_39 : decode b_Store_keep 39 = .ok (.pop, 1) := by decide +kernel
theorem d_Store_keep_40 : decode b_Store_keep 40 = .ok (.return_, 1) := by decide +kernel
/-- what keeps a store's methods in their rows: cl characters, ms words, sl buckets at most; top characters and wd words are used -/
def stOk (cl ms sl top wd : Nat) (ff fz fn fd : Nat → Int32) : Prop := top ≤ cl ∧ wd ≤ ms ∧ (∀ w, w < wd → ∃ a n : Nat, ff w = nI a ∧ fz w = nI n ∧ a + n ≤ top) ∧ (∀ w, w < wd → fn w = -1 ∨ ∃ j, j < wd ∧ fn w = nI j) ∧ (∀ h, h < sl → fd h = -1 ∨ ∃ j, j < wd ∧ fd h = nI j)
theorem stOk.mono {cl ms sl top top' wd : Nat} {ff fz fn fd : Nat → Int32} (h : stOk cl ms sl top wd ff fz fn fd) (h1 : top ≤ top') (h2 : top' ≤ cl) : stOk cl ms sl top' wd ff fz fn fd :=
  ⟨h2, h.2.1, fun w hw => by obtain ⟨a, n, x, y, z⟩ := h.2.2.1 w hw; exact ⟨a, n, x, y, by omega⟩, h.2.2.2⟩
theorem and_ix (x : Int32) {sl e : Nat} (he : sl = 2 ^ e) (h : sl < 2 ^ 30) : ∃ j, j < sl ∧ x &&& (nI sl - 1) = nI j := by
  have h0 : 0 < sl := by rw [he]; exact Nat.two_pow_pos e
  have e1 : nI sl - 1 = nI (sl - 1) := by rw [show (1 : Int32) = nI 1 from rfl, pk_sub h0]
  obtain ⟨j, hj, ej⟩ := pk_andE x (m := nI (sl - 1)) e (by rw [pk_tn (by omega), he])
  exact ⟨j, by rw [he]; exact hj, by rw [e1]; exact ej⟩
/-- a word more -/
theorem stOk.add {cl ms sl top wd a n hd : Nat} {ff fz fn fd : Nat → Int32} (h : stOk cl ms sl top wd ff fz fn fd) (hw : wd < ms) (ha : a + n ≤ top) (hh : hd < sl) : stOk cl ms sl top (wd + 1) (upd ff wd (nI a)) (upd fz wd (nI n)) (upd fn wd (fd hd)) (upd fd hd (nI wd)) := by
  obtain ⟨h1, h2, h3, h4, h5⟩ := h
  refine ⟨h1, hw, fun w q => ?_, fun w q => ?_, fun k q => ?_⟩
  · by_cases e : w = wd
    · subst e; exact ⟨a, n, pk_us, pk_us, ha⟩
    · rw [pk_un e, pk_un e]; exact h3 w (by omega)
  · by_cases e : w = wd
    · subst e; rw [pk_us]
      rcases h5 hd hh with z | ⟨j, hj, z⟩
      · exact Or.inl z
      · exact Or.inr ⟨j, by omega, z⟩
    · rw [pk_un e]
      rcases h4 w (by omega) with z | ⟨j, hj, z⟩
      · exact Or.inl z
      · exact Or.inr ⟨j, by omega, z⟩
  · by_cases e : k = hd
    · subst e; rw [pk_us]; exact Or.inr ⟨wd, by omega, rfl⟩
    · rw [pk_un e]
      rcases h5 k q with z | ⟨j, hj, z⟩
      · exact Or.inl z
      · exact Or.inr ⟨j, by omega, z⟩
set_option maxHeartbeats 4000000 in
set_option maxRecDepth 100000 in
/-- Store.add(c): one character more, if there is room -/
theorem c_Store_add (l : Launch) (D : va_G) (tI tB tZ tL : ClassId) (X : (Nat → Prop) → State → Prop) (hX : Ro X) (h0 ac af az ah an ad am : Nat) (v0 v2 v4 v5 v6 v12 so v16 : Int32) (cl top wd : Nat) (fc : Nat → Int32) (c1 : Int32) (hcl : cl < 2 ^ 30) (htop : top ≤ cl) : CtV l D tI tB tZ tL X y_Store_add b_Store_add 2 ({ frames := 0, cells := 0, slots := 0, locals := 0 }) [.ref h0, .int c1] [(h0, .inr (1, [.int v0, .ref ac, .int v2, .int (nI top), .int v4, .int v5, .int v6, .ref af, .ref az, .ref ah, .ref an, .ref ad, .int v12, .int so, .int (nI wd), .ref am, .int v16])), (ac, .inl (tI, cl, .inl fc))] (S := Nat × (Nat → Int32)) (fun u => (top < cl → u.1 = top + 1 ∧ u.2 = upd fc top c1) ∧ (¬ top < cl → u.1 = top ∧ u.2 = fc)) (fun u => [(h0, .inr (1, [.int v0, .ref ac, .int v2, .int (nI u.1), .int v4, .int v5, .int v6, .ref af, .ref az, .ref ah, .ref an, .ref ad, .int v12, .int so, .int (nI wd), .ref am, .int v16])), (ac, .inl (tI, cl, .inl u.2))]) := by
  refine CtV.start hX (by decide) (Nat.le_of_ble_eq_true rfl) ?_
  intro p e s m args below meth c A ls C hr hlk hin hW hl
  refine W.nameQ (fun Q hQ => ?_)
  have hx := C.1.1
  have hb := C.1.2.1
  have hown := C.1.2.2.2.1
  have hT := C.1.2.2.2.2
  have hl : lv_has ls 2 [(0, .ref h0), (1, .int c1)] := hl
  refine lv_aload_n hx hb d_Store_add_0 rfl (lv_at hl 0 rfl) ?_
  refine r_get C hW 0 rfl k_Store i_Store 3 (by decide) rfl w_155 d_Store_add_1 ?_
  refine lv_aload_n hx hb d_Store_add_4 rfl (lv_at hl 0 rfl) ?_
  refine r_get C hW 0 rfl k_Store i_Store 1 (by decide) rfl w_147 d_Store_add_5 ?_
  refine r_len C hW 1 0 rfl rfl d_Store_add_8 ?_
  refine lv_icmp_ge (tgt := 32) hx hb d_Store_add_9 (by decide) (fun c_9 => ?_) (fun c_9 => ?_)
  · have hk : ¬ top < cl := Nat.not_lt.mpr (k_le c_9 (by omega) (by omega))
    rw [hQ]
    exact r_vret C hr hlk hW (top, fc) ⟨fun q => absurd q hk, fun _ => ⟨rfl, rfl⟩⟩ [0, 1] (by decide) rfl d_Store_add_32 (by decide) (by decide)
  · have hk : top < cl := k_nle c_9 (by omega) (by omega)
    refine lv_aload_n hx hb d_Store_add_12 rfl (lv_at hl 0 rfl) ?_
    refine r_get C hW 0 rfl k_Store i_Store 1 (by decide) rfl w_147 d_Store_add_13 ?_
    refine lv_aload_n hx hb d_Store_add_16 rfl (lv_at hl 0 rfl) ?_
    refine r_get C hW 0 rfl k_Store i_Store 3 (by decide) rfl w_155 d_Store_add_17 ?_
    refine lv_iload_n hx hb d_Store_add_20 rfl (lv_at hl 1 rfl) ?_
    refine r_stI C hW 1 rfl top rfl (by omega) (by omega) d_Store_add_21 (fun H locs hW => ?_)
    have hW : Wd D A s [(h0, .inr (1, [.int v0, .ref ac, .int v2, .int (nI top), .int v4, .int v5, .int v6, .ref af, .ref az, .ref ah, .ref an, .ref ad, .int v12, .int so, .int (nI wd), .ref am, .int v16])), (ac, .inl (tI, cl, .inl (upd fc top c1)))] H _ := hW
    refine lv_aload_n hx hb d_Store_add_22 rfl (lv_at hl 0 rfl) ?_
    refine lv_dup hx hb d_Store_add_23 rfl ?_
    refine r_get C hW 0 rfl k_Store i_Store 3 (by decide) rfl w_155 d_Store_add_24 ?_
    refine lv_iconst (v := 1) hx hb d_Store_add_27 (by decide) ?_
    refine lv_iadd hx hb d_Store_add_28 ?_
    refine W.eq (congrArg (fun z : Int32 => F0 m 29 ls (.int z :: [.ref h0])) (show ((nI top) + 1) = nI (top + 1) from (nI_1 top))) ?_
    refine r_put (v := .int (nI (top + 1))) (ty := .int) C hW 0 rfl k_Store i_Store t_Store o_Store n_Store 3 (by decide) w_155 rfl (by decide +kernel) rfl rfl (Nat.le_of_ble_eq_true rfl) d_Store_add_29 (fun H locs hW => ?_)
    have hW : Wd D A s [(h0, .inr (1, [.int v0, .ref ac, .int v2, .int (nI (top + 1)), .int v4, .int v5, .int v6, .ref af, .ref az, .ref ah, .ref an, .ref ad, .int v12, .int so, .int (nI wd), .ref am, .int v16])), (ac, .inl (tI, cl, .inl (upd fc top c1)))] H _ := hW
    rw [hQ]
    exact r_vret C hr hlk hW (top + 1, upd fc top c1) ⟨fun _ => ⟨rfl, rfl⟩, fun q => absurd hk q⟩ [0, 1] (by decide) rfl d_Store_add_32 (by decide) (by decide)
set_option maxHeartbeats 4000000 in
set_option maxRecDepth 100000 in
/-- Store.find(at, n): -1, or a word that is there (which one isn't said here) -/
theorem c_Store_find (l : Launch) (D : va_G) (tI tB tZ tL : ClassId) (X : (Nat → Prop) → State → Prop) (hX : Ro X) (h0 ac af az ah an ad am : Nat) (v0 v2 v4 v5 v6 v12 so v16 : Int32) (cl ms sl ee top wd : Nat) (fc ff fz fh fn fd : Nat → Int32) (hcl : cl < 2 ^ 29) (hms : ms < 2 ^ 29) (hsl : sl = 2 ^ ee) (hs30 : sl < 2 ^ 30) (hst : stOk cl ms sl top wd ff fz fn fd) (st len : Nat) (hat : st + len ≤ top) : CtI l D tI tB tZ tL X y_Store_find b_Store_find 8 .int ({ frames := 0, cells := 0, slots := 0, locals := 0 }) [.ref h0, .int (nI st), .int (nI len)] [(h0, .inr (1, [.int v0, .ref ac, .int v2, .int (nI top), .int v4, .int v5, .int v6, .ref af, .ref az, .ref ah, .ref an, .ref ad, .int v12, .int so, .int (nI wd), .ref am, .int v16])), (ac, .inl (tI, cl, .inl fc)), (af, .inl (tI, ms, .inl ff)), (az, .inl (tI, ms, .inl fz)), (ah, .inl (tI, ms, .inl fh)), (an, .inl (tI, ms, .inl fn)), (ad, .inl (tI, sl, .inl fd))] (S := Int32) (fun (r : Int32) (_ : Int32) => r = -1 ∨ ∃ j, j < wd ∧ r = nI j) (fun u => [(h0, .inr (1, [.int v0, .ref ac, .int v2, .int (nI top), .int v4, .int v5, .int v6, .ref af, .ref az, .ref ah, .ref an, .ref ad, .int v12, .int u, .int (nI wd), .ref am, .int v16])), (ac, .inl (tI, cl, .inl fc)), (af, .inl (tI, ms, .inl ff)), (az, .inl (tI, ms, .inl fz)), (ah, .inl (tI, ms, .inl fh)), (an, .inl (tI, ms, .inl fn)), (ad, .inl (tI, sl, .inl fd))]) := by
  refine CtI.start hX (by decide) (Nat.le_of_ble_eq_true rfl) ?_
  intro p e s m args below meth c A ls C hr hlk hW hl
  refine W.nameQ (fun Q hQ => ?_)
  have hx := C.1.1
  have hb := C.1.2.1
  have hown := C.1.2.2.2.1
  have hT := C.1.2.2.2.2
  have hl : lv_has ls 8 [(0, .ref h0), (1, .int (nI st)), (2, .int (nI len))] := hl
  have htc := hst.1
  have hwm := hst.2.1
  refine lv_iload_n hx hb d_Store_find_0 rfl (lv_at hl 2 rfl) ?_
  refine lv_istore_n (lv' := [(3, .int (nI len)), (0, .ref h0), (1, .int (nI st)), (2, .int (nI len))]) hx hb d_Store_find_1 rfl hl (by decide) rfl (fun ls hl => ?_)
  refine lv_iload_n hx hb d_Store_find_2 rfl (lv_at hl 2 rfl) ?_
  refine lv_istore (lv' := [(4, .int (nI st)), (3, .int (nI len)), (0, .ref h0), (1, .int (nI st)), (2, .int (nI len))]) hx hb d_Store_find_3 hl (by decide) rfl (fun ls hl => ?_)
  have loop1 : ∀ (fu_loop1 : Nat) (k : Nat) (h : Int32) (H : Heap) (locs : List Loc) (ls : Array Slot), st + len + 1 ≤ k + fu_loop1 → (st ≤ k) → (k ≤ st + len) → Wd D A s [(h0, .inr (1, [.int v0, .ref ac, .int v2, .int (nI top), .int v4, .int v5, .int v6, .ref af, .ref az, .ref ah, .ref an, .ref ad, .int v12, .int so, .int (nI wd), .ref am, .int v16])), (ac, .inl (tI, cl, .inl fc)), (af, .inl (tI, ms, .inl ff)), (az, .inl (tI, ms, .inl fz)), (ah, .inl (tI, ms, .inl fh)), (an, .inl (tI, ms, .inl fn)), (ad, .inl (tI, sl, .inl fd))] H locs → lv_has ls 8 [(4, .int (nI k)), (3, .int h), (1, .int (nI st)), (2, .int (nI len)), (0, .ref h0)] → W p l e ({ frames := 0, cells := 0, slots := 0, locals := 0 }) s m args below meth c H locs 0 0 Q (F0 m 5 ls []) := by
    intro fu_loop1
    induction fu_loop1 with
    | zero => intro k h H locs ls hn hk hk2 hW hl; exact absurd hn (by omega)
    | succ fu_loop1 ih_loop1 =>
      intro k h H locs ls hn hk hk2 hW hl
      refine lv_iload hx hb d_Store_find_5 (lv_at hl 0 rfl) ?_
      refine lv_iload_n hx hb d_Store_find_7 rfl (lv_at hl 2 rfl) ?_
      refine lv_iload_n hx hb d_Store_find_8 rfl (lv_at hl 3 rfl) ?_
      refine lv_iadd hx hb d_Store_find_9 ?_
      refine W.eq (congrArg (fun z : Int32 => F0 m 10 ls (.int z :: [.int (nI k)])) (show ((nI st) + (nI len)) = nI (st + len) from (nI_add _ _))) ?_
      refine lv_icmp_ge (tgt := 32) hx hb d_Store_find_10 (by decide) (fun c_10 => ?_) (fun c_10 => ?_)
      · refine lv_aload_n hx hb d_Store_find_32 rfl (lv_at hl 4 rfl) ?_
        refine lv_iload_n hx hb d_Store_find_33 rfl (lv_at hl 1 rfl) ?_
        refine lv_iload_n hx hb d_Store_find_34 rfl (lv_at hl 1 rfl) ?_
        refine lv_bipush (v := 15) hx hb d_Store_find_35 (by decide) ?_
        refine lv_iushr hx hb d_Store_find_37 rfl ?_
        refine lv_ixor hx hb d_Store_find_38 ?_
        refine lv_topi (fun so1 eso1 => ?_)
        refine r_put (v := .int so1) (ty := .int) C hW 0 rfl k_Store i_Store t_Store o_Store n_Store 13 (by decide) w_177 rfl (by decide +kernel) rfl rfl (Nat.le_of_ble_eq_true rfl) d_Store_find_39 (fun H locs hW => ?_)
        have hW : Wd D A s [(h0, .inr (1, [.int v0, .ref ac, .int v2, .int (nI top), .int v4, .int v5, .int v6, .ref af, .ref az, .ref ah, .ref an, .ref ad, .int v12, .int so1, .int (nI wd), .ref am, .int v16])), (ac, .inl (tI, cl, .inl fc)), (af, .inl (tI, ms, .inl ff)), (az, .inl (tI, ms, .inl fz)), (ah, .inl (tI, ms, .inl fh)), (an, .inl (tI, ms, .inl fn)), (ad, .inl (tI, sl, .inl fd))] H _ := hW
        refine lv_aload_n hx hb d_Store_find_42 rfl (lv_at hl 4 rfl) ?_
        refine r_get C hW 0 rfl k_Store i_Store 11 (by decide) rfl w_175 d_Store_find_43 ?_
        refine lv_aload_n hx hb d_Store_find_46 rfl (lv_at hl 4 rfl) ?_
        refine r_get C hW 0 rfl k_Store i_Store 13 (by decide) rfl w_177 d_Store_find_47 ?_
        refine lv_aload_n hx hb d_Store_find_50 rfl (lv_at hl 4 rfl) ?_
        refine r_get C hW 0 rfl k_Store i_Store 11 (by decide) rfl w_175 d_Store_find_51 ?_
        refine r_len C hW 6 0 rfl rfl d_Store_find_54 ?_
        refine lv_iconst (v := 1) hx hb d_Store_find_55 (by decide) ?_
        refine lv_isub hx hb d_Store_find_56 ?_
        obtain ⟨hd, hhd, ehd⟩ := and_ix so1 hsl hs30
        refine lv_iand hx hb d_Store_find_57 ?_
        refine W.eq (congrArg (fun z : Int32 => F0 m 58 ls (.int z :: [.ref ad])) (show (so1 &&& ((nI sl) - 1)) = nI hd from ehd)) ?_
        refine r_ldI C hW 6 rfl hd rfl (by omega) (by omega) d_Store_find_58 ?_
        refine lv_istore (lv' := [(4, .int (fd hd)), (3, .int h), (1, .int (nI st)), (2, .int (nI len)), (0, .ref h0)]) hx hb d_Store_find_59 hl (by decide) rfl (fun ls hl => ?_)
        refine lv_iconst (v := 0) hx hb d_Store_find_61 (by decide) ?_
        refine lv_istore (lv' := [(5, .int 0), (4, .int (fd hd)), (3, .int h), (1, .int (nI st)), (2, .int (nI len)), (0, .ref h0)]) hx hb d_Store_find_62 hl (by decide) rfl (fun ls hl => ?_)
        have loop2 : ∀ (fu_loop2 : Nat) (t : Nat) (wv : Int32) (H : Heap) (locs : List Loc) (ls : Array Slot), wd + 1 ≤ t + fu_loop2 → (wv = -1 ∨ ∃ j, j < wd ∧ wv = nI j) → (t ≤ wd) → Wd D A s [(h0, .inr (1, [.int v0, .ref ac, .int v2, .int (nI top), .int v4, .int v5, .int v6, .ref af, .ref az, .ref ah, .ref an, .ref ad, .int v12, .int so1, .int (nI wd), .ref am, .int v16])), (ac, .inl (tI, cl, .inl fc)), (af, .inl (tI, ms, .inl ff)), (az, .inl (tI, ms, .inl fz)), (ah, .inl (tI, ms, .inl fh)), (an, .inl (tI, ms, .inl fn)), (ad, .inl (tI, sl, .inl fd))] H locs → lv_has ls 8 [(5, .int (nI t)), (4, .int wv), (1, .int (nI st)), (2, .int (nI len)), (0, .ref h0)] → W p l e ({ frames := 0, cells := 0, slots := 0, locals := 0 }) s m args below meth c H locs 0 0 Q (F0 m 64 ls []) := by
          intro fu_loop2
          induction fu_loop2 with
          | zero => intro t wv H locs ls hn hwv ht hW hl; exact absurd hn (by omega)
          | succ fu_loop2 ih_loop2 =>
            intro t wv H locs ls hn hwv ht hW hl
            refine lv_iload hx hb d_Store_find_64 (lv_at hl 0 rfl) ?_
            refine lv_aload_n hx hb d_Store_find_66 rfl (lv_at hl 4 rfl) ?_
            refine r_get C hW 0 rfl k_Store i_Store 14 (by decide) rfl w_178 d_Store_find_67 ?_
            refine lv_icmp_ge (tgt := 187) hx hb d_Store_find_70 (by decide) (fun c_70 => ?_) (fun c_70 => ?_)
            · refine lv_iconst (v := (-1)) hx hb d_Store_find_187 (by decide) ?_
              rw [hQ]
              exact r_iret C hr hlk hW rfl so1 (Or.inl rfl) [0, 1, 2, 3, 4, 5, 6] (by decide) rfl d_Store_find_188 (by decide) (by decide)
            · refine lv_iload hx hb d_Store_find_73 (lv_at hl 1 rfl) ?_
              refine lv_iconst (v := (-1)) hx hb d_Store_find_75 (by decide) ?_
              refine lv_icmp_eq (tgt := 187) hx hb d_Store_find_76 (by decide) (fun c_76 => ?_) (fun c_76 => ?_)
              · refine lv_iconst (v := (-1)) hx hb d_Store_find_187 (by decide) ?_
                rw [hQ]
                exact r_iret C hr hlk hW rfl so1 (Or.inl rfl) [0, 1, 2, 3, 4, 5, 6] (by decide) rfl d_Store_find_188 (by decide) (by decide)
              · obtain ⟨j, hj, ej⟩ : ∃ j, j < wd ∧ wv = nI j := hwv.resolve_left c_76
                subst ej
                have hjm : j < ms := Nat.lt_of_lt_of_le hj hst.2.1
                have ht2 : t < wd := k_nle c_70 (by omega) (by omega)
                have j109 : ∀ z : Int32, (z = -1 ∨ (z = 0 ∧ fz j = nI len)) → W p l e ({ frames := 0, cells := 0, slots := 0, locals := 0 }) s m args below meth c H locs 0 0 Q (F0 m 109 ls (.int z :: [])) := by
                  intro z hz
                  refine lv_istore (lv' := [(6, .int z), (5, .int (nI t)), (4, .int (nI j)), (1, .int (nI st)), (2, .int (nI len)), (0, .ref h0)]) hx hb d_Store_find_109 hl (by decide) rfl (fun ls hl => ?_)
                  refine lv_iconst (v := 0) hx hb d_Store_find_111 (by decide) ?_
                  refine lv_istore (lv' := [(7, .int 0), (6, .int z), (5, .int (nI t)), (4, .int (nI j)), (1, .int (nI st)), (2, .int (nI len)), (0, .ref h0)]) hx hb d_Store_find_112 hl (by decide) rfl (fun ls hl => ?_)
                  have loop3 : ∀ (fu_loop3 : Nat) (i : Nat) (sm : Int32) (H : Heap) (locs : List Loc) (ls : Array Slot), len + 1 ≤ i + fu_loop3 → (i ≤ len) → ((sm = -1 ∧ i = 0) ∨ (sm = nI i ∧ fz j = nI len)) → Wd D A s [(h0, .inr (1, [.int v0, .ref ac, .int v2, .int (nI top), .int v4, .int v5, .int v6, .ref af, .ref az, .ref ah, .ref an, .ref ad, .int v12, .int so1, .int (nI wd), .ref am, .int v16])), (ac, .inl (tI, cl, .inl fc)), (af, .inl (tI, ms, .inl ff)), (az, .inl (tI, ms, .inl fz)), (ah, .inl (tI, ms, .inl fh)), (an, .inl (tI, ms, .inl fn)), (ad, .inl (tI, sl, .inl fd))] H locs → lv_has ls 8 [(7, .int (nI i)), (6, .int sm), (5, .int (nI t)), (4, .int (nI j)), (1, .int (nI st)), (2, .int (nI len)), (0, .ref h0)] → W p l e ({ frames := 0, cells := 0, slots := 0, locals := 0 }) s m args below meth c H locs 0 0 Q (F0 m 114 ls []) := by
                    intro fu_loop3
                    induction fu_loop3 with
                    | zero => intro i sm H locs ls hn hi hsm hW hl; exact absurd hn (by omega)
                    | succ fu_loop3 ih_loop3 =>
                      intro i sm H locs ls hn hi hsm hW hl
                      refine lv_iload hx hb d_Store_find_114 (lv_at hl 0 rfl) ?_
                      refine lv_iload_n hx hb d_Store_find_116 rfl (lv_at hl 5 rfl) ?_
                      refine lv_icmp_ge (tgt := 163) hx hb d_Store_find_117 (by decide) (fun c_117 => ?_) (fun c_117 => ?_)
                      · refine lv_iload hx hb d_Store_find_163 (lv_at hl 1 rfl) ?_
                        refine lv_iload_n hx hb d_Store_find_165 rfl (lv_at hl 5 rfl) ?_
                        refine lv_icmp_ne (tgt := 172) hx hb d_Store_find_166 (by decide) (fun c_166 => ?_) (fun c_166 => ?_)
                        · refine lv_aload_n hx hb d_Store_find_172 rfl (lv_at hl 6 rfl) ?_
                          refine r_get C hW 0 rfl k_Store i_Store 10 (by decide) rfl w_174 d_Store_find_173 ?_
                          refine lv_iload hx hb d_Store_find_176 (lv_at hl 3 rfl) ?_
                          refine r_ldI C hW 5 rfl j rfl (by omega) (by omega) d_Store_find_178 ?_
                          refine lv_istore (lv' := [(4, .int (fn j)), (7, .int (nI i)), (6, .int sm), (5, .int (nI t)), (1, .int (nI st)), (2, .int (nI len)), (0, .ref h0)]) hx hb d_Store_find_179 hl (by decide) rfl (fun ls hl => ?_)
                          refine lv_iinc (v := (nI (t + 1))) (lv' := [(5, .int (nI (t + 1))), (4, .int (fn j)), (7, .int (nI i)), (6, .int sm), (1, .int (nI st)), (2, .int (nI len)), (0, .ref h0)]) hx hb d_Store_find_181 hl (k := 3) rfl (nI_1 t) (by decide) rfl (fun ls hl => ?_)
                          refine lv_goto (tgt := 64) hx hb d_Store_find_184 (by decide) ?_
                          exact ih_loop2 (t + 1) (fn j) H locs ls (by omega) (hst.2.2.2.1 j hj) (by omega) (hW.sub [0, 1, 2, 3, 4, 5, 6] (by decide) rfl) (lv_sub hl [0, 1, 4, 5, 6] rfl)
                        · refine lv_iload hx hb d_Store_find_169 (lv_at hl 3 rfl) ?_
                          rw [hQ]
                          exact r_iret C hr hlk hW rfl so1 (Or.inr ⟨j, hj, rfl⟩) [0, 1, 2, 3, 4, 5, 6] (by decide) rfl d_Store_find_171 (by decide) (by decide)
                      · have hi2 : i < len := k_nle c_117 (by omega) (by omega)
                        refine lv_iload hx hb d_Store_find_120 (lv_at hl 1 rfl) ?_
                        refine lv_iload hx hb d_Store_find_122 (lv_at hl 0 rfl) ?_
                        refine lv_icmp_ne (tgt := 163) hx hb d_Store_find_124 (by decide) (fun c_124 => ?_) (fun c_124 => ?_)
                        · refine lv_iload hx hb d_Store_find_163 (lv_at hl 1 rfl) ?_
                          refine lv_iload_n hx hb d_Store_find_165 rfl (lv_at hl 5 rfl) ?_
                          refine lv_icmp_ne (tgt := 172) hx hb d_Store_find_166 (by decide) (fun c_166 => ?_) (fun c_166 => ?_)
                          · refine lv_aload_n hx hb d_Store_find_172 rfl (lv_at hl 6 rfl) ?_
                            refine r_get C hW 0 rfl k_Store i_Store 10 (by decide) rfl w_174 d_Store_find_173 ?_
                            refine lv_iload hx hb d_Store_find_176 (lv_at hl 3 rfl) ?_
                            refine r_ldI C hW 5 rfl j rfl (by omega) (by omega) d_Store_find_178 ?_
                            refine lv_istore (lv' := [(4, .int (fn j)), (7, .int (nI i)), (6, .int sm), (5, .int (nI t)), (1, .int (nI st)), (2, .int (nI len)), (0, .ref h0)]) hx hb d_Store_find_179 hl (by decide) rfl (fun ls hl => ?_)
                            refine lv_iinc (v := (nI (t + 1))) (lv' := [(5, .int (nI (t + 1))), (4, .int (fn j)), (7, .int (nI i)), (6, .int sm), (1, .int (nI st)), (2, .int (nI len)), (0, .ref h0)]) hx hb d_Store_find_181 hl (k := 3) rfl (nI_1 t) (by decide) rfl (fun ls hl => ?_)
                            refine lv_goto (tgt := 64) hx hb d_Store_find_184 (by decide) ?_
                            exact ih_loop2 (t + 1) (fn j) H locs ls (by omega) (hst.2.2.2.1 j hj) (by omega) (hW.sub [0, 1, 2, 3, 4, 5, 6] (by decide) rfl) (lv_sub hl [0, 1, 4, 5, 6] rfl)
                          · refine lv_iload hx hb d_Store_find_169 (lv_at hl 3 rfl) ?_
                            rw [hQ]
                            exact r_iret C hr hlk hW rfl so1 (Or.inr ⟨j, hj, rfl⟩) [0, 1, 2, 3, 4, 5, 6] (by decide) rfl d_Store_find_171 (by decide) (by decide)
                        · have e2 : fz j = nI len := by
                            rcases hsm with q | q
                            · rw [q.1, q.2] at c_124; exact absurd c_124 (by decide)
                            · exact q.2
                          subst c_124
                          obtain ⟨a, n2, ea, en, han⟩ := hst.2.2.1 j hj
                          have e3 : n2 = len := by
                            rw [e2] at en; exact (k_eq en (by omega) (by omega)).symm
                          rw [e3] at han
                          refine lv_aload_n hx hb d_Store_find_127 rfl (lv_at hl 6 rfl) ?_
                          refine r_get C hW 0 rfl k_Store i_Store 1 (by decide) rfl w_147 d_Store_find_128 ?_
                          refine lv_aload_n hx hb d_Store_find_131 rfl (lv_at hl 6 rfl) ?_
                          refine r_get C hW 0 rfl k_Store i_Store 7 (by decide) rfl w_166 d_Store_find_132 ?_
                          refine lv_iload hx hb d_Store_find_135 (lv_at hl 3 rfl) ?_
                          refine r_ldI C hW 2 rfl j rfl (by omega) (by omega) d_Store_find_137 ?_
                          refine lv_iload hx hb d_Store_find_138 (lv_at hl 0 rfl) ?_
                          refine lv_iadd hx hb d_Store_find_140 ?_
                          refine W.eq (congrArg (fun z : Int32 => F0 m 141 ls (.int z :: [.ref ac])) (show ((ff j) + (nI i)) = nI (a + i) from (by rw [ea, nI_add]))) ?_
                          refine r_ldI C hW 1 rfl (a + i) rfl (by omega) (by omega) d_Store_find_141 ?_
                          refine lv_aload_n hx hb d_Store_find_142 rfl (lv_at hl 6 rfl) ?_
                          refine r_get C hW 0 rfl k_Store i_Store 1 (by decide) rfl w_147 d_Store_find_143 ?_
                          refine lv_iload_n hx hb d_Store_find_146 rfl (lv_at hl 4 rfl) ?_
                          refine lv_iload hx hb d_Store_find_147 (lv_at hl 0 rfl) ?_
                          refine lv_iadd hx hb d_Store_find_149 ?_
                          refine W.eq (congrArg (fun z : Int32 => F0 m 150 ls (.int z :: [.ref ac, .int (fc (a + i))])) (show ((nI st) + (nI i)) = nI (st + i) from (nI_add _ _))) ?_
                          refine r_ldI C hW 1 rfl (st + i) rfl (by omega) (by omega) d_Store_find_150 ?_
                          refine lv_icmp_ne (tgt := 163) hx hb d_Store_find_151 (by decide) (fun c_151 => ?_) (fun c_151 => ?_)
                          · refine lv_iload hx hb d_Store_find_163 (lv_at hl 1 rfl) ?_
                            refine lv_iload_n hx hb d_Store_find_165 rfl (lv_at hl 5 rfl) ?_
                            refine lv_icmp_ne (tgt := 172) hx hb d_Store_find_166 (by decide) (fun c_166 => ?_) (fun c_166 => ?_)
                            · refine lv_aload_n hx hb d_Store_find_172 rfl (lv_at hl 6 rfl) ?_
                              refine r_get C hW 0 rfl k_Store i_Store 10 (by decide) rfl w_174 d_Store_find_173 ?_
                              refine lv_iload hx hb d_Store_find_176 (lv_at hl 3 rfl) ?_
                              refine r_ldI C hW 5 rfl j rfl (by omega) (by omega) d_Store_find_178 ?_
                              refine lv_istore (lv' := [(4, .int (fn j)), (7, .int (nI i)), (6, .int (nI i)), (5, .int (nI t)), (1, .int (nI st)), (2, .int (nI len)), (0, .ref h0)]) hx hb d_Store_find_179 hl (by decide) rfl (fun ls hl => ?_)
                              refine lv_iinc (v := (nI (t + 1))) (lv' := [(5, .int (nI (t + 1))), (4, .int (fn j)), (7, .int (nI i)), (6, .int (nI i)), (1, .int (nI st)), (2, .int (nI len)), (0, .ref h0)]) hx hb d_Store_find_181 hl (k := 3) rfl (nI_1 t) (by decide) rfl (fun ls hl => ?_)
                              refine lv_goto (tgt := 64) hx hb d_Store_find_184 (by decide) ?_
                              exact ih_loop2 (t + 1) (fn j) H locs ls (by omega) (hst.2.2.2.1 j hj) (by omega) (hW.sub [0, 1, 2, 3, 4, 5, 6] (by decide) rfl) (lv_sub hl [0, 1, 4, 5, 6] rfl)
                            · refine lv_iload hx hb d_Store_find_169 (lv_at hl 3 rfl) ?_
                              rw [hQ]
                              exact r_iret C hr hlk hW rfl so1 (Or.inr ⟨j, hj, rfl⟩) [0, 1, 2, 3, 4, 5, 6] (by decide) rfl d_Store_find_171 (by decide) (by decide)
                          · refine lv_iinc (v := (nI (i + 1))) (lv' := [(6, .int (nI (i + 1))), (7, .int (nI i)), (5, .int (nI t)), (4, .int (nI j)), (1, .int (nI st)), (2, .int (nI len)), (0, .ref h0)]) hx hb d_Store_find_154 hl (k := 1) rfl (nI_1 i) (by decide) rfl (fun ls hl => ?_)
                            refine lv_iinc (v := (nI (i + 1))) (lv' := [(7, .int (nI (i + 1))), (6, .int (nI (i + 1))), (5, .int (nI t)), (4, .int (nI j)), (1, .int (nI st)), (2, .int (nI len)), (0, .ref h0)]) hx hb d_Store_find_157 hl (k := 1) rfl (nI_1 i) (by decide) rfl (fun ls hl => ?_)
                            refine lv_goto (tgt := 114) hx hb d_Store_find_160 (by decide) ?_
                            exact ih_loop3 (i + 1) (nI (i + 1)) H locs ls (by omega) (by omega) (Or.inr ⟨rfl, e2⟩) (hW.sub [0, 1, 2, 3, 4, 5, 6] (by decide) rfl) (lv_sub hl [0, 1, 2, 3, 4, 5, 6] rfl)
                  exact loop3 (len + 1) 0 z _ _ _ (by omega) (by omega) (hz.imp (fun q => ⟨q, rfl⟩) (fun q => q)) (hW.sub [0, 1, 2, 3, 4, 5, 6] (by decide) rfl) (lv_sub hl [0, 1, 2, 3, 4, 5, 6] rfl)
                refine lv_aload_n hx hb d_Store_find_79 rfl (lv_at hl 4 rfl) ?_
                refine r_get C hW 0 rfl k_Store i_Store 9 (by decide) rfl w_173 d_Store_find_80 ?_
                refine lv_iload hx hb d_Store_find_83 (lv_at hl 1 rfl) ?_
                refine r_ldI C hW 4 rfl j rfl (by omega) (by omega) d_Store_find_85 ?_
                refine lv_aload_n hx hb d_Store_find_86 rfl (lv_at hl 4 rfl) ?_
                refine r_get C hW 0 rfl k_Store i_Store 13 (by decide) rfl w_177 d_Store_find_87 ?_
                refine lv_icmp_ne (tgt := 108) hx hb d_Store_find_90 (by decide) (fun c_90 => ?_) (fun c_90 => ?_)
                · refine lv_iconst (v := (-1)) hx hb d_Store_find_108 (by decide) ?_
                  exact j109 _ (by first | exact Or.inr ⟨rfl, c_101⟩ | exact Or.inl rfl)
                · refine lv_aload_n hx hb d_Store_find_93 rfl (lv_at hl 4 rfl) ?_
                  refine r_get C hW 0 rfl k_Store i_Store 8 (by decide) rfl w_169 d_Store_find_94 ?_
                  refine lv_iload hx hb d_Store_find_97 (lv_at hl 1 rfl) ?_
                  refine r_ldI C hW 3 rfl j rfl (by omega) (by omega) d_Store_find_99 ?_
                  refine lv_iload_n hx hb d_Store_find_100 rfl (lv_at hl 3 rfl) ?_
                  refine lv_icmp_ne (tgt := 108) hx hb d_Store_find_101 (by decide) (fun c_101 => ?_) (fun c_101 => ?_)
                  · refine lv_iconst (v := (-1)) hx hb d_Store_find_108 (by decide) ?_
                    exact j109 _ (by first | exact Or.inr ⟨rfl, c_101⟩ | exact Or.inl rfl)
                  · refine lv_iconst (v := 0) hx hb d_Store_find_104 (by decide) ?_
                    refine lv_goto (tgt := 109) hx hb d_Store_find_105 (by decide) ?_
                    exact j109 _ (by first | exact Or.inr ⟨rfl, c_101⟩ | exact Or.inl rfl)
        exact loop2 (wd + 1) 0 (fd hd) _ _ _ (by omega) (hst.2.2.2.2 hd hhd) (by omega) (hW.sub [0, 1, 2, 3, 4, 5, 6] (by decide) rfl) (lv_sub hl [0, 1, 3, 4, 5] rfl)
      · have hk3 : k < st + len := k_nle c_10 (by omega) (by omega)
        refine lv_iload_n hx hb d_Store_find_13 rfl (lv_at hl 1 rfl) ?_
        refine lv_bipush (v := 31) hx hb d_Store_find_14 (by decide) ?_
        refine lv_imul hx hb d_Store_find_16 ?_
        refine lv_aload_n hx hb d_Store_find_17 rfl (lv_at hl 4 rfl) ?_
        refine r_get C hW 0 rfl k_Store i_Store 1 (by decide) rfl w_147 d_Store_find_18 ?_
        refine lv_iload hx hb d_Store_find_21 (lv_at hl 0 rfl) ?_
        refine r_ldI C hW 1 rfl k rfl (by omega) (by omega) d_Store_find_23 ?_
        refine lv_iadd hx hb d_Store_find_24 ?_
        refine lv_topi (fun h2 eh2 => ?_)
        refine lv_istore_n (lv' := [(3, .int h2), (4, .int (nI k)), (1, .int (nI st)), (2, .int (nI len)), (0, .ref h0)]) hx hb d_Store_find_25 rfl hl (by decide) rfl (fun ls hl => ?_)
        refine lv_iinc (v := (nI (k + 1))) (lv' := [(4, .int (nI (k + 1))), (3, .int h2), (1, .int (nI st)), (2, .int (nI len)), (0, .ref h0)]) hx hb d_Store_find_26 hl (k := 1) rfl (nI_1 k) (by decide) rfl (fun ls hl => ?_)
        refine lv_goto (tgt := 5) hx hb d_Store_find_29 (by decide) ?_
        exact ih_loop1 (k + 1) h2 H locs ls (by omega) (by omega) (by omega) (hW.sub [0, 1, 2, 3, 4, 5, 6] (by decide) rfl) (lv_sub hl [0, 1, 2, 3, 4] rfl)
  exact loop1 (st + len + 1) st (nI len) _ _ _ (by omega) (Nat.le_refl _) (by omega) (hW.sub [0, 1, 2, 3, 4, 5, 6] (by decide) rfl) (lv_sub hl [0, 1, 3, 4, 2] rfl)
set_option maxHeartbeats 4000000 in
set_option maxRecDepth 100000 in
/-- Store.intern(at, n): a word that is there behind it -/
theorem c_Store_intern (l : Launch) (D : va_G) (tI tB tZ tL : ClassId) (X : (Nat → Prop) → State → Prop) (hX : Ro X) (h0 ac af az ah an ad am : Nat) (v0 v2 v4 v5 v6 v12 so v16 : Int32) (cl ms sl ee top wd : Nat) (fc ff fz fh fn fd : Nat → Int32) (hcl : cl < 2 ^ 29) (hms : ms < 2 ^ 29) (hsl : sl = 2 ^ ee) (hs30 : sl < 2 ^ 30) (hst : stOk cl ms sl top wd ff fz fn fd) (st len : Nat) (hat : st + len ≤ top) : CtI l D tI tB tZ tL X y_Store_intern b_Store_intern 5 .int ({ frames := 1, cells := 0, slots := 0, locals := 27 }) [.ref h0, .int (nI st), .int (nI len)] [(h0, .inr (1, [.int v0, .ref ac, .int v2, .int (nI top), .int v4, .int v5, .int v6, .ref af, .ref az, .ref ah, .ref an, .ref ad, .int v12, .int so, .int (nI wd), .ref am, .int v16])), (ac, .inl (tI, cl, .inl fc)), (af, .inl (tI, ms, .inl ff)), (az, .inl (tI, ms, .inl fz)), (ah, .inl (tI, ms, .inl fh)), (an, .inl (tI, ms, .inl fn)), (ad, .inl (tI, sl, .inl fd))] (S := Int32 × Nat × (Nat → Nat → Int32)) (fun (r : Int32) (u : Int32 × Nat × (Nat → Nat → Int32)) => stOk cl ms sl top u.2.1 (u.2.2 0) (u.2.2 1) (u.2.2 3) (u.2.2 4) ∧ wd ≤ u.2.1 ∧ u.2.1 ≤ wd + 1 ∧ ∃ j, r = nI j ∧ (j < u.2.1 ∨ j = 0)) (fun u => [(h0, .inr (1, [.int v0, .ref ac, .int v2, .int (nI top), .int v4, .int v5, .int v6, .ref af, .ref az, .ref ah, .ref an, .ref ad, .int v12, .int u.1, .int (nI u.2.1), .ref am, .int v16])), (ac, .inl (tI, cl, .inl fc)), (af, .inl (tI, ms, .inl (u.2.2 0))), (az, .inl (tI, ms, .inl (u.2.2 1))), (ah, .inl (tI, ms, .inl (u.2.2 2))), (an, .inl (tI, ms, .inl (u.2.2 3))), (ad, .inl (tI, sl, .inl (u.2.2 4)))]) := by
  refine CtI.start hX (by decide) (Nat.le_of_ble_eq_true rfl) ?_
  intro p e s m args below meth c A ls C hr hlk hW hl
  refine W.nameQ (fun Q hQ => ?_)
  have hx := C.1.1
  have hb := C.1.2.1
  have hown := C.1.2.2.2.1
  have hT := C.1.2.2.2.2
  have hl : lv_has ls 5 [(0, .ref h0), (1, .int (nI st)), (2, .int (nI len))] := hl
  have htc := hst.1
  have hwm := hst.2.1
  refine lv_aload_n hx hb d_Store_intern_0 rfl (lv_at hl 0 rfl) ?_
  refine lv_iload_n hx hb d_Store_intern_1 rfl (lv_at hl 1 rfl) ?_
  refine lv_iload_n hx hb d_Store_intern_2 rfl (lv_at hl 2 rfl) ?_
  refine r_callVi [.int (nI st), .int (nI len)] [] C hl.1 hW (c_Store_find l D tI tB tZ tL X hX h0 ac af az ah an ad am v0 v2 v4 v5 v6 v12 so v16 cl ms sl ee top wd fc ff fz fh fn fd hcl hms hsl hs30 hst st len hat) ok_Store_find w_119 (wr := []) [0, 1, 2, 3, 4, 5, 6] [] rfl rfl (by decide) (by decide) (by decide) 0 rfl k_Store rfl (by decide) (Nat.le_of_ble_eq_true rfl) (by decide) d_Store_intern_3 (fun rf so1 H locs hf hW => ?_)
  have hW : Wd D A s [(h0, .inr (1, [.int v0, .ref ac, .int v2, .int (nI top), .int v4, .int v5, .int v6, .ref af, .ref az, .ref ah, .ref an, .ref ad, .int v12, .int so1, .int (nI wd), .ref am, .int v16])), (ac, .inl (tI, cl, .inl fc)), (af, .inl (tI, ms, .inl ff)), (az, .inl (tI, ms, .inl fz)), (ah, .inl (tI, ms, .inl fh)), (an, .inl (tI, ms, .inl fn)), (ad, .inl (tI, sl, .inl fd))] H _ := hW
  refine lv_istore_n (lv' := [(3, .int rf), (0, .ref h0), (1, .int (nI st)), (2, .int (nI len))]) hx hb d_Store_intern_6 rfl hl (by decide) rfl (fun ls hl => ?_)
  refine lv_iload_n hx hb d_Store_intern_7 rfl (lv_at hl 0 rfl) ?_
  refine lv_iconst (v := (-1)) hx hb d_Store_intern_8 (by decide) ?_
  refine lv_icmp_eq (tgt := 14) hx hb d_Store_intern_9 (by decide) (fun c_9 => ?_) (fun c_9 => ?_)
  · refine lv_aload_n hx hb d_Store_intern_14 rfl (lv_at hl 1 rfl) ?_
    refine r_get C hW 0 rfl k_Store i_Store 14 (by decide) rfl w_178 d_Store_intern_15 ?_
    refine lv_aload_n hx hb d_Store_intern_18 rfl (lv_at hl 1 rfl) ?_
    refine r_get C hW 0 rfl k_Store i_Store 7 (by decide) rfl w_166 d_Store_intern_19 ?_
    refine r_len C hW 2 0 rfl rfl d_Store_intern_22 ?_
    refine lv_icmp_lt (tgt := 28) hx hb d_Store_intern_23 (by decide) (fun c_23 => ?_) (fun c_23 => ?_)
    · have hwms : wd < ms := k_lt c_23 (by omega) (by omega)
      refine lv_aload_n hx hb d_Store_intern_28 rfl (lv_at hl 1 rfl) ?_
      refine r_get C hW 0 rfl k_Store i_Store 7 (by decide) rfl w_166 d_Store_intern_29 ?_
      refine lv_aload_n hx hb d_Store_intern_32 rfl (lv_at hl 1 rfl) ?_
      refine r_get C hW 0 rfl k_Store i_Store 14 (by decide) rfl w_178 d_Store_intern_33 ?_
      refine lv_iload_n hx hb d_Store_intern_36 rfl (lv_at hl 2 rfl) ?_
      refine r_stI C hW 2 rfl wd rfl (by omega) (by omega) d_Store_intern_37 (fun H locs hW => ?_)
      have hW : Wd D A s [(h0, .inr (1, [.int v0, .ref ac, .int v2, .int (nI top), .int v4, .int v5, .int v6, .ref af, .ref az, .ref ah, .ref an, .ref ad, .int v12, .int so1, .int (nI wd), .ref am, .int v16])), (ac, .inl (tI, cl, .inl fc)), (af, .inl (tI, ms, .inl (upd ff wd (nI st)))), (az, .inl (tI, ms, .inl fz)), (ah, .inl (tI, ms, .inl fh)), (an, .inl (tI, ms, .inl fn)), (ad, .inl (tI, sl, .inl fd))] H _ := hW
      refine lv_aload_n hx hb d_Store_intern_38 rfl (lv_at hl 1 rfl) ?_
      refine r_get C hW 0 rfl k_Store i_Store 8 (by decide) rfl w_169 d_Store_intern_39 ?_
      refine lv_aload_n hx hb d_Store_intern_42 rfl (lv_at hl 1 rfl) ?_
      refine r_get C hW 0 rfl k_Store i_Store 14 (by decide) rfl w_178 d_Store_intern_43 ?_
      refine lv_iload_n hx hb d_Store_intern_46 rfl (lv_at hl 3 rfl) ?_
      refine r_stI C hW 3 rfl wd rfl (by omega) (by omega) d_Store_intern_47 (fun H locs hW => ?_)
      have hW : Wd D A s [(h0, .inr (1, [.int v0, .ref ac, .int v2, .int (nI top), .int v4, .int v5, .int v6, .ref af, .ref az, .ref ah, .ref an, .ref ad, .int v12, .int so1, .int (nI wd), .ref am, .int v16])), (ac, .inl (tI, cl, .inl fc)), (af, .inl (tI, ms, .inl (upd ff wd (nI st)))), (az, .inl (tI, ms, .inl (upd fz wd (nI len)))), (ah, .inl (tI, ms, .inl fh)), (an, .inl (tI, ms, .inl fn)), (ad, .inl (tI, sl, .inl fd))] H _ := hW
      refine lv_aload_n hx hb d_Store_intern_48 rfl (lv_at hl 1 rfl) ?_
      refine r_get C hW 0 rfl k_Store i_Store 9 (by decide) rfl w_173 d_Store_intern_49 ?_
      refine lv_aload_n hx hb d_Store_intern_52 rfl (lv_at hl 1 rfl) ?_
      refine r_get C hW 0 rfl k_Store i_Store 14 (by decide) rfl w_178 d_Store_intern_53 ?_
      refine lv_aload_n hx hb d_Store_intern_56 rfl (lv_at hl 1 rfl) ?_
      refine r_get C hW 0 rfl k_Store i_Store 13 (by decide) rfl w_177 d_Store_intern_57 ?_
      refine r_stI C hW 4 rfl wd rfl (by omega) (by omega) d_Store_intern_60 (fun H locs hW => ?_)
      have hW : Wd D A s [(h0, .inr (1, [.int v0, .ref ac, .int v2, .int (nI top), .int v4, .int v5, .int v6, .ref af, .ref az, .ref ah, .ref an, .ref ad, .int v12, .int so1, .int (nI wd), .ref am, .int v16])), (ac, .inl (tI, cl, .inl fc)), (af, .inl (tI, ms, .inl (upd ff wd (nI st)))), (az, .inl (tI, ms, .inl (upd fz wd (nI len)))), (ah, .inl (tI, ms, .inl (upd fh wd so1))), (an, .inl (tI, ms, .inl fn)), (ad, .inl (tI, sl, .inl fd))] H _ := hW
      refine lv_aload_n hx hb d_Store_intern_61 rfl (lv_at hl 1 rfl) ?_
      refine r_get C hW 0 rfl k_Store i_Store 13 (by decide) rfl w_177 d_Store_intern_62 ?_
      refine lv_aload_n hx hb d_Store_intern_65 rfl (lv_at hl 1 rfl) ?_
      refine r_get C hW 0 rfl k_Store i_Store 11 (by decide) rfl w_175 d_Store_intern_66 ?_
      refine r_len C hW 6 0 rfl rfl d_Store_intern_69 ?_
      refine lv_iconst (v := 1) hx hb d_Store_intern_70 (by decide) ?_
      refine lv_isub hx hb d_Store_intern_71 ?_
      obtain ⟨hd, hhd, ehd⟩ := and_ix so1 hsl hs30
      refine lv_iand hx hb d_Store_intern_72 ?_
      refine W.eq (congrArg (fun z : Int32 => F0 m 73 ls (.int z :: [])) (show (so1 &&& ((nI sl) - 1)) = nI hd from ehd)) ?_
      refine lv_istore (lv' := [(4, .int (nI hd)), (3, .int rf), (0, .ref h0), (1, .int (nI st)), (2, .int (nI len))]) hx hb d_Store_intern_73 hl (by decide) rfl (fun ls hl => ?_)
      refine lv_aload_n hx hb d_Store_intern_75 rfl (lv_at hl 2 rfl) ?_
      refine r_get C hW 0 rfl k_Store i_Store 10 (by decide) rfl w_174 d_Store_intern_76 ?_
      refine lv_aload_n hx hb d_Store_intern_79 rfl (lv_at hl 2 rfl) ?_
      refine r_get C hW 0 rfl k_Store i_Store 14 (by decide) rfl w_178 d_Store_intern_80 ?_
      refine lv_aload_n hx hb d_Store_intern_83 rfl (lv_at hl 2 rfl) ?_
      refine r_get C hW 0 rfl k_Store i_Store 11 (by decide) rfl w_175 d_Store_intern_84 ?_
      refine lv_iload hx hb d_Store_intern_87 (lv_at hl 0 rfl) ?_
      refine r_ldI C hW 6 rfl hd rfl (by omega) (by omega) d_Store_intern_89 ?_
      refine r_stI C hW 5 rfl wd rfl (by omega) (by omega) d_Store_intern_90 (fun H locs hW => ?_)
      have hW : Wd D A s [(h0, .inr (1, [.int v0, .ref ac, .int v2, .int (nI top), .int v4, .int v5, .int v6, .ref af, .ref az, .ref ah, .ref an, .ref ad, .int v12, .int so1, .int (nI wd), .ref am, .int v16])), (ac, .inl (tI, cl, .inl fc)), (af, .inl (tI, ms, .inl (upd ff wd (nI st)))), (az, .inl (tI, ms, .inl (upd fz wd (nI len)))), (ah, .inl (tI, ms, .inl (upd fh wd so1))), (an, .inl (tI, ms, .inl (upd fn wd (fd hd)))), (ad, .inl (tI, sl, .inl fd))] H _ := hW
      refine lv_aload_n hx hb d_Store_intern_91 rfl (lv_at hl 2 rfl) ?_
      refine r_get C hW 0 rfl k_Store i_Store 11 (by decide) rfl w_175 d_Store_intern_92 ?_
      refine lv_iload hx hb d_Store_intern_95 (lv_at hl 0 rfl) ?_
      refine lv_aload_n hx hb d_Store_intern_97 rfl (lv_at hl 2 rfl) ?_
      refine r_get C hW 0 rfl k_Store i_Store 14 (by decide) rfl w_178 d_Store_intern_98 ?_
      refine r_stI C hW 6 rfl hd rfl (by omega) (by omega) d_Store_intern_101 (fun H locs hW => ?_)
      have hW : Wd D A s [(h0, .inr (1, [.int v0, .ref ac, .int v2, .int (nI top), .int v4, .int v5, .int v6, .ref af, .ref az, .ref ah, .ref an, .ref ad, .int v12, .int so1, .int (nI wd), .ref am, .int v16])), (ac, .inl (tI, cl, .inl fc)), (af, .inl (tI, ms, .inl (upd ff wd (nI st)))), (az, .inl (tI, ms, .inl (upd fz wd (nI len)))), (ah, .inl (tI, ms, .inl (upd fh wd so1))), (an, .inl (tI, ms, .inl (upd fn wd (fd hd)))), (ad, .inl (tI, sl, .inl (upd fd hd (nI wd))))] H _ := hW
      refine lv_aload_n hx hb d_Store_intern_102 rfl (lv_at hl 2 rfl) ?_
      refine lv_dup hx hb d_Store_intern_103 rfl ?_
      refine r_get C hW 0 rfl k_Store i_Store 14 (by decide) rfl w_178 d_Store_intern_104 ?_
      refine lv_iconst (v := 1) hx hb d_Store_intern_107 (by decide) ?_
      refine lv_iadd hx hb d_Store_intern_108 ?_
      refine W.eq (congrArg (fun z : Int32 => F0 m 109 ls (.int z :: [.ref h0])) (show ((nI wd) + 1) = nI (wd + 1) from (nI_1 wd))) ?_
      refine r_put (v := .int (nI (wd + 1))) (ty := .int) C hW 0 rfl k_Store i_Store t_Store o_Store n_Store 14 (by decide) w_178 rfl (by decide +kernel) rfl rfl (Nat.le_of_ble_eq_true rfl) d_Store_intern_109 (fun H locs hW => ?_)
      have hW : Wd D A s [(h0, .inr (1, [.int v0, .ref ac, .int v2, .int (nI top), .int v4, .int v5, .int v6, .ref af, .ref az, .ref ah, .ref an, .ref ad, .int v12, .int so1, .int (nI (wd + 1)), .ref am, .int v16])), (ac, .inl (tI, cl, .inl fc)), (af, .inl (tI, ms, .inl (upd ff wd (nI st)))), (az, .inl (tI, ms, .inl (upd fz wd (nI len)))), (ah, .inl (tI, ms, .inl (upd fh wd so1))), (an, .inl (tI, ms, .inl (upd fn wd (fd hd)))), (ad, .inl (tI, sl, .inl (upd fd hd (nI wd))))] H _ := hW
      refine lv_aload_n hx hb d_Store_intern_112 rfl (lv_at hl 2 rfl) ?_
      refine r_get C hW 0 rfl k_Store i_Store 14 (by decide) rfl w_178 d_Store_intern_113 ?_
      refine lv_iconst (v := 1) hx hb d_Store_intern_116 (by decide) ?_
      refine lv_isub hx hb d_Store_intern_117 ?_
      refine W.eq (congrArg (fun z : Int32 => F0 m 118 ls (.int z :: [])) (show ((nI (wd + 1)) - 1) = nI wd from (nI_pred wd))) ?_
      rw [hQ]
      exact r_iret C hr hlk hW rfl (so1, wd + 1, (fun k => [(upd ff wd (nI st)), (upd fz wd (nI len)), (upd fh wd so1), (upd fn wd (fd hd)), (upd fd hd (nI wd))].getD k ff)) ⟨hst.add hwms hat hhd, by show wd ≤ wd + 1; omega, by show wd + 1 ≤ wd + 1; omega, wd, rfl, Or.inl (by show wd < wd + 1; omega)⟩ [0, 1, 2, 3, 4, 5, 6] (by decide) rfl d_Store_intern_118 (by decide) (by decide)
    · refine lv_iconst (v := 0) hx hb d_Store_intern_26 (by decide) ?_
      rw [hQ]
      exact r_iret C hr hlk hW rfl (so1, wd, (fun k => [ff, fz, fh, fn, fd].getD k ff)) ⟨hst, Nat.le_refl _, Nat.le_succ _, 0, rfl, Or.inr rfl⟩ [0, 1, 2, 3, 4, 5, 6] (by decide) rfl d_Store_intern_27 (by decide) (by decide)
  · obtain ⟨j, hj, ej⟩ := hf.resolve_left c_9
    subst ej
    refine lv_iload_n hx hb d_Store_intern_12 rfl (lv_at hl 0 rfl) ?_
    rw [hQ]
    exact r_iret C hr hlk hW rfl (so1, wd, (fun k => [ff, fz, fh, fn, fd].getD k ff)) ⟨hst, Nat.le_refl _, Nat.le_succ _, j, rfl, Or.inl hj⟩ [0, 1, 2, 3, 4, 5, 6] (by decide) rfl d_Store_intern_13 (by decide) (by decide)
set_option maxHeartbeats 4000000 in
set_option maxRecDepth 100000 in
/-- Store.keep(text): it is added, and a word -/
theorem c_Store_keep (l : Launch) (D : va_G) (tI tB tZ tL : ClassId) (X : (Nat → Prop) → State → Prop) (hX : Ro X) (h0 ac af az ah an ad am : Nat) (v0 v2 v4 v5 v6 v12 so v16 : Int32) (cl ms sl ee top wd : Nat) (fc ff fz fh fn fd : Nat → Int32) (hcl : cl < 2 ^ 29) (hms : ms < 2 ^ 29) (hsl : sl = 2 ^ ee) (hs30 : sl < 2 ^ 30) (hst : stOk cl ms sl top wd ff fz fn fd) (q v : Nat) (bs : List Int32) (hJ : ∀ A U, X A U → sJ A U) (hs : ∀ A U, X A U → sAt q v bs A U) (hroom : top + bs.length ≤ cl) : CtV l D tI tB tZ tL X y_Store_keep b_Store_keep 4 ({ frames := 4, cells := 0, slots := 0, locals := 85 }) [.ref h0, .ref q] [(h0, .inr (1, [.int v0, .ref ac, .int v2, .int (nI top), .int v4, .int v5, .int v6, .ref af, .ref az, .ref ah, .ref an, .ref ad, .int v12, .int so, .int (nI wd), .ref am, .int v16])), (ac, .inl (tI, cl, .inl fc)), (af, .inl (tI, ms, .inl ff)), (az, .inl (tI, ms, .inl fz)), (ah, .inl (tI, ms, .inl fh)), (an, .inl (tI, ms, .inl fn)), (ad, .inl (tI, sl, .inl fd))] (S := Int32 × Nat × (Nat → Nat → Int32)) (fun u => stOk cl ms sl (top + bs.length) u.2.1 (u.2.2 0) (u.2.2 1) (u.2.2 3) (u.2.2 4) ∧ wd ≤ u.2.1 ∧ u.2.1 ≤ wd + 1) (fun u => [(h0, .inr (1, [.int v0, .ref ac, .int v2, .int (nI (top + bs.length)), .int v4, .int v5, .int v6, .ref af, .ref az, .ref ah, .ref an, .ref ad, .int v12, .int u.1, .int (nI u.2.1), .ref am, .int v16])), (ac, .inl (tI, cl, .inl (u.2.2 5))), (af, .inl (tI, ms, .inl (u.2.2 0))), (az, .inl (tI, ms, .inl (u.2.2 1))), (ah, .inl (tI, ms, .inl (u.2.2 2))), (an, .inl (tI, ms, .inl (u.2.2 3))), (ad, .inl (tI, sl, .inl (u.2.2 4)))]) := by
  refine CtV.start hX (by decide) (Nat.le_of_ble_eq_true rfl) ?_
  intro p e s m args below meth c A ls C hr hlk hin hW hl
  refine W.nameQ (fun Q hQ => ?_)
  have hx := C.1.1
  have hb := C.1.2.1
  have hown := C.1.2.2.2.1
  have hT := C.1.2.2.2.2
  have hl : lv_has ls 4 [(0, .ref h0), (1, .ref q)] := hl
  have htc := hst.1
  have hwm := hst.2.1
  have hb31 : bs.length < 2 ^ 31 := by omega
  refine lv_aload_n hx hb d_Store_keep_0 rfl (lv_at hl 0 rfl) ?_
  refine r_get C hW 0 rfl k_Store i_Store 3 (by decide) rfl w_155 d_Store_keep_1 ?_
  refine lv_istore_n (lv' := [(2, .int (nI top)), (0, .ref h0), (1, .ref q)]) hx hb d_Store_keep_4 rfl hl (by decide) rfl (fun ls hl => ?_)
  refine lv_iconst (v := 0) hx hb d_Store_keep_5 (by decide) ?_
  refine lv_istore_n (lv' := [(3, .int 0), (2, .int (nI top)), (0, .ref h0), (1, .ref q)]) hx hb d_Store_keep_6 rfl hl (by decide) rfl (fun ls hl => ?_)
  have loop : ∀ (fu_loop : Nat) (k : Nat) (g : Nat → Int32) (H : Heap) (locs : List Loc) (ls : Array Slot), bs.length + 1 ≤ k + fu_loop → (k ≤ bs.length) → Wd D A s [(h0, .inr (1, [.int v0, .ref ac, .int v2, .int (nI (top + k)), .int v4, .int v5, .int v6, .ref af, .ref az, .ref ah, .ref an, .ref ad, .int v12, .int so, .int (nI wd), .ref am, .int v16])), (ac, .inl (tI, cl, .inl g)), (af, .inl (tI, ms, .inl ff)), (az, .inl (tI, ms, .inl fz)), (ah, .inl (tI, ms, .inl fh)), (an, .inl (tI, ms, .inl fn)), (ad, .inl (tI, sl, .inl fd))] H locs → lv_has ls 4 [(3, .int (nI k)), (2, .int (nI top)), (0, .ref h0), (1, .ref q)] → W p l e ({ frames := 4, cells := 0, slots := 0, locals := 85 }) s m args below meth c H locs 0 0 Q (F0 m 7 ls []) := by
    intro fu_loop
    induction fu_loop with
    | zero => intro k g H locs ls hn hk hW hl; exact absurd hn (by omega)
    | succ fu_loop ih_loop =>
      intro k g H locs ls hn hk hW hl
      refine lv_iload_n hx hb d_Store_keep_7 rfl (lv_at hl 0 rfl) ?_
      refine lv_aload_n hx hb d_Store_keep_8 rfl (lv_at hl 3 rfl) ?_
      refine r_callXi [] [.int (nI k)] C hl.1 hW (c_Str_length l D tI tB tZ tL X hX q v bs hJ hs hb31) ok_Str_length w_63 (wr := [(h0, .inr (1, [.int v0, .ref ac, .int v2, .int (nI (top + k)), .int v4, .int v5, .int v6, .ref af, .ref az, .ref ah, .ref an, .ref ad, .int v12, .int so, .int (nI wd), .ref am, .int v16])), (ac, .inl (tI, cl, .inl g)), (af, .inl (tI, ms, .inl ff)), (az, .inl (tI, ms, .inl fz)), (ah, .inl (tI, ms, .inl fh)), (an, .inl (tI, ms, .inl fn)), (ad, .inl (tI, sl, .inl fd))]) [] [0, 1, 2, 3, 4, 5, 6] rfl rfl (by decide) (by decide) (by decide) (r_recv C hW (hs A s C.2.2.2.1).1) rfl (by decide) (Nat.le_of_ble_eq_true rfl) (by decide) d_Store_keep_9 (fun r9 u H locs hu hW => ?_)
      subst hu
      have hW : Wd D A s [(h0, .inr (1, [.int v0, .ref ac, .int v2, .int (nI (top + k)), .int v4, .int v5, .int v6, .ref af, .ref az, .ref ah, .ref an, .ref ad, .int v12, .int so, .int (nI wd), .ref am, .int v16])), (ac, .inl (tI, cl, .inl g)), (af, .inl (tI, ms, .inl ff)), (az, .inl (tI, ms, .inl fz)), (ah, .inl (tI, ms, .inl fh)), (an, .inl (tI, ms, .inl fn)), (ad, .inl (tI, sl, .inl fd))] H _ := hW
      refine lv_icmp_ge (tgt := 30) hx hb d_Store_keep_12 (by decide) (fun c_12 => ?_) (fun c_12 => ?_)
      · have hke : k = bs.length := Nat.le_antisymm hk (k_le c_12 hb31 (by omega))
        subst hke
        refine lv_aload_n hx hb d_Store_keep_30 rfl (lv_at hl 2 rfl) ?_
        refine lv_iload_n hx hb d_Store_keep_31 rfl (lv_at hl 1 rfl) ?_
        refine lv_aload_n hx hb d_Store_keep_32 rfl (lv_at hl 3 rfl) ?_
        refine r_callXi [] [.int (nI top), .ref h0] C hl.1 hW (c_Str_length l D tI tB tZ tL X hX q v bs hJ hs hb31) ok_Str_length w_63 (wr := [(h0, .inr (1, [.int v0, .ref ac, .int v2, .int (nI (top + bs.length)), .int v4, .int v5, .int v6, .ref af, .ref az, .ref ah, .ref an, .ref ad, .int v12, .int so, .int (nI wd), .ref am, .int v16])), (ac, .inl (tI, cl, .inl g)), (af, .inl (tI, ms, .inl ff)), (az, .inl (tI, ms, .inl fz)), (ah, .inl (tI, ms, .inl fh)), (an, .inl (tI, ms, .inl fn)), (ad, .inl (tI, sl, .inl fd))]) [] [0, 1, 2, 3, 4, 5, 6] rfl rfl (by decide) (by decide) (by decide) (r_recv C hW (hs A s C.2.2.2.1).1) rfl (by decide) (Nat.le_of_ble_eq_true rfl) (by decide) d_Store_keep_33 (fun r33 u H locs hu hW => ?_)
        subst hu
        have hW : Wd D A s [(h0, .inr (1, [.int v0, .ref ac, .int v2, .int (nI (top + bs.length)), .int v4, .int v5, .int v6, .ref af, .ref az, .ref ah, .ref an, .ref ad, .int v12, .int so, .int (nI wd), .ref am, .int v16])), (ac, .inl (tI, cl, .inl g)), (af, .inl (tI, ms, .inl ff)), (az, .inl (tI, ms, .inl fz)), (ah, .inl (tI, ms, .inl fh)), (an, .inl (tI, ms, .inl fn)), (ad, .inl (tI, sl, .inl fd))] H _ := hW
        refine r_callVi [.int (nI top), .int (nI bs.length)] [] C hl.1 hW (c_Store_intern l D tI tB tZ tL X hX h0 ac af az ah an ad am v0 v2 v4 v5 v6 v12 so v16 cl ms sl ee (top + bs.length) wd g ff fz fh fn fd hcl hms hsl hs30 (hst.mono (by omega) hroom) top bs.length (Nat.le_refl _)) ok_Store_intern w_115 (wr := []) [0, 1, 2, 3, 4, 5, 6] [] rfl rfl (by decide) (by decide) (by decide) 0 rfl k_Store rfl (by decide) (Nat.le_of_ble_eq_true rfl) (by decide) d_Store_keep_36 (fun r36 ui H locs hui hW => ?_)
        have hW : Wd D A s [(h0, .inr (1, [.int v0, .ref ac, .int v2, .int (nI (top + bs.length)), .int v4, .int v5, .int v6, .ref af, .ref az, .ref ah, .ref an, .ref ad, .int v12, .int ui.1, .int (nI ui.2.1), .ref am, .int v16])), (ac, .inl (tI, cl, .inl g)), (af, .inl (tI, ms, .inl (ui.2.2 0))), (az, .inl (tI, ms, .inl (ui.2.2 1))), (ah, .inl (tI, ms, .inl (ui.2.2 2))), (an, .inl (tI, ms, .inl (ui.2.2 3))), (ad, .inl (tI, sl, .inl (ui.2.2 4)))] H _ := hW
        refine lv_pop hx hb d_Store_keep_39 rfl ?_
        rw [hQ]
        exact r_vret C hr hlk hW (ui.1, ui.2.1, (fun k => if k = 5 then g else ui.2.2 k)) ⟨hui.1, hui.2.1, hui.2.2.1⟩ [0, 1, 2, 3, 4, 5, 6] (by decide) rfl d_Store_keep_40 (by decide) (by decide)
      · have hk2 : k < bs.length := k_nle c_12 hb31 (by omega)
        refine lv_aload_n hx hb d_Store_keep_15 rfl (lv_at hl 2 rfl) ?_
        refine lv_aload_n hx hb d_Store_keep_16 rfl (lv_at hl 3 rfl) ?_
        refine lv_iload_n hx hb d_Store_keep_17 rfl (lv_at hl 0 rfl) ?_
        refine r_callXi [.int (nI k)] [.ref h0] C hl.1 hW (c_Str_charAt l D tI tB tZ tL X hX q v bs hJ hs k hk2 hb31) ok_Str_charAt w_73 (wr := [(h0, .inr (1, [.int v0, .ref ac, .int v2, .int (nI (top + k)), .int v4, .int v5, .int v6, .ref af, .ref az, .ref ah, .ref an, .ref ad, .int v12, .int so, .int (nI wd), .ref am, .int v16])), (ac, .inl (tI, cl, .inl g)), (af, .inl (tI, ms, .inl ff)), (az, .inl (tI, ms, .inl fz)), (ah, .inl (tI, ms, .inl fh)), (an, .inl (tI, ms, .inl fn)), (ad, .inl (tI, sl, .inl fd))]) [] [0, 1, 2, 3, 4, 5, 6] rfl rfl (by decide) (by decide) (by decide) (r_recv C hW (hs A s C.2.2.2.1).1) rfl (by decide) (Nat.le_of_ble_eq_true rfl) (by decide) d_Store_keep_18 (fun r18 u H locs hu hW => ?_)
        subst hu
        have hW : Wd D A s [(h0, .inr (1, [.int v0, .ref ac, .int v2, .int (nI (top + k)), .int v4, .int v5, .int v6, .ref af, .ref az, .ref ah, .ref an, .ref ad, .int v12, .int so, .int (nI wd), .ref am, .int v16])), (ac, .inl (tI, cl, .inl g)), (af, .inl (tI, ms, .inl ff)), (az, .inl (tI, ms, .inl fz)), (ah, .inl (tI, ms, .inl fh)), (an, .inl (tI, ms, .inl fn)), (ad, .inl (tI, sl, .inl fd))] H _ := hW
        refine r_callV [.int (bs.getD k 0 &&& 255)] [] C hl.1 hW (c_Store_add l D tI tB tZ tL X hX h0 ac af az ah an ad am v0 v2 v4 v5 v6 v12 so v16 cl (top + k) wd g (bs.getD k 0 &&& 255) (by omega) (by omega)) ok_Store_add w_111 (wr := [(af, .inl (tI, ms, .inl ff)), (az, .inl (tI, ms, .inl fz)), (ah, .inl (tI, ms, .inl fh)), (an, .inl (tI, ms, .inl fn)), (ad, .inl (tI, sl, .inl fd))]) [0, 1] [2, 3, 4, 5, 6] rfl rfl (by decide) (by decide) (by decide) 0 rfl k_Store rfl (by decide) (Nat.le_of_ble_eq_true rfl) (by decide) d_Store_keep_21 (fun ua H locs hua hW => ?_)
        obtain ⟨t1, g1⟩ := ua
        obtain ⟨e1, -⟩ := hua.1 (by omega)
        have e1 : t1 = top + k + 1 := e1
        subst e1
        have hW : Wd D A s [(af, .inl (tI, ms, .inl ff)), (az, .inl (tI, ms, .inl fz)), (ah, .inl (tI, ms, .inl fh)), (an, .inl (tI, ms, .inl fn)), (ad, .inl (tI, sl, .inl fd)), (h0, .inr (1, [.int v0, .ref ac, .int v2, .int (nI (top + k + 1)), .int v4, .int v5, .int v6, .ref af, .ref az, .ref ah, .ref an, .ref ad, .int v12, .int so, .int (nI wd), .ref am, .int v16])), (ac, .inl (tI, cl, .inl g1))] H _ := hW
        refine lv_iinc (v := (nI (k + 1))) (lv' := [(3, .int (nI (k + 1))), (2, .int (nI top)), (0, .ref h0), (1, .ref q)]) hx hb d_Store_keep_24 hl (k := 0) rfl (nI_1 k) (by decide) rfl (fun ls hl => ?_)
        refine lv_goto (tgt := 7) hx hb d_Store_keep_27 (by decide) ?_
        exact ih_loop (k + 1) g1 H locs ls (by omega) (by omega) (hW.sub [5, 6, 0, 1, 2, 3, 4] (by decide) rfl) (lv_sub hl [0, 1, 2, 3] rfl)
  exact loop (bs.length + 1) 0 fc _ _ _ (by omega) (by omega) (hW.sub [0, 1, 2, 3, 4, 5, 6] (by decide) rfl) (lv_sub hl [0, 1, 2, 3] rfl)
