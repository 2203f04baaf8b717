def y_J_attribute : MethodName := ⟨"MarkupJudge", "attribute", "(IIII)I"⟩
abbrev b_J_attribute : ByteArray := prog_1_method_16_code
def y_J_attributes : MethodName := ⟨"MarkupJudge", "attributes", "(I)I"⟩
abbrev b_J_attributes : ByteArray := prog_1_method_13_code
def y_J_back : MethodName := ⟨"MarkupJudge", "back", "()I"⟩
abbrev b_J_back : ByteArray := prog_1_method_21_code
def y_J_canonical : MethodName := ⟨"MarkupJudge", "canonical", "()I"⟩
abbrev b_J_canonical : ByteArray := prog_1_method_19_code
def y_J_change : MethodName := ⟨"MarkupJudge", "change", "(II)I"⟩
abbrev b_J_change : ByteArray := prog_1_method_5_code
def y_J_characters : MethodName := ⟨"MarkupJudge", "characters", "()I"⟩
abbrev b_J_characters : ByteArray := prog_1_method_17_code
def y_J_counted : MethodName := ⟨"MarkupJudge", "counted", "()I"⟩
abbrev b_J_counted : ByteArray := prog_1_method_18_code
def y_J_elements : MethodName := ⟨"MarkupJudge", "elements", "()I"⟩
abbrev b_J_elements : ByteArray := prog_1_method_12_code
def y_J_fault : MethodName := ⟨"MarkupJudge", "fault", "()I"⟩
abbrev b_J_fault : ByteArray := prog_1_method_8_code
def y_J_name : MethodName := ⟨"MarkupJudge", "name", "(II)I"⟩
abbrev b_J_name : ByteArray := prog_1_method_15_code
def y_J_out : MethodName := ⟨"MarkupJudge", "out", "(I)I"⟩
abbrev b_J_out : ByteArray := prog_1_method_20_code
def y_J_parent : MethodName := ⟨"MarkupJudge", "parent", "(I)I"⟩
abbrev b_J_parent : ByteArray := prog_1_method_14_code
def y_J_place : MethodName := ⟨"MarkupJudge", "place", "()I"⟩
abbrev b_J_place : ByteArray := prog_1_method_9_code
def y_J_spaces : MethodName := ⟨"MarkupJudge", "spaces", "(I)I"⟩
abbrev b_J_spaces : ByteArray := prog_1_method_11_code
def y_J_steady : MethodName := ⟨"MarkupJudge", "steady", "()Z"⟩
abbrev b_J_steady : ByteArray := prog_1_method_22_code
def y_J_violations : MethodName := ⟨"MarkupJudge", "violations", "(I)I"⟩
abbrev b_J_violations : ByteArray := prog_1_method_10_code
def y_Tree_has : MethodName := ⟨"MarkupJudge$Tree", "has", "(I)Z"⟩
abbrev b_Tree_has : ByteArray := prog_10_method_3_code
def y_K_attribute : MethodName := ⟨"MarkupJudgeModel", "attribute", "(IIII)I"⟩
abbrev b_K_attribute : ByteArray := prog_14_method_26_code
def y_K_attributes : MethodName := ⟨"MarkupJudgeModel", "attributes", "(I)I"⟩
abbrev b_K_attributes : ByteArray := prog_14_method_22_code
def y_K_back : MethodName := ⟨"MarkupJudgeModel", "back", "()I"⟩
abbrev b_K_back : ByteArray := prog_14_method_33_code
def y_K_canonical : MethodName := ⟨"MarkupJudgeModel", "canonical", "()I"⟩
abbrev b_K_canonical : ByteArray := prog_14_method_31_code
def y_K_change : MethodName := ⟨"MarkupJudgeModel", "change", "(II)I"⟩
abbrev b_K_change : ByteArray := prog_14_method_14_code
def y_K_characters : MethodName := ⟨"MarkupJudgeModel", "characters", "()I"⟩
abbrev b_K_characters : ByteArray := prog_14_method_27_code
def y_K_counted : MethodName := ⟨"MarkupJudgeModel", "counted", "()I"⟩
abbrev b_K_counted : ByteArray := prog_14_method_28_code
def y_K_elements : MethodName := ⟨"MarkupJudgeModel", "elements", "()I"⟩
abbrev b_K_elements : ByteArray := prog_14_method_20_code
def y_K_fault : MethodName := ⟨"MarkupJudgeModel", "fault", "()I"⟩
abbrev b_K_fault : ByteArray := prog_14_method_16_code
def y_K_isElement : MethodName := ⟨"MarkupJudgeModel", "isElement", "(I)Z"⟩
abbrev b_K_isElement : ByteArray := prog_14_method_21_code
def y_K_name : MethodName := ⟨"MarkupJudgeModel", "name", "(II)I"⟩
abbrev b_K_name : ByteArray := prog_14_method_25_code
def y_K_out : MethodName := ⟨"MarkupJudgeModel", "out", "(I)I"⟩
abbrev b_K_out : ByteArray := prog_14_method_32_code
def y_K_parent : MethodName := ⟨"MarkupJudgeModel", "parent", "(I)I"⟩
abbrev b_K_parent : ByteArray := prog_14_method_23_code
def y_K_place : MethodName := ⟨"MarkupJudgeModel", "place", "()I"⟩
abbrev b_K_place : ByteArray := prog_14_method_17_code
def y_K_refusal : MethodName := ⟨"MarkupJudgeModel", "refusal", "()I"⟩
abbrev b_K_refusal : ByteArray := prog_14_method_30_code
def y_K_spaces : MethodName := ⟨"MarkupJudgeModel", "spaces", "(I)I"⟩
abbrev b_K_spaces : ByteArray := prog_14_method_19_code
def y_K_steady : MethodName := ⟨"MarkupJudgeModel", "steady", "()Z"⟩
abbrev b_K_steady : ByteArray := prog_14_method_34_code
def y_K_thrown : MethodName := ⟨"MarkupJudgeModel", "thrown", "()I"⟩
abbrev b_K_thrown : ByteArray := prog_14_method_10_code
def y_K_violations : MethodName := ⟨"MarkupJudgeModel", "violations", "(I)I"⟩
abbrev b_K_violations : ByteArray := prog_14_method_18_code
theorem w_499 : (Jvm.Cond.fieldLink "MarkupJudge$Tree" (52 : Nat) "MarkupJudge$Tree" "elements" "I") ∈ lwG := s_3 (List.mem_of_getElem? (i := 19) rfl) rfl
theorem w_504 : (Jvm.Cond.fieldLink "MarkupJudge" (192 : Nat) "MarkupJudge$Tree" "elements" "I") ∈ lwG := s_3 (List.mem_of_getElem? (i := 24) rfl) rfl
theorem w_553 : (Jvm.Cond.fieldLink "MarkupJudge" (221 : Nat) "MarkupJudge$Tree" "letters" "I") ∈ lwG := s_3 (List.mem_of_getElem? (i := 73) rfl) rfl
theorem w_756 : (Jvm.Cond.fieldLink "MarkupJudge" (238 : Nat) "MarkupJudge$Writer" "size" "I") ∈ lwG := s_4 (List.mem_of_getElem? (i := 36) rfl) rfl
theorem w_787 : (Jvm.Cond.fieldLink "MarkupJudge" (110 : Nat) "MarkupJudge" "count" "I") ∈ lwG := s_4 (List.mem_of_getElem? (i := 67) rfl) rfl
theorem w_798 : (Jvm.Cond.fieldLink "MarkupJudge" (161 : Nat) "MarkupJudge" "atHand" "Z") ∈ lwG := s_4 (List.mem_of_getElem? (i := 78) rfl) rfl
theorem w_799 : (Jvm.Cond.fieldLink "MarkupJudge" (158 : Nat) "MarkupJudge" "lastFault" "I") ∈ lwG := s_4 (List.mem_of_getElem? (i := 79) rfl) rfl
theorem w_1909 : (Jvm.Cond.methodLink "MarkupJudge" (195 : Nat) ({ cls := "MarkupJudge$Tree", name := "has", desc := "(I)Z" } : Jvm.MethodName)) ∈ lwG := s_8 (List.mem_of_getElem? (i := 229) rfl) rfl
theorem w_2562 : (Jvm.Cond.fieldLink "MarkupJudgeModel" (91 : Nat) "MarkupJudgeModel" "size" "I") ∈ lwG := s_11 (List.mem_of_getElem? (i := 162) rfl) rfl
theorem w_2565 : (Jvm.Cond.fieldLink "MarkupJudgeModel" (102 : Nat) "MarkupJudgeModel" "hasDoc" "Z") ∈ lwG := s_11 (List.mem_of_getElem? (i := 165) rfl) rfl
theorem w_2568 : (Jvm.Cond.fieldLink "MarkupJudgeModel" (188 : Nat) "MarkupJudgeModel" "produced" "I") ∈ lwG := s_11 (List.mem_of_getElem? (i := 168) rfl) rfl
theorem w_2570 : (Jvm.Cond.fieldLink "MarkupJudgeModel" (88 : Nat) "MarkupJudgeModel" "code" "I") ∈ lwG := s_11 (List.mem_of_getElem? (i := 170) rfl) rfl
theorem w_2571 : (Jvm.Cond.fieldLink "MarkupJudgeModel" (109 : Nat) "MarkupJudgeModel" "fault" "I") ∈ lwG := s_11 (List.mem_of_getElem? (i := 171) rfl) rfl
theorem w_3260 : (Jvm.Cond.methodLink "MarkupJudgeModel" (121 : Nat) ({ cls := "MarkupJudgeModel", name := "isElement", desc := "(I)Z" } : Jvm.MethodName)) ∈ lwG := s_14 (List.mem_of_getElem? (i := 140) rfl) rfl
theorem w_3294 : (Jvm.Cond.methodLink "MarkupJudgeModel" (184 : Nat) ({ cls := "MarkupJudgeModel", name := "refusal", desc := "()I" } : Jvm.MethodName)) ∈ lwG := s_14 (List.mem_of_getElem? (i := 174) rfl) rfl
theorem ok_Tree_has : okV y_Tree_has b_Tree_has 2 (some .boolean) 1 := ⟨s_8 (List.mem_of_getElem? (i := 232) rfl) rfl, s_8 (List.mem_of_getElem? (i := 230) rfl) rfl, s_8 (List.mem_of_getElem? (i := 231) rfl) rfl, s_1 (List.mem_of_getElem? (i := 13) rfl) rfl, ⟨by decide +kernel, by decide +kernel, by decide +kernel⟩⟩
theorem ok_K_isElement : okV y_K_isElement b_K_isElement 2 (some .boolean) 1 := ⟨s_14 (List.mem_of_getElem? (i := 143) rfl) rfl, s_14 (List.mem_of_getElem? (i := 142) rfl) rfl, List.mem_filter.mpr ⟨List.mem_append_left _ (List.mem_map.mpr ⟨(y_K_isElement, 14), List.mem_of_getElem? (i := 177) rfl, rfl⟩), rfl⟩, s_1 (List.mem_of_getElem? (i := 19) rfl) rfl, ⟨by decide +kernel, by decide +kernel, by decide +kernel⟩⟩
theorem ok_K_refusal : okV y_K_refusal b_K_refusal 4 (some .int) 0 := ⟨s_14 (List.mem_of_getElem? (i := 177) rfl) rfl, s_14 (List.mem_of_getElem? (i := 176) rfl) rfl, List.mem_filter.mpr ⟨List.mem_append_left _ (List.mem_map.mpr ⟨(y_K_refusal, 14), List.mem_of_getElem? (i := 179) rfl, rfl⟩), rfl⟩, s_1 (List.mem_of_getElem? (i := 19) rfl) rfl, ⟨by decide +kernel, by decide +kernel, by decide +kernel⟩⟩
theorem d_J_attribute_0 : decode b_J_attribute 0 = .ok (.aload_n 0, 1) := by decide +kernel
theorem d_J_attribute_1 : decode b_J_attribute 1 = .ok (.getfield 63, 3) := by decide +kernel
theorem d_J_attribute_4 : decode b_J_attribute 4 = .ok (.iload_n 1, 1) := by decide +kernel
theorem d_J_attribute_5 : decode b_J_attribute 5 = .ok (.invokevirtual 195, 3) := by decide +kernel
theorem d_J_attribute_8 : decode b_J_attribute 8 = .ok (.ifCond .eq 29, 3) := by decide +kernel
theorem d_J_attribute_37 : decode b_J_attribute 37 = .ok (.iconst (-1), 1) := by decide +kernel
theorem d_J_attribute_38 : decode b_J_attribute 38 = .ok (.ireturn, 1) := by decide +kernel
theorem d_J_attributes_0 : decode b_J_attributes 0 = .ok (.aload_n 0, 1) := by decide +kernel
theorem d_J_attributes_1 : decode b_J_attributes 1 = .ok (.getfield 63, 3) := by decide +kernel
theorem d_J_attributes_4 : decode b_J_attributes 4 = .ok (.iload_n 1, 1) := by decide +kernel
theorem d_J_attributes_5 : decode b_J_attributes 5 = .ok (.invokevirtual 195, 3) := by decide +kernel
theorem d_J_attributes_8 : decode b_J_attributes 8 = .ok (.ifCond .eq 15, 3) := by decide +kernel
theorem d_J_attributes_23 : decode b_J_attributes 23 = .ok (.iconst (-1), 1) := by decide +kernel
theorem d_J_attributes_24 : decode b_J_attributes 24 = .ok (.ireturn, 1) := by decide +kernel
theorem d_J_back_0 : decode b_J_back 0 = .ok (.aload_n 0, 1) := by decide +kernel
theorem d_J_back_1 : decode b_J_back 1 = .ok (.getfield 102, 3) := by decide +kernel
theorem d_J_back_4 : decode b_J_back 4 = .ok (.getfield 238, 3) := by decide +kernel
theorem d_J_back_7 : decode b_J_back 7 = .ok (.istore_n 1, 1) := by decide +kernel
theorem d_J_back_8 : decode b_J_back 8 = .ok (.iload_n 1, 1) := by decide +kernel
theorem d_J_back_9 : decode b_J_back 9 = .ok (.ifCond .eq 9, 3) := by decide +kernel
theorem d_J_back_18 : decode b_J_back 18 = .ok (.iconst (-1), 1) := by decide +kernel
theorem d_J_back_19 : decode b_J_back 19 = .ok (.ireturn, 1) := by decide +kernel
theorem d_J_canonical_0 : decode b_J_canonical 0 = .ok (.aload_n 0, 1) := by decide +kernel
theorem d_J_canonical_1 : decode b_J_canonical 1 = .ok (.getfield 161, 3) := by decide +kernel
theorem d_J_canonical_4 : decode b_J_canonical 4 = .ok (.ifCond .ne 5, 3) := by decide +kernel
theorem d_J_canonical_7 : decode b_J_canonical 7 = .ok (.iconst (-1), 1) := by decide +kernel
theorem d_J_canonical_8 : decode b_J_canonical 8 = .ok (.ireturn, 1) := by decide +kernel
theorem d_J_change_0 : decode b_J_change 0 = .ok (.iload_n 1, 1) := by decide +kernel
theorem d_J_change_1 : decode b_J_change 1 = .ok (.ifCond .lt 22, 3) := by decide +kernel
theorem d_J_change_4 : decode b_J_change 4 = .ok (.iload_n 1, 1) := by decide +kernel
theorem d_J_change_5 : decode b_J_change 5 = .ok (.aload_n 0, 1) := by decide +kernel
theorem d_J_change_6 : decode b_J_change 6 = .ok (.getfield 110, 3) := by decide +kernel
theorem d_J_change_9 : decode b_J_change 9 = .ok (.if_icmp .ge 14, 3) := by decide +kernel
theorem d_J_change_23 : decode b_J_change 23 = .ok (.iconst (-1), 1) := by decide +kernel
theorem d_J_change_24 : decode b_J_change 24 = .ok (.ireturn, 1) := by decide +kernel
theorem d_J_characters_0 : decode b_J_characters 0 = .ok (.aload_n 0, 1) := by decide +kernel
theorem d_J_characters_1 : decode b_J_characters 1 = .ok (.getfield 63, 3) := by decide +kernel
theorem d_J_characters_4 : decode b_J_characters 4 = .ok (.getfield 221, 3) := by decide +kernel
theorem d_J_characters_7 : decode b_J_characters 7 = .ok (.ireturn, 1) := by decide +kernel
theorem d_J_counted_0 : decode b_J_counted 0 = .ok (.aload_n 0, 1) := by decide +kernel
theorem d_J_counted_1 : decode b_J_counted 1 = .ok (.getfield 161, 3) := by decide +kernel
theorem d_J_counted_4 : decode b_J_counted 4 = .ok (.ifCond .eq 13, 3) := by decide +kernel
theorem d_J_counted_17 : decode b_J_counted 17 = .ok (.iconst 0, 1) := by decide +kernel
theorem d_J_counted_18 : decode b_J_counted 18 = .ok (.ireturn, 1) := by decide +kernel
theorem d_J_elements_0 : decode b_J_elements 0 = .ok (.aload_n 0, 1) := by decide +kernel
theorem d_J_elements_1 : decode b_J_elements 1 = .ok (.getfield 63, 3) := by decide +kernel
theorem d_J_elements_4 : decode b_J_elements 4 = .ok (.getfield 192, 3) := by decide +kernel
theorem d_J_elements_7 : decode b_J_elements 7 = .ok (.ireturn, 1) := by decide +kernel
theorem d_J_fault_0 : decode b_J_fault 0 = .ok (.aload_n 0, 1) := by decide +kernel
theorem d_J_fault_1 : decode b_J_fault 1 = .ok (.getfield 158, 3) := by decide +kernel
theorem d_J_fault_4 : decode b_J_fault 4 = .ok (.ireturn, 1) := by decide +kernel
theorem d_J_name_0 : decode b_J_name 0 = .ok (.aload_n 0, 1) := by decide +kernel
theorem d_J_name_1 : decode b_J_name 1 = .ok (.getfield 63, 3) := by decide +kernel
theorem d_J_name_4 : decode b_J_name 4 = .ok (.iload_n 1, 1) := by decide +kernel
theorem d_J_name_5 : decode b_J_name 5 = .ok (.invokevirtual 195, 3) := by decide +kernel
theorem d_J_name_8 : decode b_J_name 8 = .ok (.ifCond .eq 23, 3) := by decide +kernel
theorem d_J_name_31 : decode b_J_name 31 = .ok (.iconst (-1), 1) := by decide +kernel
theorem d_J_name_32 : decode b_J_name 32 = .ok (.ireturn, 1) := by decide +kernel
theorem d_J_out_0 : decode b_J_out 0 = .ok (.iload_n 1, 1) := by decide +kernel
theorem d_J_out_1 : decode b_J_out 1 = .ok (.ifCond .lt 30, 3) := by decide +kernel
theorem d_J_out_4 : decode b_J_out 4 = .ok (.iload_n 1, 1) := by decide +kernel
theorem d_J_out_5 : decode b_J_out 5 = .ok (.aload_n 0, 1) := by decide +kernel
theorem d_J_out_6 : decode b_J_out 6 = .ok (.getfield 102, 3) := by decide +kernel
theorem d_J_out_9 : decode b_J_out 9 = .ok (.getfield 238, 3) := by decide +kernel
theorem d_J_out_12 : decode b_J_out 12 = .ok (.if_icmp .ge 19, 3) := by decide +kernel
theorem d_J_out_31 : decode b_J_out 31 = .ok (.iconst (-1), 1) := by decide +kernel
theorem d_J_out_32 : decode b_J_out 32 = .ok (.ireturn, 1) := by decide +kernel
theorem d_J_parent_0 : decode b_J_parent 0 = .ok (.aload_n 0, 1) := by decide +kernel
theorem d_J_parent_1 : decode b_J_parent 1 = .ok (.getfield 63, 3) := by decide +kernel
theorem d_J_parent_4 : decode b_J_parent 4 = .ok (.iload_n 1, 1) := by decide +kernel
theorem d_J_parent_5 : decode b_J_parent 5 = .ok (.invokevirtual 195, 3) := by decide +kernel
theorem d_J_parent_8 : decode b_J_parent 8 = .ok (.ifCond .eq 15, 3) := by decide +kernel
theorem d_J_parent_23 : decode b_J_parent 23 = .ok (.iconst (-1), 1) := by decide +kernel
theorem d_J_parent_24 : decode b_J_parent 24 = .ok (.ireturn, 1) := by decide +kernel
theorem d_J_place_0 : decode b_J_place 0 = .ok (.aload_n 0, 1) := by decide +kernel
theorem d_J_place_1 : decode b_J_place 1 = .ok (.getfield 106, 3) := by decide +kernel
theorem d_J_place_4 : decode b_J_place 4 = .ok (.ireturn, 1) := by decide +kernel
theorem d_J_spaces_0 : decode b_J_spaces 0 = .ok (.aload_n 0, 1) := by decide +kernel
theorem d_J_spaces_1 : decode b_J_spaces 1 = .ok (.getfield 161, 3) := by decide +kernel
theorem d_J_spaces_4 : decode b_J_spaces 4 = .ok (.ifCond .eq 25, 3) := by decide +kernel
theorem d_J_spaces_29 : decode b_J_spaces 29 = .ok (.iconst (-1), 1) := by decide +kernel
theorem d_J_spaces_30 : decode b_J_spaces 30 = .ok (.ireturn, 1) := by decide +kernel
theorem d_J_steady_0 : decode b_J_steady 0 = .ok (.iconst 1, 1) := by decide +kernel
theorem d_J_steady_1 : decode b_J_steady 1 = .ok (.ireturn, 1) := by decide +kernel
theorem d_J_violations_0 : decode b_J_violations 0 = .ok (.aload_n 0, 1) := by decide +kernel
theorem d_J_violations_1 : decode b_J_violations 1 = .ok (.getfield 161, 3) := by decide +kernel
theorem d_J_violations_4 : decode b_J_violations 4 = .ok (.ifCond .eq 25, 3) := by decide +kernel
theorem d_J_violations_29 : decode b_J_violations 29 = .ok (.iconst (-1), 1) := by decide +kernel
theorem d_J_violations_30 : decode b_J_violations 30 = .ok (.ireturn, 1) := by decide +kernel
theorem d_Tree_has_0 : decode b_Tree_has 0 = .ok (.iload_n 1, 1) := by decide +kernel
theorem d_Tree_has_1 : decode b_Tree_has 1 = .ok (.ifCond .lt 15, 3) := by decide +kernel
theorem d_Tree_has_4 : decode b_Tree_has 4 = .ok (.iload_n 1, 1) := by decide +kernel
theorem d_Tree_has_5 : decode b_Tree_has 5 = .ok (.aload_n 0, 1) := by decide +kernel
theorem d_Tree_has_6 : decode b_Tree_has 6 = .ok (.getfield 52, 3) := by decide +kernel
theorem d_Tree_has_9 : decode b_Tree_has 9 = .ok (.if_icmp .ge 7, 3) := by decide +kernel
theorem d_Tree_has_12 : decode b_Tree_has 12 = .ok (.iconst 1, 1) := by decide +kernel
theorem d_Tree_has_13 : decode b_Tree_has 13 = .ok (.goto 4, 3) := by decide +kernel
theorem d_Tree_has_16 : decode b_Tree_has 16 = .ok (.iconst 0, 1) := by decide +kernel
theorem d_Tree_has_17 : decode b_Tree_has 17 = .ok (.ireturn, 1) := by decide +kernel
theorem d_K_attribute_0 : decode b_K_attribute 0 = .ok (.aload_n 0, 1) := by decide +kernel
theorem d_K_attribute_1 : decode b_K_attribute 1 = .ok (.iconst 0, 1) := by decide +kernel
theorem d_K_attribute_2 : decode b_K_attribute 2 = .ok (.putfield 88, 3) := by decide +kernel
theorem d_K_attribute_5 : decode b_K_attribute 5 = .ok (.aload_n 0, 1) := by decide +kernel
theorem d_K_attribute_6 : decode b_K_attribute 6 = .ok (.iload_n 1, 1) := by decide +kernel
theorem d_K_attribute_7 : decode b_K_attribute 7 = .ok (.invokevirtual 121, 3) := by decide +kernel
theorem d_K_attribute_10 : decode b_K_attribute 10 = .ok (.ifCond .eq 29, 3) := by decide +kernel
theorem d_K_attribute_39 : decode b_K_attribute 39 = .ok (.iconst (-1), 1) := by decide +kernel
theorem d_K_attribute_40 : decode b_K_attribute 40 = .ok (.ireturn, 1) := by decide +kernel
theorem d_K_attributes_0 : decode b_K_attributes 0 = .ok (.aload_n 0, 1) := by decide +kernel
theorem d_K_attributes_1 : decode b_K_attributes 1 = .ok (.iconst 0, 1) := by decide +kernel
theorem d_K_attributes_2 : decode b_K_attributes 2 = .ok (.putfield 88, 3) := by decide +kernel
theorem d_K_attributes_5 : decode b_K_attributes 5 = .ok (.aload_n 0, 1) := by decide +kernel
theorem d_K_attributes_6 : decode b_K_attributes 6 = .ok (.iload_n 1, 1) := by decide +kernel
theorem d_K_attributes_7 : decode b_K_attributes 7 = .ok (.invokevirtual 121, 3) := by decide +kernel
theorem d_K_attributes_10 : decode b_K_attributes 10 = .ok (.ifCond .eq 15, 3) := by decide +kernel
theorem d_K_attributes_25 : decode b_K_attributes 25 = .ok (.iconst (-1), 1) := by decide +kernel
theorem d_K_attributes_26 : decode b_K_attributes 26 = .ok (.ireturn, 1) := by decide +kernel
theorem d_K_back_0 : decode b_K_back 0 = .ok (.aload_n 0, 1) := by decide +kernel
theorem d_K_back_1 : decode b_K_back 1 = .ok (.iconst 0, 1) := by decide +kernel
theorem d_K_back_2 : decode b_K_back 2 = .ok (.putfield 88, 3) := by decide +kernel
theorem d_K_back_5 : decode b_K_back 5 = .ok (.aload_n 0, 1) := by decide +kernel
theorem d_K_back_6 : decode b_K_back 6 = .ok (.getfield 188, 3) := by decide +kernel
theorem d_K_back_9 : decode b_K_back 9 = .ok (.ifCond .eq 12, 3) := by decide +kernel
theorem d_K_back_21 : decode b_K_back 21 = .ok (.iconst (-1), 1) := by decide +kernel
theorem d_K_back_22 : decode b_K_back 22 = .ok (.ireturn, 1) := by decide +kernel
theorem d_K_canonical_0 : decode b_K_canonical 0 = .ok (.aload_n 0, 1) := by decide +kernel
theorem d_K_canonical_1 : decode b_K_canonical 1 = .ok (.iconst 0, 1) := by decide +kernel
theorem d_K_canonical_2 : decode b_K_canonical 2 = .ok (.putfield 88, 3) := by decide +kernel
theorem d_K_canonical_5 : decode b_K_canonical 5 = .ok (.aload_n 0, 1) := by decide +kernel
theorem d_K_canonical_6 : decode b_K_canonical 6 = .ok (.invokevirtual 184, 3) := by decide +kernel
theorem d_K_canonical_9 : decode b_K_canonical 9 = .ok (.istore_n 1, 1) := by decide +kernel
theorem d_K_canonical_10 : decode b_K_canonical 10 = .ok (.iload_n 1, 1) := by decide +kernel
theorem d_K_canonical_11 : decode b_K_canonical 11 = .ok (.ifCond .ne 24, 3) := by decide +kernel
theorem d_K_canonical_35 : decode b_K_canonical 35 = .ok (.iload_n 1, 1) := by decide +kernel
theorem d_K_canonical_36 : decode b_K_canonical 36 = .ok (.ireturn, 1) := by decide +kernel
theorem d_K_change_0 : decode b_K_change 0 = .ok (.aload_n 0, 1) := by decide +kernel
theorem d_K_change_1 : decode b_K_change 1 = .ok (.iconst 0, 1) := by decide +kernel
theorem d_K_change_2 : decode b_K_change 2 = .ok (.putfield 88, 3) := by decide +kernel
theorem d_K_change_5 : decode b_K_change 5 = .ok (.iload_n 1, 1) := by decide +kernel
theorem d_K_change_6 : decode b_K_change 6 = .ok (.ifCond .lt 22, 3) := by decide +kernel
theorem d_K_change_9 : decode b_K_change 9 = .ok (.iload_n 1, 1) := by decide +kernel
theorem d_K_change_10 : decode b_K_change 10 = .ok (.aload_n 0, 1) := by decide +kernel
theorem d_K_change_11 : decode b_K_change 11 = .ok (.getfield 91, 3) := by decide +kernel
theorem d_K_change_14 : decode b_K_change 14 = .ok (.if_icmp .ge 14, 3) := by decide +kernel
theorem d_K_change_28 : decode b_K_change 28 = .ok (.iconst (-1), 1) := by decide +kernel
theorem d_K_change_29 : decode b_K_change 29 = .ok (.ireturn, 1) := by decide +kernel
theorem d_K_characters_0 : decode b_K_characters 0 = .ok (.aload_n 0, 1) := by decide +kernel
theorem d_K_characters_1 : decode b_K_characters 1 = .ok (.iconst 0, 1) := by decide +kernel
theorem d_K_characters_2 : decode b_K_characters 2 = .ok (.putfield 88, 3) := by decide +kernel
theorem d_K_characters_5 : decode b_K_characters 5 = .ok (.aload_n 0, 1) := by decide +kernel
theorem d_K_characters_6 : decode b_K_characters 6 = .ok (.getfield 102, 3) := by decide +kernel
theorem d_K_characters_9 : decode b_K_characters 9 = .ok (.ifCond .eq 13, 3) := by decide +kernel
theorem d_K_characters_22 : decode b_K_characters 22 = .ok (.iconst 0, 1) := by decide +kernel
theorem d_K_characters_23 : decode b_K_characters 23 = .ok (.ireturn, 1) := by decide +kernel
theorem d_K_counted_0 : decode b_K_counted 0 = .ok (.aload_n 0, 1) := by decide +kernel
theorem d_K_counted_1 : decode b_K_counted 1 = .ok (.iconst 0, 1) := by decide +kernel
theorem d_K_counted_2 : decode b_K_counted 2 = .ok (.putfield 88, 3) := by decide +kernel
theorem d_K_counted_5 : decode b_K_counted 5 = .ok (.aload_n 0, 1) := by decide +kernel
theorem d_K_counted_6 : decode b_K_counted 6 = .ok (.getfield 102, 3) := by decide +kernel
theorem d_K_counted_9 : decode b_K_counted 9 = .ok (.ifCond .eq 13, 3) := by decide +kernel
theorem d_K_counted_22 : decode b_K_counted 22 = .ok (.iconst 0, 1) := by decide +kernel
theorem d_K_counted_23 : decode b_K_counted 23 = .ok (.ireturn, 1) := by decide +kernel
theorem d_K_elements_0 : decode b_K_elements 0 = .ok (.aload_n 0, 1) := by decide +kernel
theorem d_K_elements_1 : decode b_K_elements 1 = .ok (.iconst 0, 1) := by decide +kernel
theorem d_K_elements_2 : decode b_K_elements 2 = .ok (.putfield 88, 3) := by decide +kernel
theorem d_K_elements_5 : decode b_K_elements 5 = .ok (.aload_n 0, 1) := by decide +kernel
theorem d_K_elements_6 : decode b_K_elements 6 = .ok (.getfield 102, 3) := by decide +kernel
theorem d_K_elements_9 : decode b_K_elements 9 = .ok (.ifCond .eq 13, 3) := by decide +kernel
theorem d_K_elements_22 : decode b_K_elements 22 = .ok (.iconst 0, 1) := by decide +kernel
theorem d_K_elements_23 : decode b_K_elements 23 = .ok (.ireturn, 1) := by decide +kernel
theorem d_K_fault_0 : decode b_K_fault 0 = .ok (.aload_n 0, 1) := by decide +kernel
theorem d_K_fault_1 : decode b_K_fault 1 = .ok (.iconst 0, 1) := by decide +kernel
theorem d_K_fault_2 : decode b_K_fault 2 = .ok (.putfield 88, 3) := by decide +kernel
theorem d_K_fault_5 : decode b_K_fault 5 = .ok (.aload_n 0, 1) := by decide +kernel
theorem d_K_fault_6 : decode b_K_fault 6 = .ok (.getfield 109, 3) := by decide +kernel
theorem d_K_fault_9 : decode b_K_fault 9 = .ok (.ireturn, 1) := by decide +kernel
theorem d_K_isElement_0 : decode b_K_isElement 0 = .ok (.aload_n 0, 1) := by decide +kernel
theorem d_K_isElement_1 : decode b_K_isElement 1 = .ok (.getfield 102, 3) := by decide +kernel
theorem d_K_isElement_4 : decode b_K_isElement 4 = .ok (.ifCond .eq 22, 3) := by decide +kernel
theorem d_K_isElement_26 : decode b_K_isElement 26 = .ok (.iconst 0, 1) := by decide +kernel
theorem d_K_isElement_27 : decode b_K_isElement 27 = .ok (.ireturn, 1) := by decide +kernel
theorem d_K_name_0 : decode b_K_name 0 = .ok (.aload_n 0, 1) := by decide +kernel
theorem d_K_name_1 : decode b_K_name 1 = .ok (.iconst 0, 1) := by decide +kernel
theorem d_K_name_2 : decode b_K_name 2 = .ok (.putfield 88, 3) := by decide +kernel
theorem d_K_name_5 : decode b_K_name 5 = .ok (.aload_n 0, 1) := by decide +kernel
theorem d_K_name_6 : decode b_K_name 6 = .ok (.iload_n 1, 1) := by decide +kernel
theorem d_K_name_7 : decode b_K_name 7 = .ok (.invokevirtual 121, 3) := by decide +kernel
theorem d_K_name_10 : decode b_K_name 10 = .ok (.ifCond .eq 20, 3) := by decide +kernel
theorem d_K_name_30 : decode b_K_name 30 = .ok (.iconst (-1), 1) := by decide +kernel
theorem d_K_name_31 : decode b_K_name 31 = .ok (.ireturn, 1) := by decide +kernel
theorem d_K_out_0 : decode b_K_out 0 = .ok (.aload_n 0, 1) := by decide +kernel
theorem d_K_out_1 : decode b_K_out 1 = .ok (.iconst 0, 1) := by decide +kernel
theorem d_K_out_2 : decode b_K_out 2 = .ok (.putfield 88, 3) := by decide +kernel
theorem d_K_out_5 : decode b_K_out 5 = .ok (.iload_n 1, 1) := by decide +kernel
theorem d_K_out_6 : decode b_K_out 6 = .ok (.ifCond .lt 24, 3) := by decide +kernel
theorem d_K_out_9 : decode b_K_out 9 = .ok (.iload_n 1, 1) := by decide +kernel
theorem d_K_out_10 : decode b_K_out 10 = .ok (.aload_n 0, 1) := by decide +kernel
theorem d_K_out_11 : decode b_K_out 11 = .ok (.getfield 188, 3) := by decide +kernel
theorem d_K_out_14 : decode b_K_out 14 = .ok (.if_icmp .ge 16, 3) := by decide +kernel
theorem d_K_out_30 : decode b_K_out 30 = .ok (.iconst (-1), 1) := by decide +kernel
theorem d_K_out_31 : decode b_K_out 31 = .ok (.ireturn, 1) := by decide +kernel
theorem d_K_parent_0 : decode b_K_parent 0 = .ok (.aload_n 0, 1) := by decide +kernel
theorem d_K_parent_1 : decode b_K_parent 1 = .ok (.iconst 0, 1) := by decide +kernel
theorem d_K_parent_2 : decode b_K_parent 2 = .ok (.putfield 88, 3) := by decide +kernel
theorem d_K_parent_5 : decode b_K_parent 5 = .ok (.aload_n 0, 1) := by decide +kernel
theorem d_K_parent_6 : decode b_K_parent 6 = .ok (.iload_n 1, 1) := by decide +kernel
theorem d_K_parent_7 : decode b_K_parent 7 = .ok (.invokevirtual 121, 3) := by decide +kernel
theorem d_K_parent_10 : decode b_K_parent 10 = .ok (.ifCond .eq 15, 3) := by decide +kernel
theorem d_K_parent_25 : decode b_K_parent 25 = .ok (.iconst (-1), 1) := by decide +kernel
theorem d_K_parent_26 : decode b_K_parent 26 = .ok (.ireturn, 1) := by decide +kernel
theorem d_K_place_0 : decode b_K_place 0 = .ok (.aload_n 0, 1) := by decide +kernel
theorem d_K_place_1 : decode b_K_place 1 = .ok (.iconst 0, 1) := by decide +kernel
theorem d_K_place_2 : decode b_K_place 2 = .ok (.putfield 88, 3) := by decide +kernel
theorem d_K_place_5 : decode b_K_place 5 = .ok (.aload_n 0, 1) := by decide +kernel
theorem d_K_place_6 : decode b_K_place 6 = .ok (.getfield 77, 3) := by decide +kernel
theorem d_K_place_9 : decode b_K_place 9 = .ok (.ireturn, 1) := by decide +kernel
theorem d_K_refusal_0 : decode b_K_refusal 0 = .ok (.aload_n 0, 1) := by decide +kernel
theorem d_K_refusal_1 : decode b_K_refusal 1 = .ok (.getfield 102, 3) := by decide +kernel
theorem d_K_refusal_4 : decode b_K_refusal 4 = .ok (.ifCond .ne 5, 3) := by decide +kernel
theorem d_K_refusal_7 : decode b_K_refusal 7 = .ok (.iconst (-1), 1) := by decide +kernel
theorem d_K_refusal_8 : decode b_K_refusal 8 = .ok (.ireturn, 1) := by decide +kernel
theorem d_K_spaces_0 : decode b_K_spaces 0 = .ok (.aload_n 0, 1) := by decide +kernel
theorem d_K_spaces_1 : decode b_K_spaces 1 = .ok (.iconst 0, 1) := by decide +kernel
theorem d_K_spaces_2 : decode b_K_spaces 2 = .ok (.putfield 88, 3) := by decide +kernel
theorem d_K_spaces_5 : decode b_K_spaces 5 = .ok (.aload_n 0, 1) := by decide +kernel
theorem d_K_spaces_6 : decode b_K_spaces 6 = .ok (.getfield 102, 3) := by decide +kernel
theorem d_K_spaces_9 : decode b_K_spaces 9 = .ok (.ifCond .eq 25, 3) := by decide +kernel
theorem d_K_spaces_34 : decode b_K_spaces 34 = .ok (.iconst (-1), 1) := by decide +kernel
theorem d_K_spaces_35 : decode b_K_spaces 35 = .ok (.ireturn, 1) := by decide +kernel
theorem d_K_steady_0 : decode b_K_steady 0 = .ok (.aload_n 0, 1) := by decide +kernel
theorem d_K_steady_1 : decode b_K_steady 1 = .ok (.iconst 0, 1) := by decide +kernel
theorem d_K_steady_2 : decode b_K_steady 2 = .ok (.putfield 88, 3) := by decide +kernel
theorem d_K_steady_5 : decode b_K_steady 5 = .ok (.aload_n 0, 1) := by decide +kernel
theorem d_K_steady_6 : decode b_K_steady 6 = .ok (.invokevirtual 184, 3) := by decide +kernel
theorem d_K_steady_9 : decode b_K_steady 9 = .ok (.ifCond .eq 5, 3) := by decide +kernel
theorem d_K_steady_12 : decode b_K_steady 12 = .ok (.iconst 1, 1) := by decide +kernel
theorem d_K_steady_13 : decode b_K_steady 13 = .ok (.ireturn, 1) := by decide +kernel
theorem d_K_thrown_0 : decode b_K_thrown 0 = .ok (.aload_n 0, 1) := by decide +kernel
theorem d_K_thrown_1 : decode b_K_thrown 1 = .ok (.getfield 88, 3) := by decide +kernel
theorem d_K_thrown_4 : decode b_K_thrown 4 = .ok (.ireturn, 1) := by decide +kernel
theorem d_K_violations_0 : decode b_K_violations 0 = .ok (.aload_n 0, 1) := by decide +kernel
theorem d_K_violations_1 : decode b_K_violations 1 = .ok (.iconst 0, 1) := by decide +kernel
theorem d_K_violations_2 : decode b_K_violations 2 = .ok (.putfield 88, 3) := by decide +kernel
theorem d_K_violations_5 : decode b_K_violations 5 = .ok (.aload_n 0, 1) := by decide +kernel
theorem d_K_violations_6 : decode b_K_violations 6 = .ok (.getfield 102, 3) := by decide +kernel
theorem d_K_violations_9 : decode b_K_violations 9 = .ok (.ifCond .eq 25, 3) := by decide +kernel
theorem d_K_violations_34 : decode b_K_violations 34 = .ok (.iconst (-1), 1) := by decide +kernel
theorem d_K_violations_35 : decode b_K_violations 35 = .ok (.ireturn, 1) := by decide +kernel
set_option maxHeartbeats 4000000 in
set_option maxRecDepth 100000 in
theorem c_J_fault (l : Launch) (D : va_G) (tI tB tZ tL : ClassId) (X : (Nat → Prop) → State → Prop) (hX : Ro X) (h0 : Nat) (f : Int32) (fs : List Value) (g_fs_lastFault : fs[13]? = some (.int f)) : CtI l D tI tB tZ tL X y_J_fault b_J_fault 1 .int ({ frames := 0, cells := 0, slots := 0, locals := 0 }) [.ref h0] [(h0, .inr (0, fs))] (S := Unit) (fun (r : Int32) (_ : Unit) => r = f) (fun _ => [(h0, .inr (0, fs))]) := by
  refine CtI.start hX (by decide) (Nat.le_of_ble_eq_true rfl) ?_
  intro p e s m args below meth c A ls C hr hlk hW hl
  refine W.nameQ (fun Q hQ => ?_)
  have hx := C.1.1
  have hb := C.1.2.1
  have hown := C.1.2.2.2.1
  have hT := C.1.2.2.2.2
  have hl : lv_has ls 1 [(0, .ref h0)] := hl
  refine lv_aload_n hx hb d_J_fault_0 rfl (lv_at hl 0 rfl) ?_
  refine r_get C hW 0 rfl k_J i_J 13 (by decide) g_fs_lastFault w_799 d_J_fault_1 ?_
  rw [hQ]
  exact r_iret C hr hlk hW rfl () rfl [0] (by decide) rfl d_J_fault_4 (by decide) (by decide)
set_option maxHeartbeats 4000000 in
set_option maxRecDepth 100000 in
theorem c_J_place (l : Launch) (D : va_G) (tI tB tZ tL : ClassId) (X : (Nat → Prop) → State → Prop) (hX : Ro X) (h0 : Nat) (f : Int32) (fs : List Value) (g_fs_lastPlace : fs[14]? = some (.int f)) : CtI l D tI tB tZ tL X y_J_place b_J_place 1 .int ({ frames := 0, cells := 0, slots := 0, locals := 0 }) [.ref h0] [(h0, .inr (0, fs))] (S := Unit) (fun (r : Int32) (_ : Unit) => r = f) (fun _ => [(h0, .inr (0, fs))]) := by
  refine CtI.start hX (by decide) (Nat.le_of_ble_eq_true rfl) ?_
  intro p e s m args below meth c A ls C hr hlk hW hl
  refine W.nameQ (fun Q hQ => ?_)
  have hx := C.1.1
  have hb := C.1.2.1
  have hown := C.1.2.2.2.1
  have hT := C.1.2.2.2.2
  have hl : lv_has ls 1 [(0, .ref h0)] := hl
  refine lv_aload_n hx hb d_J_place_0 rfl (lv_at hl 0 rfl) ?_
  refine r_get C hW 0 rfl k_J i_J 14 (by decide) g_fs_lastPlace w_800 d_J_place_1 ?_
  rw [hQ]
  exact r_iret C hr hlk hW rfl () rfl [0] (by decide) rfl d_J_place_4 (by decide) (by decide)
set_option maxHeartbeats 4000000 in
set_option maxRecDepth 100000 in
theorem c_J_steady (l : Launch) (D : va_G) (tI tB tZ tL : ClassId) (X : (Nat → Prop) → State → Prop) (hX : Ro X) (h0 : Nat) (fs : List Value)  : CtI l D tI tB tZ tL X y_J_steady b_J_steady 1 .boolean ({ frames := 0, cells := 0, slots := 0, locals := 0 }) [.ref h0] [(h0, .inr (0, fs))] (S := Unit) (fun (r : Int32) (_ : Unit) => r = 1) (fun _ => [(h0, .inr (0, fs))]) := by
  refine CtI.start hX (by decide) (Nat.le_of_ble_eq_true rfl) ?_
  intro p e s m args below meth c A ls C hr hlk hW hl
  refine W.nameQ (fun Q hQ => ?_)
  have hx := C.1.1
  have hb := C.1.2.1
  have hown := C.1.2.2.2.1
  have hT := C.1.2.2.2.2
  have hl : lv_has ls 1 [(0, .ref h0)] := hl
  refine lv_iconst (v := 1) hx hb d_J_steady_0 (by decide) ?_
  rw [hQ]
  exact r_iret C hr hlk hW rfl () rfl [0] (by decide) rfl d_J_steady_1 (by decide) (by decide)
set_option maxHeartbeats 4000000 in
set_option maxRecDepth 100000 in
theorem c_J_violations0 (l : Launch) (D : va_G) (tI tB tZ tL : ClassId) (X : (Nat → Prop) → State → Prop) (hX : Ro X) (h0 : Nat) (k : Int32) (fs : List Value) (g_fs_atHand : fs[12]? = some (.int 0)) : CtI l D tI tB tZ tL X y_J_violations b_J_violations 2 .int ({ frames := 0, cells := 0, slots := 0, locals := 0 }) [.ref h0, .int k] [(h0, .inr (0, fs))] (S := Unit) (fun (r : Int32) (_ : Unit) => r = (-1)) (fun _ => [(h0, .inr (0, fs))]) := by
  refine CtI.start hX (by decide) (Nat.le_of_ble_eq_true rfl) ?_
  intro p e s m args below meth c A ls C hr hlk hW hl
  refine W.nameQ (fun Q hQ => ?_)
  have hx := C.1.1
  have hb := C.1.2.1
  have hown := C.1.2.2.2.1
  have hT := C.1.2.2.2.2
  have hl : lv_has ls 2 [(0, .ref h0), (1, .int k)] := hl
  refine lv_aload_n hx hb d_J_violations_0 rfl (lv_at hl 0 rfl) ?_
  refine r_get C hW 0 rfl k_J i_J 12 (by decide) g_fs_atHand w_798 d_J_violations_1 ?_
  refine lv_if_eq (tgt := 29) hx hb d_J_violations_4 (by decide) (fun c_4 => ?_) (fun c_4 => absurd rfl c_4)
  refine lv_iconst (v := (-1)) hx hb d_J_violations_29 (by decide) ?_
  rw [hQ]
  exact r_iret C hr hlk hW rfl () rfl [0] (by decide) rfl d_J_violations_30 (by decide) (by decide)
set_option maxHeartbeats 4000000 in
set_option maxRecDepth 100000 in
theorem c_J_spaces0 (l : Launch) (D : va_G) (tI tB tZ tL : ClassId) (X : (Nat → Prop) → State → Prop) (hX : Ro X) (h0 : Nat) (k : Int32) (fs : List Value) (g_fs_atHand : fs[12]? = some (.int 0)) : CtI l D tI tB tZ tL X y_J_spaces b_J_spaces 2 .int ({ frames := 0, cells := 0, slots := 0, locals := 0 }) [.ref h0, .int k] [(h0, .inr (0, fs))] (S := Unit) (fun (r : Int32) (_ : Unit) => r = (-1)) (fun _ => [(h0, .inr (0, fs))]) := by
  refine CtI.start hX (by decide) (Nat.le_of_ble_eq_true rfl) ?_
  intro p e s m args below meth c A ls C hr hlk hW hl
  refine W.nameQ (fun Q hQ => ?_)
  have hx := C.1.1
  have hb := C.1.2.1
  have hown := C.1.2.2.2.1
  have hT := C.1.2.2.2.2
  have hl : lv_has ls 2 [(0, .ref h0), (1, .int k)] := hl
  refine lv_aload_n hx hb d_J_spaces_0 rfl (lv_at hl 0 rfl) ?_
  refine r_get C hW 0 rfl k_J i_J 12 (by decide) g_fs_atHand w_798 d_J_spaces_1 ?_
  refine lv_if_eq (tgt := 29) hx hb d_J_spaces_4 (by decide) (fun c_4 => ?_) (fun c_4 => absurd rfl c_4)
  refine lv_iconst (v := (-1)) hx hb d_J_spaces_29 (by decide) ?_
  rw [hQ]
  exact r_iret C hr hlk hW rfl () rfl [0] (by decide) rfl d_J_spaces_30 (by decide) (by decide)
set_option maxHeartbeats 4000000 in
set_option maxRecDepth 100000 in
theorem c_J_counted0 (l : Launch) (D : va_G) (tI tB tZ tL : ClassId) (X : (Nat → Prop) → State → Prop) (hX : Ro X) (h0 : Nat) (fs : List Value) (g_fs_atHand : fs[12]? = some (.int 0)) : CtI l D tI tB tZ tL X y_J_counted b_J_counted 1 .int ({ frames := 0, cells := 0, slots := 0, locals := 0 }) [.ref h0] [(h0, .inr (0, fs))] (S := Unit) (fun (r : Int32) (_ : Unit) => r = 0) (fun _ => [(h0, .inr (0, fs))]) := by
  refine CtI.start hX (by decide) (Nat.le_of_ble_eq_true rfl) ?_
  intro p e s m args below meth c A ls C hr hlk hW hl
  refine W.nameQ (fun Q hQ => ?_)
  have hx := C.1.1
  have hb := C.1.2.1
  have hown := C.1.2.2.2.1
  have hT := C.1.2.2.2.2
  have hl : lv_has ls 1 [(0, .ref h0)] := hl
  refine lv_aload_n hx hb d_J_counted_0 rfl (lv_at hl 0 rfl) ?_
  refine r_get C hW 0 rfl k_J i_J 12 (by decide) g_fs_atHand w_798 d_J_counted_1 ?_
  refine lv_if_eq (tgt := 17) hx hb d_J_counted_4 (by decide) (fun c_4 => ?_) (fun c_4 => absurd rfl c_4)
  refine lv_iconst (v := 0) hx hb d_J_counted_17 (by decide) ?_
  rw [hQ]
  exact r_iret C hr hlk hW rfl () rfl [0] (by decide) rfl d_J_counted_18 (by decide) (by decide)
set_option maxHeartbeats 4000000 in
set_option maxRecDepth 100000 in
theorem c_J_canonical0 (l : Launch) (D : va_G) (tI tB tZ tL : ClassId) (X : (Nat → Prop) → State → Prop) (hX : Ro X) (h0 : Nat) (fs : List Value) (g_fs_atHand : fs[12]? = some (.int 0)) : CtI l D tI tB tZ tL X y_J_canonical b_J_canonical 1 .int ({ frames := 0, cells := 0, slots := 0, locals := 0 }) [.ref h0] [(h0, .inr (0, fs))] (S := Unit) (fun (r : Int32) (_ : Unit) => r = (-1)) (fun _ => [(h0, .inr (0, fs))]) := by
  refine CtI.start hX (by decide) (Nat.le_of_ble_eq_true rfl) ?_
  intro p e s m args below meth c A ls C hr hlk hW hl
  refine W.nameQ (fun Q hQ => ?_)
  have hx := C.1.1
  have hb := C.1.2.1
  have hown := C.1.2.2.2.1
  have hT := C.1.2.2.2.2
  have hl : lv_has ls 1 [(0, .ref h0)] := hl
  refine lv_aload_n hx hb d_J_canonical_0 rfl (lv_at hl 0 rfl) ?_
  refine r_get C hW 0 rfl k_J i_J 12 (by decide) g_fs_atHand w_798 d_J_canonical_1 ?_
  refine lv_if_ne (tgt := 9) hx hb d_J_canonical_4 (by decide) (fun c_4 => absurd rfl c_4) (fun c_4 => ?_)
  refine lv_iconst (v := (-1)) hx hb d_J_canonical_7 (by decide) ?_
  rw [hQ]
  exact r_iret C hr hlk hW rfl () rfl [0] (by decide) rfl d_J_canonical_8 (by decide) (by decide)
set_option maxHeartbeats 4000000 in
set_option maxRecDepth 100000 in
theorem c_J_elements (l : Launch) (D : va_G) (tI tB tZ tL : ClassId) (X : (Nat → Prop) → State → Prop) (hX : Ro X) (h0 h1 : Nat) (ne nl : Int32) (fs : List Value) (g_fs_tree : fs[7]? = some (.ref h1)) (ft : List Value) (g_ft_elements : ft[2]? = some (.int ne)) (g_ft_letters : ft[16]? = some (.int nl)) : CtI l D tI tB tZ tL X y_J_elements b_J_elements 1 .int ({ frames := 0, cells := 0, slots := 0, locals := 0 }) [.ref h0] [(h0, .inr (0, fs)), (h1, .inr (6, ft))] (S := Unit) (fun (r : Int32) (_ : Unit) => r = ne) (fun _ => [(h0, .inr (0, fs)), (h1, .inr (6, ft))]) := by
  refine CtI.start hX (by decide) (Nat.le_of_ble_eq_true rfl) ?_
  intro p e s m args below meth c A ls C hr hlk hW hl
  refine W.nameQ (fun Q hQ => ?_)
  have hx := C.1.1
  have hb := C.1.2.1
  have hown := C.1.2.2.2.1
  have hT := C.1.2.2.2.2
  have hl : lv_has ls 1 [(0, .ref h0)] := hl
  refine lv_aload_n hx hb d_J_elements_0 rfl (lv_at hl 0 rfl) ?_
  refine r_get C hW 0 rfl k_J i_J 7 (by decide) g_fs_tree w_793 d_J_elements_1 ?_
  refine r_get C hW 1 rfl k_Tree i_Tree 2 (by decide) g_ft_elements w_504 d_J_elements_4 ?_
  rw [hQ]
  exact r_iret C hr hlk hW rfl () rfl [0, 1] (by decide) rfl d_J_elements_7 (by decide) (by decide)
set_option maxHeartbeats 4000000 in
set_option maxRecDepth 100000 in
theorem c_J_characters (l : Launch) (D : va_G) (tI tB tZ tL : ClassId) (X : (Nat → Prop) → State → Prop) (hX : Ro X) (h0 h1 : Nat) (ne nl : Int32) (fs : List Value) (g_fs_tree : fs[7]? = some (.ref h1)) (ft : List Value) (g_ft_elements : ft[2]? = some (.int ne)) (g_ft_letters : ft[16]? = some (.int nl)) : CtI l D tI tB tZ tL X y_J_characters b_J_characters 1 .int ({ frames := 0, cells := 0, slots := 0, locals := 0 }) [.ref h0] [(h0, .inr (0, fs)), (h1, .inr (6, ft))] (S := Unit) (fun (r : Int32) (_ : Unit) => r = nl) (fun _ => [(h0, .inr (0, fs)), (h1, .inr (6, ft))]) := by
  refine CtI.start hX (by decide) (Nat.le_of_ble_eq_true rfl) ?_
  intro p e s m args below meth c A ls C hr hlk hW hl
  refine W.nameQ (fun Q hQ => ?_)
  have hx := C.1.1
  have hb := C.1.2.1
  have hown := C.1.2.2.2.1
  have hT := C.1.2.2.2.2
  have hl : lv_has ls 1 [(0, .ref h0)] := hl
  refine lv_aload_n hx hb d_J_characters_0 rfl (lv_at hl 0 rfl) ?_
  refine r_get C hW 0 rfl k_J i_J 7 (by decide) g_fs_tree w_793 d_J_characters_1 ?_
  refine r_get C hW 1 rfl k_Tree i_Tree 16 (by decide) g_ft_letters w_553 d_J_characters_4 ?_
  rw [hQ]
  exact r_iret C hr hlk hW rfl () rfl [0, 1] (by decide) rfl d_J_characters_7 (by decide) (by decide)
set_option maxHeartbeats 4000000 in
set_option maxRecDepth 100000 in
/-- Tree.has(k) -/
theorem c_Tree_has (l : Launch) (D : va_G) (tI tB tZ tL : ClassId) (X : (Nat → Prop) → State → Prop) (hX : Ro X) (h0 : Nat) (ne k : Int32) (ft : List Value) (g_ft_elements : ft[2]? = some (.int ne)) : CtI l D tI tB tZ tL X y_Tree_has b_Tree_has 2 .boolean ({ frames := 0, cells := 0, slots := 0, locals := 0 }) [.ref h0, .int k] [(h0, .inr (6, ft))] (S := Unit) (fun (r : Int32) (_ : Unit) => (r = 1 ∧ 0 ≤ k ∧ k < ne) ∨ (r = 0 ∧ (k < 0 ∨ ne ≤ k))) (fun _ => [(h0, .inr (6, ft))]) := by
  refine CtI.start hX (by decide) (Nat.le_of_ble_eq_true rfl) ?_
  intro p e s m args below meth c A ls C hr hlk hW hl
  refine W.nameQ (fun Q hQ => ?_)
  have hx := C.1.1
  have hb := C.1.2.1
  have hown := C.1.2.2.2.1
  have hT := C.1.2.2.2.2
  have hl : lv_has ls 2 [(0, .ref h0), (1, .int k)] := hl
  refine lv_iload_n hx hb d_Tree_has_0 rfl (lv_at hl 1 rfl) ?_
  refine lv_if_lt (tgt := 16) hx hb d_Tree_has_1 (by decide) (fun c_1 => ?_) (fun c_1 => ?_)
  · refine lv_iconst (v := 0) hx hb d_Tree_has_16 (by decide) ?_
    rw [hQ]
    exact r_iret C hr hlk hW rfl () (by first | exact Or.inr ⟨rfl, Or.inl c_1⟩ | exact Or.inr ⟨rfl, Or.inr c_9⟩ | exact Or.inl ⟨rfl, Int32.not_lt.mp c_1, Int32.not_le.mp c_9⟩) [0] (by decide) rfl d_Tree_has_17 (by decide) (by decide)
  · refine lv_iload_n hx hb d_Tree_has_4 rfl (lv_at hl 1 rfl) ?_
    refine lv_aload_n hx hb d_Tree_has_5 rfl (lv_at hl 0 rfl) ?_
    refine r_get C hW 0 rfl k_Tree i_Tree 2 (by decide) g_ft_elements w_499 d_Tree_has_6 ?_
    refine lv_icmp_ge (tgt := 16) hx hb d_Tree_has_9 (by decide) (fun c_9 => ?_) (fun c_9 => ?_)
    · refine lv_iconst (v := 0) hx hb d_Tree_has_16 (by decide) ?_
      rw [hQ]
      exact r_iret C hr hlk hW rfl () (by first | exact Or.inr ⟨rfl, Or.inl c_1⟩ | exact Or.inr ⟨rfl, Or.inr c_9⟩ | exact Or.inl ⟨rfl, Int32.not_lt.mp c_1, Int32.not_le.mp c_9⟩) [0] (by decide) rfl d_Tree_has_17 (by decide) (by decide)
    · refine lv_iconst (v := 1) hx hb d_Tree_has_12 (by decide) ?_
      refine lv_goto (tgt := 17) hx hb d_Tree_has_13 (by decide) ?_
      rw [hQ]
      exact r_iret C hr hlk hW rfl () (by first | exact Or.inr ⟨rfl, Or.inl c_1⟩ | exact Or.inr ⟨rfl, Or.inr c_9⟩ | exact Or.inl ⟨rfl, Int32.not_lt.mp c_1, Int32.not_le.mp c_9⟩) [0] (by decide) rfl d_Tree_has_17 (by decide) (by decide)
set_option maxHeartbeats 4000000 in
set_option maxRecDepth 100000 in
theorem c_J_attributes0 (l : Launch) (D : va_G) (tI tB tZ tL : ClassId) (X : (Nat → Prop) → State → Prop) (hX : Ro X) (h0 h1 : Nat) (k : Int32) (fs : List Value) (g_fs_tree : fs[7]? = some (.ref h1)) (ft : List Value) (g_ft_elements : ft[2]? = some (.int 0)) : CtI l D tI tB tZ tL X y_J_attributes b_J_attributes 2 .int ({ frames := 1, cells := 0, slots := 0, locals := 21 }) [.ref h0, .int k] [(h0, .inr (0, fs)), (h1, .inr (6, ft))] (S := Unit) (fun (r : Int32) (_ : Unit) => r = (-1)) (fun _ => [(h0, .inr (0, fs)), (h1, .inr (6, ft))]) := by
  refine CtI.start hX (by decide) (Nat.le_of_ble_eq_true rfl) ?_
  intro p e s m args below meth c A ls C hr hlk hW hl
  refine W.nameQ (fun Q hQ => ?_)
  have hx := C.1.1
  have hb := C.1.2.1
  have hown := C.1.2.2.2.1
  have hT := C.1.2.2.2.2
  have hl : lv_has ls 2 [(0, .ref h0), (1, .int k)] := hl
  refine lv_aload_n hx hb d_J_attributes_0 rfl (lv_at hl 0 rfl) ?_
  refine r_get C hW 0 rfl k_J i_J 7 (by decide) g_fs_tree w_793 d_J_attributes_1 ?_
  refine lv_iload_n hx hb d_J_attributes_4 rfl (lv_at hl 1 rfl) ?_
  refine r_callVi [.int k] [] C hl.1 hW (c_Tree_has l D tI tB tZ tL X hX h1 0 k ft g_ft_elements) ok_Tree_has w_1909 (wr := [(h0, .inr (0, fs))]) [1] [0] rfl rfl (by decide) (by decide) (by decide) 0 rfl k_Tree rfl (by decide) (Nat.le_of_ble_eq_true rfl) (by decide) d_J_attributes_5 (fun r5 u H locs hu hW => ?_)
  have hr0 : r5 = 0 := by
    rcases hu with q | q
    · exact absurd q.2.2 (Int32.not_lt.mpr q.2.1)
    · exact q.1
  subst hr0
  have hW : Wd D A s [(h0, .inr (0, fs)), (h1, .inr (6, ft))] H _ := hW
  refine lv_if_eq (tgt := 23) hx hb d_J_attributes_8 (by decide) (fun c_8 => ?_) (fun c_8 => absurd rfl c_8)
  refine lv_iconst (v := (-1)) hx hb d_J_attributes_23 (by decide) ?_
  rw [hQ]
  exact r_iret C hr hlk hW rfl () rfl [0, 1] (by decide) rfl d_J_attributes_24 (by decide) (by decide)
set_option maxHeartbeats 4000000 in
set_option maxRecDepth 100000 in
theorem c_J_parent0 (l : Launch) (D : va_G) (tI tB tZ tL : ClassId) (X : (Nat → Prop) → State → Prop) (hX : Ro X) (h0 h1 : Nat) (k : Int32) (fs : List Value) (g_fs_tree : fs[7]? = some (.ref h1)) (ft : List Value) (g_ft_elements : ft[2]? = some (.int 0)) : CtI l D tI tB tZ tL X y_J_parent b_J_parent 2 .int ({ frames := 1, cells := 0, slots := 0, locals := 21 }) [.ref h0, .int k] [(h0, .inr (0, fs)), (h1, .inr (6, ft))] (S := Unit) (fun (r : Int32) (_ : Unit) => r = (-1)) (fun _ => [(h0, .inr (0, fs)), (h1, .inr (6, ft))]) := by
  refine CtI.start hX (by decide) (Nat.le_of_ble_eq_true rfl) ?_
  intro p e s m args below meth c A ls C hr hlk hW hl
  refine W.nameQ (fun Q hQ => ?_)
  have hx := C.1.1
  have hb := C.1.2.1
  have hown := C.1.2.2.2.1
  have hT := C.1.2.2.2.2
  have hl : lv_has ls 2 [(0, .ref h0), (1, .int k)] := hl
  refine lv_aload_n hx hb d_J_parent_0 rfl (lv_at hl 0 rfl) ?_
  refine r_get C hW 0 rfl k_J i_J 7 (by decide) g_fs_tree w_793 d_J_parent_1 ?_
  refine lv_iload_n hx hb d_J_parent_4 rfl (lv_at hl 1 rfl) ?_
  refine r_callVi [.int k] [] C hl.1 hW (c_Tree_has l D tI tB tZ tL X hX h1 0 k ft g_ft_elements) ok_Tree_has w_1909 (wr := [(h0, .inr (0, fs))]) [1] [0] rfl rfl (by decide) (by decide) (by decide) 0 rfl k_Tree rfl (by decide) (Nat.le_of_ble_eq_true rfl) (by decide) d_J_parent_5 (fun r5 u H locs hu hW => ?_)
  have hr0 : r5 = 0 := by
    rcases hu with q | q
    · exact absurd q.2.2 (Int32.not_lt.mpr q.2.1)
    · exact q.1
  subst hr0
  have hW : Wd D A s [(h0, .inr (0, fs)), (h1, .inr (6, ft))] H _ := hW
  refine lv_if_eq (tgt := 23) hx hb d_J_parent_8 (by decide) (fun c_8 => ?_) (fun c_8 => absurd rfl c_8)
  refine lv_iconst (v := (-1)) hx hb d_J_parent_23 (by decide) ?_
  rw [hQ]
  exact r_iret C hr hlk hW rfl () rfl [0, 1] (by decide) rfl d_J_parent_24 (by decide) (by decide)
set_option maxHeartbeats 4000000 in
set_option maxRecDepth 100000 in
theorem c_J_name0 (l : Launch) (D : va_G) (tI tB tZ tL : ClassId) (X : (Nat → Prop) → State → Prop) (hX : Ro X) (h0 h1 : Nat) (k i : Int32) (fs : List Value) (g_fs_tree : fs[7]? = some (.ref h1)) (ft : List Value) (g_ft_elements : ft[2]? = some (.int 0)) : CtI l D tI tB tZ tL X y_J_name b_J_name 3 .int ({ frames := 1, cells := 0, slots := 0, locals := 21 }) [.ref h0, .int k, .int i] [(h0, .inr (0, fs)), (h1, .inr (6, ft))] (S := Unit) (fun (r : Int32) (_ : Unit) => r = (-1)) (fun _ => [(h0, .inr (0, fs)), (h1, .inr (6, ft))]) := by
  refine CtI.start hX (by decide) (Nat.le_of_ble_eq_true rfl) ?_
  intro p e s m args below meth c A ls C hr hlk hW hl
  refine W.nameQ (fun Q hQ => ?_)
  have hx := C.1.1
  have hb := C.1.2.1
  have hown := C.1.2.2.2.1
  have hT := C.1.2.2.2.2
  have hl : lv_has ls 3 [(0, .ref h0), (1, .int k), (2, .int i)] := hl
  refine lv_aload_n hx hb d_J_name_0 rfl (lv_at hl 0 rfl) ?_
  refine r_get C hW 0 rfl k_J i_J 7 (by decide) g_fs_tree w_793 d_J_name_1 ?_
  refine lv_iload_n hx hb d_J_name_4 rfl (lv_at hl 1 rfl) ?_
  refine r_callVi [.int k] [] C hl.1 hW (c_Tree_has l D tI tB tZ tL X hX h1 0 k ft g_ft_elements) ok_Tree_has w_1909 (wr := [(h0, .inr (0, fs))]) [1] [0] rfl rfl (by decide) (by decide) (by decide) 0 rfl k_Tree rfl (by decide) (Nat.le_of_ble_eq_true rfl) (by decide) d_J_name_5 (fun r5 u H locs hu hW => ?_)
  have hr0 : r5 = 0 := by
    rcases hu with q | q
    · exact absurd q.2.2 (Int32.not_lt.mpr q.2.1)
    · exact q.1
  subst hr0
  have hW : Wd D A s [(h0, .inr (0, fs)), (h1, .inr (6, ft))] H _ := hW
  refine lv_if_eq (tgt := 31) hx hb d_J_name_8 (by decide) (fun c_8 => ?_) (fun c_8 => absurd rfl c_8)
  refine lv_iconst (v := (-1)) hx hb d_J_name_31 (by decide) ?_
  rw [hQ]
  exact r_iret C hr hlk hW rfl () rfl [0, 1] (by decide) rfl d_J_name_32 (by decide) (by decide)
set_option maxHeartbeats 4000000 in
set_option maxRecDepth 100000 in
theorem c_J_attribute0 (l : Launch) (D : va_G) (tI tB tZ tL : ClassId) (X : (Nat → Prop) → State → Prop) (hX : Ro X) (h0 h1 : Nat) (k a b i : Int32) (fs : List Value) (g_fs_tree : fs[7]? = some (.ref h1)) (ft : List Value) (g_ft_elements : ft[2]? = some (.int 0)) : CtI l D tI tB tZ tL X y_J_attribute b_J_attribute 6 .int ({ frames := 1, cells := 0, slots := 0, locals := 21 }) [.ref h0, .int k, .int a, .int b, .int i] [(h0, .inr (0, fs)), (h1, .inr (6, ft))] (S := Unit) (fun (r : Int32) (_ : Unit) => r = (-1)) (fun _ => [(h0, .inr (0, fs)), (h1, .inr (6, ft))]) := by
  refine CtI.start hX (by decide) (Nat.le_of_ble_eq_true rfl) ?_
  intro p e s m args below meth c A ls C hr hlk hW hl
  refine W.nameQ (fun Q hQ => ?_)
  have hx := C.1.1
  have hb := C.1.2.1
  have hown := C.1.2.2.2.1
  have hT := C.1.2.2.2.2
  have hl : lv_has ls 6 [(0, .ref h0), (1, .int k), (2, .int a), (3, .int b), (4, .int i)] := hl
  refine lv_aload_n hx hb d_J_attribute_0 rfl (lv_at hl 0 rfl) ?_
  refine r_get C hW 0 rfl k_J i_J 7 (by decide) g_fs_tree w_793 d_J_attribute_1 ?_
  refine lv_iload_n hx hb d_J_attribute_4 rfl (lv_at hl 1 rfl) ?_
  refine r_callVi [.int k] [] C hl.1 hW (c_Tree_has l D tI tB tZ tL X hX h1 0 k ft g_ft_elements) ok_Tree_has w_1909 (wr := [(h0, .inr (0, fs))]) [1] [0] rfl rfl (by decide) (by decide) (by decide) 0 rfl k_Tree rfl (by decide) (Nat.le_of_ble_eq_true rfl) (by decide) d_J_attribute_5 (fun r5 u H locs hu hW => ?_)
  have hr0 : r5 = 0 := by
    rcases hu with q | q
    · exact absurd q.2.2 (Int32.not_lt.mpr q.2.1)
    · exact q.1
  subst hr0
  have hW : Wd D A s [(h0, .inr (0, fs)), (h1, .inr (6, ft))] H _ := hW
  refine lv_if_eq (tgt := 37) hx hb d_J_attribute_8 (by decide) (fun c_8 => ?_) (fun c_8 => absurd rfl c_8)
  refine lv_iconst (v := (-1)) hx hb d_J_attribute_37 (by decide) ?_
  rw [hQ]
  exact r_iret C hr hlk hW rfl () rfl [0, 1] (by decide) rfl d_J_attribute_38 (by decide) (by decide)
set_option maxHeartbeats 4000000 in
set_option maxRecDepth 100000 in
theorem c_J_out0 (l : Launch) (D : va_G) (tI tB tZ tL : ClassId) (X : (Nat → Prop) → State → Prop) (hX : Ro X) (h0 h1 : Nat) (k : Int32) (fs : List Value) (g_fs_writer : fs[11]? = some (.ref h1)) (fw : List Value) (g_fw_size : fw[4]? = some (.int 0)) : CtI l D tI tB tZ tL X y_J_out b_J_out 2 .int ({ frames := 0, cells := 0, slots := 0, locals := 0 }) [.ref h0, .int k] [(h0, .inr (0, fs)), (h1, .inr (11, fw))] (S := Unit) (fun (r : Int32) (_ : Unit) => r = (-1)) (fun _ => [(h0, .inr (0, fs)), (h1, .inr (11, fw))]) := by
  refine CtI.start hX (by decide) (Nat.le_of_ble_eq_true rfl) ?_
  intro p e s m args below meth c A ls C hr hlk hW hl
  refine W.nameQ (fun Q hQ => ?_)
  have hx := C.1.1
  have hb := C.1.2.1
  have hown := C.1.2.2.2.1
  have hT := C.1.2.2.2.2
  have hl : lv_has ls 2 [(0, .ref h0), (1, .int k)] := hl
  refine lv_iload_n hx hb d_J_out_0 rfl (lv_at hl 1 rfl) ?_
  refine lv_if_lt (tgt := 31) hx hb d_J_out_1 (by decide) (fun c_1 => ?_) (fun c_1 => ?_)
  · refine lv_iconst (v := (-1)) hx hb d_J_out_31 (by decide) ?_
    rw [hQ]
    exact r_iret C hr hlk hW rfl () rfl [0, 1] (by decide) rfl d_J_out_32 (by decide) (by decide)
  · refine lv_iload_n hx hb d_J_out_4 rfl (lv_at hl 1 rfl) ?_
    refine lv_aload_n hx hb d_J_out_5 rfl (lv_at hl 0 rfl) ?_
    refine r_get C hW 0 rfl k_J i_J 11 (by decide) g_fs_writer w_797 d_J_out_6 ?_
    refine r_get C hW 1 rfl k_Writer i_Writer 4 (by decide) g_fw_size w_756 d_J_out_9 ?_
    refine lv_icmp_ge (tgt := 31) hx hb d_J_out_12 (by decide) (fun c_12 => ?_) (fun c_12 => absurd (Int32.not_lt.mp c_1) c_12)
    refine lv_iconst (v := (-1)) hx hb d_J_out_31 (by decide) ?_
    rw [hQ]
    exact r_iret C hr hlk hW rfl () rfl [0, 1] (by decide) rfl d_J_out_32 (by decide) (by decide)
set_option maxHeartbeats 4000000 in
set_option maxRecDepth 100000 in
theorem c_J_back0 (l : Launch) (D : va_G) (tI tB tZ tL : ClassId) (X : (Nat → Prop) → State → Prop) (hX : Ro X) (h0 h1 : Nat) (fs : List Value) (g_fs_writer : fs[11]? = some (.ref h1)) (fw : List Value) (g_fw_size : fw[4]? = some (.int 0)) : CtI l D tI tB tZ tL X y_J_back b_J_back 2 .int ({ frames := 0, cells := 0, slots := 0, locals := 0 }) [.ref h0] [(h0, .inr (0, fs)), (h1, .inr (11, fw))] (S := Unit) (fun (r : Int32) (_ : Unit) => r = (-1)) (fun _ => [(h0, .inr (0, fs)), (h1, .inr (11, fw))]) := by
  refine CtI.start hX (by decide) (Nat.le_of_ble_eq_true rfl) ?_
  intro p e s m args below meth c A ls C hr hlk hW hl
  refine W.nameQ (fun Q hQ => ?_)
  have hx := C.1.1
  have hb := C.1.2.1
  have hown := C.1.2.2.2.1
  have hT := C.1.2.2.2.2
  have hl : lv_has ls 2 [(0, .ref h0)] := hl
  refine lv_aload_n hx hb d_J_back_0 rfl (lv_at hl 0 rfl) ?_
  refine r_get C hW 0 rfl k_J i_J 11 (by decide) g_fs_writer w_797 d_J_back_1 ?_
  refine r_get C hW 1 rfl k_Writer i_Writer 4 (by decide) g_fw_size w_756 d_J_back_4 ?_
  refine lv_istore_n (lv' := [(1, .int 0), (0, .ref h0)]) hx hb d_J_back_7 rfl hl (by decide) rfl (fun ls hl => ?_)
  refine lv_iload_n hx hb d_J_back_8 rfl (lv_at hl 0 rfl) ?_
  refine lv_if_eq (tgt := 18) hx hb d_J_back_9 (by decide) (fun c_9 => ?_) (fun c_9 => absurd rfl c_9)
  refine lv_iconst (v := (-1)) hx hb d_J_back_18 (by decide) ?_
  rw [hQ]
  exact r_iret C hr hlk hW rfl () rfl [0, 1] (by decide) rfl d_J_back_19 (by decide) (by decide)
set_option maxHeartbeats 4000000 in
set_option maxRecDepth 100000 in
theorem c_J_change0 (l : Launch) (D : va_G) (tI tB tZ tL : ClassId) (X : (Nat → Prop) → State → Prop) (hX : Ro X) (h0 : Nat) (i v : Int32) (fs : List Value) (g_fs_count : fs[1]? = some (.int 0)) : CtI l D tI tB tZ tL X y_J_change b_J_change 4 .int ({ frames := 0, cells := 0, slots := 0, locals := 0 }) [.ref h0, .int i, .int v] [(h0, .inr (0, fs))] (S := Unit) (fun (r : Int32) (_ : Unit) => r = (-1)) (fun _ => [(h0, .inr (0, fs))]) := by
  refine CtI.start hX (by decide) (Nat.le_of_ble_eq_true rfl) ?_
  intro p e s m args below meth c A ls C hr hlk hW hl
  refine W.nameQ (fun Q hQ => ?_)
  have hx := C.1.1
  have hb := C.1.2.1
  have hown := C.1.2.2.2.1
  have hT := C.1.2.2.2.2
  have hl : lv_has ls 4 [(0, .ref h0), (1, .int i), (2, .int v)] := hl
  refine lv_iload_n hx hb d_J_change_0 rfl (lv_at hl 1 rfl) ?_
  refine lv_if_lt (tgt := 23) hx hb d_J_change_1 (by decide) (fun c_1 => ?_) (fun c_1 => ?_)
  · refine lv_iconst (v := (-1)) hx hb d_J_change_23 (by decide) ?_
    rw [hQ]
    exact r_iret C hr hlk hW rfl () rfl [0] (by decide) rfl d_J_change_24 (by decide) (by decide)
  · refine lv_iload_n hx hb d_J_change_4 rfl (lv_at hl 1 rfl) ?_
    refine lv_aload_n hx hb d_J_change_5 rfl (lv_at hl 0 rfl) ?_
    refine r_get C hW 0 rfl k_J i_J 1 (by decide) g_fs_count w_787 d_J_change_6 ?_
    refine lv_icmp_ge (tgt := 23) hx hb d_J_change_9 (by decide) (fun c_9 => ?_) (fun c_9 => absurd (Int32.not_lt.mp c_1) c_9)
    refine lv_iconst (v := (-1)) hx hb d_J_change_23 (by decide) ?_
    rw [hQ]
    exact r_iret C hr hlk hW rfl () rfl [0] (by decide) rfl d_J_change_24 (by decide) (by decide)
set_option maxHeartbeats 4000000 in
set_option maxRecDepth 100000 in
theorem c_K_thrown (l : Launch) (D : va_G) (tI tB tZ tL : ClassId) (X : (Nat → Prop) → State → Prop) (hX : Ro X) (h0 kb kr kd ko kp kw : Nat) (k0 k1 ks kq kc kf kl : Int32) (hd : Int32) : CtI l D tI tB tZ tL X y_K_thrown b_K_thrown 1 .int ({ frames := 0, cells := 0, slots := 0, locals := 0 }) [.ref h0] [(h0, .inr (12, [.int k0, .int k1, .ref kb, .int ks, .ref kr, .ref kd, .int hd, .ref ko, .ref kp, .int kq, .ref kw, .int kc, .int kf, .int kl]))] (S := Unit) (fun (r : Int32) (_ : Unit) => r = kc) (fun _ => [(h0, .inr (12, [.int k0, .int k1, .ref kb, .int ks, .ref kr, .ref kd, .int hd, .ref ko, .ref kp, .int kq, .ref kw, .int kc, .int kf, .int kl]))]) := by
  refine CtI.start hX (by decide) (Nat.le_of_ble_eq_true rfl) ?_
  intro p e s m args below meth c A ls C hr hlk hW hl
  refine W.nameQ (fun Q hQ => ?_)
  have hx := C.1.1
  have hb := C.1.2.1
  have hown := C.1.2.2.2.1
  have hT := C.1.2.2.2.2
  have hl : lv_has ls 1 [(0, .ref h0)] := hl
  refine lv_aload_n hx hb d_K_thrown_0 rfl (lv_at hl 0 rfl) ?_
  refine r_get C hW 0 rfl k_K i_K 11 (by decide) rfl w_2570 d_K_thrown_1 ?_
  rw [hQ]
  exact r_iret C hr hlk hW rfl () rfl [0] (by decide) rfl d_K_thrown_4 (by decide) (by decide)
set_option maxHeartbeats 4000000 in
set_option maxRecDepth 100000 in
theorem c_K_fault (l : Launch) (D : va_G) (tI tB tZ tL : ClassId) (X : (Nat → Prop) → State → Prop) (hX : Ro X) (h0 kb kr kd ko kp kw : Nat) (k0 k1 ks kq kc kf kl : Int32) (hd : Int32) : CtI l D tI tB tZ tL X y_K_fault b_K_fault 1 .int ({ frames := 0, cells := 0, slots := 0, locals := 0 }) [.ref h0] [(h0, .inr (12, [.int k0, .int k1, .ref kb, .int ks, .ref kr, .ref kd, .int hd, .ref ko, .ref kp, .int kq, .ref kw, .int kc, .int kf, .int kl]))] (S := Unit) (fun (r : Int32) (_ : Unit) => r = kf) (fun _ => [(h0, .inr (12, [.int k0, .int k1, .ref kb, .int ks, .ref kr, .ref kd, .int hd, .ref ko, .ref kp, .int kq, .ref kw, .int 0, .int kf, .int kl]))]) := by
  refine CtI.start hX (by decide) (Nat.le_of_ble_eq_true rfl) ?_
  intro p e s m args below meth c A ls C hr hlk hW hl
  refine W.nameQ (fun Q hQ => ?_)
  have hx := C.1.1
  have hb := C.1.2.1
  have hown := C.1.2.2.2.1
  have hT := C.1.2.2.2.2
  have hl : lv_has ls 1 [(0, .ref h0)] := hl
  refine lv_aload_n hx hb d_K_fault_0 rfl (lv_at hl 0 rfl) ?_
  refine lv_iconst (v := 0) hx hb d_K_fault_1 (by decide) ?_
  refine r_put (v := .int 0) (ty := .int) C hW 0 rfl k_K i_K t_K o_K n_K 11 (by decide) w_2570 rfl (by decide +kernel) rfl rfl (Nat.le_of_ble_eq_true rfl) d_K_fault_2 (fun H locs hW => ?_)
  have hW : Wd D A s [(h0, .inr (12, [.int k0, .int k1, .ref kb, .int ks, .ref kr, .ref kd, .int hd, .ref ko, .ref kp, .int kq, .ref kw, .int 0, .int kf, .int kl]))] H _ := hW
  refine lv_aload_n hx hb d_K_fault_5 rfl (lv_at hl 0 rfl) ?_
  refine r_get C hW 0 rfl k_K i_K 12 (by decide) rfl w_2571 d_K_fault_6 ?_
  rw [hQ]
  exact r_iret C hr hlk hW rfl () rfl [0] (by decide) rfl d_K_fault_9 (by decide) (by decide)
set_option maxHeartbeats 4000000 in
set_option maxRecDepth 100000 in
theorem c_K_place (l : Launch) (D : va_G) (tI tB tZ tL : ClassId) (X : (Nat → Prop) → State → Prop) (hX : Ro X) (h0 kb kr kd ko kp kw : Nat) (k0 k1 ks kq kc kf kl : Int32) (hd : Int32) : CtI l D tI tB tZ tL X y_K_place b_K_place 1 .int ({ frames := 0, cells := 0, slots := 0, locals := 0 }) [.ref h0] [(h0, .inr (12, [.int k0, .int k1, .ref kb, .int ks, .ref kr, .ref kd, .int hd, .ref ko, .ref kp, .int kq, .ref kw, .int kc, .int kf, .int kl]))] (S := Unit) (fun (r : Int32) (_ : Unit) => r = kl) (fun _ => [(h0, .inr (12, [.int k0, .int k1, .ref kb, .int ks, .ref kr, .ref kd, .int hd, .ref ko, .ref kp, .int kq, .ref kw, .int 0, .int kf, .int kl]))]) := by
  refine CtI.start hX (by decide) (Nat.le_of_ble_eq_true rfl) ?_
  intro p e s m args below meth c A ls C hr hlk hW hl
  refine W.nameQ (fun Q hQ => ?_)
  have hx := C.1.1
  have hb := C.1.2.1
  have hown := C.1.2.2.2.1
  have hT := C.1.2.2.2.2
  have hl : lv_has ls 1 [(0, .ref h0)] := hl
  refine lv_aload_n hx hb d_K_place_0 rfl (lv_at hl 0 rfl) ?_
  refine lv_iconst (v := 0) hx hb d_K_place_1 (by decide) ?_
  refine r_put (v := .int 0) (ty := .int) C hW 0 rfl k_K i_K t_K o_K n_K 11 (by decide) w_2570 rfl (by decide +kernel) rfl rfl (Nat.le_of_ble_eq_true rfl) d_K_place_2 (fun H locs hW => ?_)
  have hW : Wd D A s [(h0, .inr (12, [.int k0, .int k1, .ref kb, .int ks, .ref kr, .ref kd, .int hd, .ref ko, .ref kp, .int kq, .ref kw, .int 0, .int kf, .int kl]))] H _ := hW
  refine lv_aload_n hx hb d_K_place_5 rfl (lv_at hl 0 rfl) ?_
  refine r_get C hW 0 rfl k_K i_K 13 (by decide) rfl w_2572 d_K_place_6 ?_
  rw [hQ]
  exact r_iret C hr hlk hW rfl () rfl [0] (by decide) rfl d_K_place_9 (by decide) (by decide)
set_option maxHeartbeats 4000000 in
set_option maxRecDepth 100000 in
theorem c_K_violations0 (l : Launch) (D : va_G) (tI tB tZ tL : ClassId) (X : (Nat → Prop) → State → Prop) (hX : Ro X) (h0 kb kr kd ko kp kw : Nat) (k0 k1 ks kq kc kf kl : Int32) (k : Int32) : CtI l D tI tB tZ tL X y_K_violations b_K_violations 2 .int ({ frames := 0, cells := 0, slots := 0, locals := 0 }) [.ref h0, .int k] [(h0, .inr (12, [.int k0, .int k1, .ref kb, .int ks, .ref kr, .ref kd, .int 0, .ref ko, .ref kp, .int kq, .ref kw, .int kc, .int kf, .int kl]))] (S := Unit) (fun (r : Int32) (_ : Unit) => r = (-1)) (fun _ => [(h0, .inr (12, [.int k0, .int k1, .ref kb, .int ks, .ref kr, .ref kd, .int 0, .ref ko, .ref kp, .int kq, .ref kw, .int 0, .int kf, .int kl]))]) := by
  refine CtI.start hX (by decide) (Nat.le_of_ble_eq_true rfl) ?_
  intro p e s m args below meth c A ls C hr hlk hW hl
  refine W.nameQ (fun Q hQ => ?_)
  have hx := C.1.1
  have hb := C.1.2.1
  have hown := C.1.2.2.2.1
  have hT := C.1.2.2.2.2
  have hl : lv_has ls 2 [(0, .ref h0), (1, .int k)] := hl
  refine lv_aload_n hx hb d_K_violations_0 rfl (lv_at hl 0 rfl) ?_
  refine lv_iconst (v := 0) hx hb d_K_violations_1 (by decide) ?_
  refine r_put (v := .int 0) (ty := .int) C hW 0 rfl k_K i_K t_K o_K n_K 11 (by decide) w_2570 rfl (by decide +kernel) rfl rfl (Nat.le_of_ble_eq_true rfl) d_K_violations_2 (fun H locs hW => ?_)
  have hW : Wd D A s [(h0, .inr (12, [.int k0, .int k1, .ref kb, .int ks, .ref kr, .ref kd, .int 0, .ref ko, .ref kp, .int kq, .ref kw, .int 0, .int kf, .int kl]))] H _ := hW
  refine lv_aload_n hx hb d_K_violations_5 rfl (lv_at hl 0 rfl) ?_
  refine r_get C hW 0 rfl k_K i_K 6 (by decide) rfl w_2565 d_K_violations_6 ?_
  refine lv_if_eq (tgt := 34) hx hb d_K_violations_9 (by decide) (fun c_9 => ?_) (fun c_9 => absurd rfl c_9)
  refine lv_iconst (v := (-1)) hx hb d_K_violations_34 (by decide) ?_
  rw [hQ]
  exact r_iret C hr hlk hW rfl () rfl [0] (by decide) rfl d_K_violations_35 (by decide) (by decide)
set_option maxHeartbeats 4000000 in
set_option maxRecDepth 100000 in
theorem c_K_spaces0 (l : Launch) (D : va_G) (tI tB tZ tL : ClassId) (X : (Nat → Prop) → State → Prop) (hX : Ro X) (h0 kb kr kd ko kp kw : Nat) (k0 k1 ks kq kc kf kl : Int32) (k : Int32) : CtI l D tI tB tZ tL X y_K_spaces b_K_spaces 2 .int ({ frames := 0, cells := 0, slots := 0, locals := 0 }) [.ref h0, .int k] [(h0, .inr (12, [.int k0, .int k1, .ref kb, .int ks, .ref kr, .ref kd, .int 0, .ref ko, .ref kp, .int kq, .ref kw, .int kc, .int kf, .int kl]))] (S := Unit) (fun (r : Int32) (_ : Unit) => r = (-1)) (fun _ => [(h0, .inr (12, [.int k0, .int k1, .ref kb, .int ks, .ref kr, .ref kd, .int 0, .ref ko, .ref kp, .int kq, .ref kw, .int 0, .int kf, .int kl]))]) := by
  refine CtI.start hX (by decide) (Nat.le_of_ble_eq_true rfl) ?_
  intro p e s m args below meth c A ls C hr hlk hW hl
  refine W.nameQ (fun Q hQ => ?_)
  have hx := C.1.1
  have hb := C.1.2.1
  have hown := C.1.2.2.2.1
  have hT := C.1.2.2.2.2
  have hl : lv_has ls 2 [(0, .ref h0), (1, .int k)] := hl
  refine lv_aload_n hx hb d_K_spaces_0 rfl (lv_at hl 0 rfl) ?_
  refine lv_iconst (v := 0) hx hb d_K_spaces_1 (by decide) ?_
  refine r_put (v := .int 0) (ty := .int) C hW 0 rfl k_K i_K t_K o_K n_K 11 (by decide) w_2570 rfl (by decide +kernel) rfl rfl (Nat.le_of_ble_eq_true rfl) d_K_spaces_2 (fun H locs hW => ?_)
  have hW : Wd D A s [(h0, .inr (12, [.int k0, .int k1, .ref kb, .int ks, .ref kr, .ref kd, .int 0, .ref ko, .ref kp, .int kq, .ref kw, .int 0, .int kf, .int kl]))] H _ := hW
  refine lv_aload_n hx hb d_K_spaces_5 rfl (lv_at hl 0 rfl) ?_
  refine r_get C hW 0 rfl k_K i_K 6 (by decide) rfl w_2565 d_K_spaces_6 ?_
  refine lv_if_eq (tgt := 34) hx hb d_K_spaces_9 (by decide) (fun c_9 => ?_) (fun c_9 => absurd rfl c_9)
  refine lv_iconst (v := (-1)) hx hb d_K_spaces_34 (by decide) ?_
  rw [hQ]
  exact r_iret C hr hlk hW rfl () rfl [0] (by decide) rfl d_K_spaces_35 (by decide) (by decide)
set_option maxHeartbeats 4000000 in
set_option maxRecDepth 100000 in
theorem c_K_elements0 (l : Launch) (D : va_G) (tI tB tZ tL : ClassId) (X : (Nat → Prop) → State → Prop) (hX : Ro X) (h0 kb kr kd ko kp kw : Nat) (k0 k1 ks kq kc kf kl : Int32) : CtI l D tI tB tZ tL X y_K_elements b_K_elements 1 .int ({ frames := 0, cells := 0, slots := 0, locals := 0 }) [.ref h0] [(h0, .inr (12, [.int k0, .int k1, .ref kb, .int ks, .ref kr, .ref kd, .int 0, .ref ko, .ref kp, .int kq, .ref kw, .int kc, .int kf, .int kl]))] (S := Unit) (fun (r : Int32) (_ : Unit) => r = 0) (fun _ => [(h0, .inr (12, [.int k0, .int k1, .ref kb, .int ks, .ref kr, .ref kd, .int 0, .ref ko, .ref kp, .int kq, .ref kw, .int 0, .int kf, .int kl]))]) := by
  refine CtI.start hX (by decide) (Nat.le_of_ble_eq_true rfl) ?_
  intro p e s m args below meth c A ls C hr hlk hW hl
  refine W.nameQ (fun Q hQ => ?_)
  have hx := C.1.1
  have hb := C.1.2.1
  have hown := C.1.2.2.2.1
  have hT := C.1.2.2.2.2
  have hl : lv_has ls 1 [(0, .ref h0)] := hl
  refine lv_aload_n hx hb d_K_elements_0 rfl (lv_at hl 0 rfl) ?_
  refine lv_iconst (v := 0) hx hb d_K_elements_1 (by decide) ?_
  refine r_put (v := .int 0) (ty := .int) C hW 0 rfl k_K i_K t_K o_K n_K 11 (by decide) w_2570 rfl (by decide +kernel) rfl rfl (Nat.le_of_ble_eq_true rfl) d_K_elements_2 (fun H locs hW => ?_)
  have hW : Wd D A s [(h0, .inr (12, [.int k0, .int k1, .ref kb, .int ks, .ref kr, .ref kd, .int 0, .ref ko, .ref kp, .int kq, .ref kw, .int 0, .int kf, .int kl]))] H _ := hW
  refine lv_aload_n hx hb d_K_elements_5 rfl (lv_at hl 0 rfl) ?_
  refine r_get C hW 0 rfl k_K i_K 6 (by decide) rfl w_2565 d_K_elements_6 ?_
  refine lv_if_eq (tgt := 22) hx hb d_K_elements_9 (by decide) (fun c_9 => ?_) (fun c_9 => absurd rfl c_9)
  refine lv_iconst (v := 0) hx hb d_K_elements_22 (by decide) ?_
  rw [hQ]
  exact r_iret C hr hlk hW rfl () rfl [0] (by decide) rfl d_K_elements_23 (by decide) (by decide)
set_option maxHeartbeats 4000000 in
set_option maxRecDepth 100000 in
theorem c_K_characters0 (l : Launch) (D : va_G) (tI tB tZ tL : ClassId) (X : (Nat → Prop) → State → Prop) (hX : Ro X) (h0 kb kr kd ko kp kw : Nat) (k0 k1 ks kq kc kf kl : Int32) : CtI l D tI tB tZ tL X y_K_characters b_K_characters 1 .int ({ frames := 0, cells := 0, slots := 0, locals := 0 }) [.ref h0] [(h0, .inr (12, [.int k0, .int k1, .ref kb, .int ks, .ref kr, .ref kd, .int 0, .ref ko, .ref kp, .int kq, .ref kw, .int kc, .int kf, .int kl]))] (S := Unit) (fun (r : Int32) (_ : Unit) => r = 0) (fun _ => [(h0, .inr (12, [.int k0, .int k1, .ref kb, .int ks, .ref kr, .ref kd, .int 0, .ref ko, .ref kp, .int kq, .ref kw, .int 0, .int kf, .int kl]))]) := by
  refine CtI.start hX (by decide) (Nat.le_of_ble_eq_true rfl) ?_
  intro p e s m args below meth c A ls C hr hlk hW hl
  refine W.nameQ (fun Q hQ => ?_)
  have hx := C.1.1
  have hb := C.1.2.1
  have hown := C.1.2.2.2.1
  have hT := C.1.2.2.2.2
  have hl : lv_has ls 1 [(0, .ref h0)] := hl
  refine lv_aload_n hx hb d_K_characters_0 rfl (lv_at hl 0 rfl) ?_
  refine lv_iconst (v := 0) hx hb d_K_characters_1 (by decide) ?_
  refine r_put (v := .int 0) (ty := .int) C hW 0 rfl k_K i_K t_K o_K n_K 11 (by decide) w_2570 rfl (by decide +kernel) rfl rfl (Nat.le_of_ble_eq_true rfl) d_K_characters_2 (fun H locs hW => ?_)
  have hW : Wd D A s [(h0, .inr (12, [.int k0, .int k1, .ref kb, .int ks, .ref kr, .ref kd, .int 0, .ref ko, .ref kp, .int kq, .ref kw, .int 0, .int kf, .int kl]))] H _ := hW
  refine lv_aload_n hx hb d_K_characters_5 rfl (lv_at hl 0 rfl) ?_
  refine r_get C hW 0 rfl k_K i_K 6 (by decide) rfl w_2565 d_K_characters_6 ?_
  refine lv_if_eq (tgt := 22) hx hb d_K_characters_9 (by decide) (fun c_9 => ?_) (fun c_9 => absurd rfl c_9)
  refine lv_iconst (v := 0) hx hb d_K_characters_22 (by decide) ?_
  rw [hQ]
  exact r_iret C hr hlk hW rfl () rfl [0] (by decide) rfl d_K_characters_23 (by decide) (by decide)
set_option maxHeartbeats 4000000 in
set_option maxRecDepth 100000 in
theorem c_K_counted0 (l : Launch) (D : va_G) (tI tB tZ tL : ClassId) (X : (Nat → Prop) → State → Prop) (hX : Ro X) (h0 kb kr kd ko kp kw : Nat) (k0 k1 ks kq kc kf kl : Int32) : CtI l D tI tB tZ tL X y_K_counted b_K_counted 1 .int ({ frames := 0, cells := 0, slots := 0, locals := 0 }) [.ref h0] [(h0, .inr (12, [.int k0, .int k1, .ref kb, .int ks, .ref kr, .ref kd, .int 0, .ref ko, .ref kp, .int kq, .ref kw, .int kc, .int kf, .int kl]))] (S := Unit) (fun (r : Int32) (_ : Unit) => r = 0) (fun _ => [(h0, .inr (12, [.int k0, .int k1, .ref kb, .int ks, .ref kr, .ref kd, .int 0, .ref ko, .ref kp, .int kq, .ref kw, .int 0, .int kf, .int kl]))]) := by
  refine CtI.start hX (by decide) (Nat.le_of_ble_eq_true rfl) ?_
  intro p e s m args below meth c A ls C hr hlk hW hl
  refine W.nameQ (fun Q hQ => ?_)
  have hx := C.1.1
  have hb := C.1.2.1
  have hown := C.1.2.2.2.1
  have hT := C.1.2.2.2.2
  have hl : lv_has ls 1 [(0, .ref h0)] := hl
  refine lv_aload_n hx hb d_K_counted_0 rfl (lv_at hl 0 rfl) ?_
  refine lv_iconst (v := 0) hx hb d_K_counted_1 (by decide) ?_
  refine r_put (v := .int 0) (ty := .int) C hW 0 rfl k_K i_K t_K o_K n_K 11 (by decide) w_2570 rfl (by decide +kernel) rfl rfl (Nat.le_of_ble_eq_true rfl) d_K_counted_2 (fun H locs hW => ?_)
  have hW : Wd D A s [(h0, .inr (12, [.int k0, .int k1, .ref kb, .int ks, .ref kr, .ref kd, .int 0, .ref ko, .ref kp, .int kq, .ref kw, .int 0, .int kf, .int kl]))] H _ := hW
  refine lv_aload_n hx hb d_K_counted_5 rfl (lv_at hl 0 rfl) ?_
  refine r_get C hW 0 rfl k_K i_K 6 (by decide) rfl w_2565 d_K_counted_6 ?_
  refine lv_if_eq (tgt := 22) hx hb d_K_counted_9 (by decide) (fun c_9 => ?_) (fun c_9 => absurd rfl c_9)
  refine lv_iconst (v := 0) hx hb d_K_counted_22 (by decide) ?_
  rw [hQ]
  exact r_iret C hr hlk hW rfl () rfl [0] (by decide) rfl d_K_counted_23 (by decide) (by decide)
set_option maxHeartbeats 4000000 in
set_option maxRecDepth 100000 in
theorem c_K_isElement0 (l : Launch) (D : va_G) (tI tB tZ tL : ClassId) (X : (Nat → Prop) → State → Prop) (hX : Ro X) (h0 kb kr kd ko kp kw : Nat) (k0 k1 ks kq kc kf kl : Int32) (k : Int32) : CtI l D tI tB tZ tL X y_K_isElement b_K_isElement 2 .boolean ({ frames := 0, cells := 0, slots := 0, locals := 0 }) [.ref h0, .int k] [(h0, .inr (12, [.int k0, .int k1, .ref kb, .int ks, .ref kr, .ref kd, .int 0, .ref ko, .ref kp, .int kq, .ref kw, .int kc, .int kf, .int kl]))] (S := Unit) (fun (r : Int32) (_ : Unit) => r = 0) (fun _ => [(h0, .inr (12, [.int k0, .int k1, .ref kb, .int ks, .ref kr, .ref kd, .int 0, .ref ko, .ref kp, .int kq, .ref kw, .int kc, .int kf, .int kl]))]) := by
  refine CtI.start hX (by decide) (Nat.le_of_ble_eq_true rfl) ?_
  intro p e s m args below meth c A ls C hr hlk hW hl
  refine W.nameQ (fun Q hQ => ?_)
  have hx := C.1.1
  have hb := C.1.2.1
  have hown := C.1.2.2.2.1
  have hT := C.1.2.2.2.2
  have hl : lv_has ls 2 [(0, .ref h0), (1, .int k)] := hl
  refine lv_aload_n hx hb d_K_isElement_0 rfl (lv_at hl 0 rfl) ?_
  refine r_get C hW 0 rfl k_K i_K 6 (by decide) rfl w_2565 d_K_isElement_1 ?_
  refine lv_if_eq (tgt := 26) hx hb d_K_isElement_4 (by decide) (fun c_4 => ?_) (fun c_4 => absurd rfl c_4)
  refine lv_iconst (v := 0) hx hb d_K_isElement_26 (by decide) ?_
  rw [hQ]
  exact r_iret C hr hlk hW rfl () rfl [0] (by decide) rfl d_K_isElement_27 (by decide) (by decide)
set_option maxHeartbeats 4000000 in
set_option maxRecDepth 100000 in
theorem c_K_attributes0 (l : Launch) (D : va_G) (tI tB tZ tL : ClassId) (X : (Nat → Prop) → State → Prop) (hX : Ro X) (h0 kb kr kd ko kp kw : Nat) (k0 k1 ks kq kc kf kl : Int32) (k : Int32) : CtI l D tI tB tZ tL X y_K_attributes b_K_attributes 2 .int ({ frames := 1, cells := 0, slots := 0, locals := 21 }) [.ref h0, .int k] [(h0, .inr (12, [.int k0, .int k1, .ref kb, .int ks, .ref kr, .ref kd, .int 0, .ref ko, .ref kp, .int kq, .ref kw, .int kc, .int kf, .int kl]))] (S := Unit) (fun (r : Int32) (_ : Unit) => r = (-1)) (fun _ => [(h0, .inr (12, [.int k0, .int k1, .ref kb, .int ks, .ref kr, .ref kd, .int 0, .ref ko, .ref kp, .int kq, .ref kw, .int 0, .int kf, .int kl]))]) := by
  refine CtI.start hX (by decide) (Nat.le_of_ble_eq_true rfl) ?_
  intro p e s m args below meth c A ls C hr hlk hW hl
  refine W.nameQ (fun Q hQ => ?_)
  have hx := C.1.1
  have hb := C.1.2.1
  have hown := C.1.2.2.2.1
  have hT := C.1.2.2.2.2
  have hl : lv_has ls 2 [(0, .ref h0), (1, .int k)] := hl
  refine lv_aload_n hx hb d_K_attributes_0 rfl (lv_at hl 0 rfl) ?_
  refine lv_iconst (v := 0) hx hb d_K_attributes_1 (by decide) ?_
  refine r_put (v := .int 0) (ty := .int) C hW 0 rfl k_K i_K t_K o_K n_K 11 (by decide) w_2570 rfl (by decide +kernel) rfl rfl (Nat.le_of_ble_eq_true rfl) d_K_attributes_2 (fun H locs hW => ?_)
  have hW : Wd D A s [(h0, .inr (12, [.int k0, .int k1, .ref kb, .int ks, .ref kr, .ref kd, .int 0, .ref ko, .ref kp, .int kq, .ref kw, .int 0, .int kf, .int kl]))] H _ := hW
  refine lv_aload_n hx hb d_K_attributes_5 rfl (lv_at hl 0 rfl) ?_
  refine lv_iload_n hx hb d_K_attributes_6 rfl (lv_at hl 1 rfl) ?_
  refine r_callVi [.int k] [] C hl.1 hW (c_K_isElement0 l D tI tB tZ tL X hX h0 kb kr kd ko kp kw k0 k1 ks kq 0 kf kl k) ok_K_isElement w_3260 (wr := []) [0] [] rfl rfl (by decide) (by decide) (by decide) 0 rfl k_K rfl (by decide) (Nat.le_of_ble_eq_true rfl) (by decide) d_K_attributes_7 (fun r7 u H locs hu hW => ?_)
  subst hu
  have hW : Wd D A s [(h0, .inr (12, [.int k0, .int k1, .ref kb, .int ks, .ref kr, .ref kd, .int 0, .ref ko, .ref kp, .int kq, .ref kw, .int 0, .int kf, .int kl]))] H _ := hW
  refine lv_if_eq (tgt := 25) hx hb d_K_attributes_10 (by decide) (fun c_10 => ?_) (fun c_10 => absurd rfl c_10)
  refine lv_iconst (v := (-1)) hx hb d_K_attributes_25 (by decide) ?_
  rw [hQ]
  exact r_iret C hr hlk hW rfl () rfl [0] (by decide) rfl d_K_attributes_26 (by decide) (by decide)
set_option maxHeartbeats 4000000 in
set_option maxRecDepth 100000 in
theorem c_K_parent0 (l : Launch) (D : va_G) (tI tB tZ tL : ClassId) (X : (Nat → Prop) → State → Prop) (hX : Ro X) (h0 kb kr kd ko kp kw : Nat) (k0 k1 ks kq kc kf kl : Int32) (k : Int32) : CtI l D tI tB tZ tL X y_K_parent b_K_parent 2 .int ({ frames := 1, cells := 0, slots := 0, locals := 21 }) [.ref h0, .int k] [(h0, .inr (12, [.int k0, .int k1, .ref kb, .int ks, .ref kr, .ref kd, .int 0, .ref ko, .ref kp, .int kq, .ref kw, .int kc, .int kf, .int kl]))] (S := Unit) (fun (r : Int32) (_ : Unit) => r = (-1)) (fun _ => [(h0, .inr (12, [.int k0, .int k1, .ref kb, .int ks, .ref kr, .ref kd, .int 0, .ref ko, .ref kp, .int kq, .ref kw, .int 0, .int kf, .int kl]))]) := by
  refine CtI.start hX (by decide) (Nat.le_of_ble_eq_true rfl) ?_
  intro p e s m args below meth c A ls C hr hlk hW hl
  refine W.nameQ (fun Q hQ => ?_)
  have hx := C.1.1
  have hb := C.1.2.1
  have hown := C.1.2.2.2.1
  have hT := C.1.2.2.2.2
  have hl : lv_has ls 2 [(0, .ref h0), (1, .int k)] := hl
  refine lv_aload_n hx hb d_K_parent_0 rfl (lv_at hl 0 rfl) ?_
  refine lv_iconst (v := 0) hx hb d_K_parent_1 (by decide) ?_
  refine r_put (v := .int 0) (ty := .int) C hW 0 rfl k_K i_K t_K o_K n_K 11 (by decide) w_2570 rfl (by decide +kernel) rfl rfl (Nat.le_of_ble_eq_true rfl) d_K_parent_2 (fun H locs hW => ?_)
  have hW : Wd D A s [(h0, .inr (12, [.int k0, .int k1, .ref kb, .int ks, .ref kr, .ref kd, .int 0, .ref ko, .ref kp, .int kq, .ref kw, .int 0, .int kf, .int kl]))] H _ := hW
  refine lv_aload_n hx hb d_K_parent_5 rfl (lv_at hl 0 rfl) ?_
  refine lv_iload_n hx hb d_K_parent_6 rfl (lv_at hl 1 rfl) ?_
  refine r_callVi [.int k] [] C hl.1 hW (c_K_isElement0 l D tI tB tZ tL X hX h0 kb kr kd ko kp kw k0 k1 ks kq 0 kf kl k) ok_K_isElement w_3260 (wr := []) [0] [] rfl rfl (by decide) (by decide) (by decide) 0 rfl k_K rfl (by decide) (Nat.le_of_ble_eq_true rfl) (by decide) d_K_parent_7 (fun r7 u H locs hu hW => ?_)
  subst hu
  have hW : Wd D A s [(h0, .inr (12, [.int k0, .int k1, .ref kb, .int ks, .ref kr, .ref kd, .int 0, .ref ko, .ref kp, .int kq, .ref kw, .int 0, .int kf, .int kl]))] H _ := hW
  refine lv_if_eq (tgt := 25) hx hb d_K_parent_10 (by decide) (fun c_10 => ?_) (fun c_10 => absurd rfl c_10)
  refine lv_iconst (v := (-1)) hx hb d_K_parent_25 (by decide) ?_
  rw [hQ]
  exact r_iret C hr hlk hW rfl () rfl [0] (by decide) rfl d_K_parent_26 (by decide) (by decide)
set_option maxHeartbeats 4000000 in
set_option maxRecDepth 100000 in
theorem c_K_name0 (l : Launch) (D : va_G) (tI tB tZ tL : ClassId) (X : (Nat → Prop) → State → Prop) (hX : Ro X) (h0 kb kr kd ko kp kw : Nat) (k0 k1 ks kq kc kf kl : Int32) (k i : Int32) : CtI l D tI tB tZ tL X y_K_name b_K_name 3 .int ({ frames := 1, cells := 0, slots := 0, locals := 21 }) [.ref h0, .int k, .int i] [(h0, .inr (12, [.int k0, .int k1, .ref kb, .int ks, .ref kr, .ref kd, .int 0, .ref ko, .ref kp, .int kq, .ref kw, .int kc, .int kf, .int kl]))] (S := Unit) (fun (r : Int32) (_ : Unit) => r = (-1)) (fun _ => [(h0, .inr (12, [.int k0, .int k1, .ref kb, .int ks, .ref kr, .ref kd, .int 0, .ref ko, .ref kp, .int kq, .ref kw, .int 0, .int kf, .int kl]))]) := by
  refine CtI.start hX (by decide) (Nat.le_of_ble_eq_true rfl) ?_
  intro p e s m args below meth c A ls C hr hlk hW hl
  refine W.nameQ (fun Q hQ => ?_)
  have hx := C.1.1
  have hb := C.1.2.1
  have hown := C.1.2.2.2.1
  have hT := C.1.2.2.2.2
  have hl : lv_has ls 3 [(0, .ref h0), (1, .int k), (2, .int i)] := hl
  refine lv_aload_n hx hb d_K_name_0 rfl (lv_at hl 0 rfl) ?_
  refine lv_iconst (v := 0) hx hb d_K_name_1 (by decide) ?_
  refine r_put (v := .int 0) (ty := .int) C hW 0 rfl k_K i_K t_K o_K n_K 11 (by decide) w_2570 rfl (by decide +kernel) rfl rfl (Nat.le_of_ble_eq_true rfl) d_K_name_2 (fun H locs hW => ?_)
  have hW : Wd D A s [(h0, .inr (12, [.int k0, .int k1, .ref kb, .int ks, .ref kr, .ref kd, .int 0, .ref ko, .ref kp, .int kq, .ref kw, .int 0, .int kf, .int kl]))] H _ := hW
  refine lv_aload_n hx hb d_K_name_5 rfl (lv_at hl 0 rfl) ?_
  refine lv_iload_n hx hb d_K_name_6 rfl (lv_at hl 1 rfl) ?_
  refine r_callVi [.int k] [] C hl.1 hW (c_K_isElement0 l D tI tB tZ tL X hX h0 kb kr kd ko kp kw k0 k1 ks kq 0 kf kl k) ok_K_isElement w_3260 (wr := []) [0] [] rfl rfl (by decide) (by decide) (by decide) 0 rfl k_K rfl (by decide) (Nat.le_of_ble_eq_true rfl) (by decide) d_K_name_7 (fun r7 u H locs hu hW => ?_)
  subst hu
  have hW : Wd D A s [(h0, .inr (12, [.int k0, .int k1, .ref kb, .int ks, .ref kr, .ref kd, .int 0, .ref ko, .ref kp, .int kq, .ref kw, .int 0, .int kf, .int kl]))] H _ := hW
  refine lv_if_eq (tgt := 30) hx hb d_K_name_10 (by decide) (fun c_10 => ?_) (fun c_10 => absurd rfl c_10)
  refine lv_iconst (v := (-1)) hx hb d_K_name_30 (by decide) ?_
  rw [hQ]
  exact r_iret C hr hlk hW rfl () rfl [0] (by decide) rfl d_K_name_31 (by decide) (by decide)
set_option maxHeartbeats 4000000 in
set_option maxRecDepth 100000 in
theorem c_K_attribute0 (l : Launch) (D : va_G) (tI tB tZ tL : ClassId) (X : (Nat → Prop) → State → Prop) (hX : Ro X) (h0 kb kr kd ko kp kw : Nat) (k0 k1 ks kq kc kf kl : Int32) (k a b i : Int32) : CtI l D tI tB tZ tL X y_K_attribute b_K_attribute 6 .int ({ frames := 1, cells := 0, slots := 0, locals := 21 }) [.ref h0, .int k, .int a, .int b, .int i] [(h0, .inr (12, [.int k0, .int k1, .ref kb, .int ks, .ref kr, .ref kd, .int 0, .ref ko, .ref kp, .int kq, .ref kw, .int kc, .int kf, .int kl]))] (S := Unit) (fun (r : Int32) (_ : Unit) => r = (-1)) (fun _ => [(h0, .inr (12, [.int k0, .int k1, .ref kb, .int ks, .ref kr, .ref kd, .int 0, .ref ko, .ref kp, .int kq, .ref kw, .int 0, .int kf, .int kl]))]) := by
  refine CtI.start hX (by decide) (Nat.le_of_ble_eq_true rfl) ?_
  intro p e s m args below meth c A ls C hr hlk hW hl
  refine W.nameQ (fun Q hQ => ?_)
  have hx := C.1.1
  have hb := C.1.2.1
  have hown := C.1.2.2.2.1
  have hT := C.1.2.2.2.2
  have hl : lv_has ls 6 [(0, .ref h0), (1, .int k), (2, .int a), (3, .int b), (4, .int i)] := hl
  refine lv_aload_n hx hb d_K_attribute_0 rfl (lv_at hl 0 rfl) ?_
  refine lv_iconst (v := 0) hx hb d_K_attribute_1 (by decide) ?_
  refine r_put (v := .int 0) (ty := .int) C hW 0 rfl k_K i_K t_K o_K n_K 11 (by decide) w_2570 rfl (by decide +kernel) rfl rfl (Nat.le_of_ble_eq_true rfl) d_K_attribute_2 (fun H locs hW => ?_)
  have hW : Wd D A s [(h0, .inr (12, [.int k0, .int k1, .ref kb, .int ks, .ref kr, .ref kd, .int 0, .ref ko, .ref kp, .int kq, .ref kw, .int 0, .int kf, .int kl]))] H _ := hW
  refine lv_aload_n hx hb d_K_attribute_5 rfl (lv_at hl 0 rfl) ?_
  refine lv_iload_n hx hb d_K_attribute_6 rfl (lv_at hl 1 rfl) ?_
  refine r_callVi [.int k] [] C hl.1 hW (c_K_isElement0 l D tI tB tZ tL X hX h0 kb kr kd ko kp kw k0 k1 ks kq 0 kf kl k) ok_K_isElement w_3260 (wr := []) [0] [] rfl rfl (by decide) (by decide) (by decide) 0 rfl k_K rfl (by decide) (Nat.le_of_ble_eq_true rfl) (by decide) d_K_attribute_7 (fun r7 u H locs hu hW => ?_)
  subst hu
  have hW : Wd D A s [(h0, .inr (12, [.int k0, .int k1, .ref kb, .int ks, .ref kr, .ref kd, .int 0, .ref ko, .ref kp, .int kq, .ref kw, .int 0, .int kf, .int kl]))] H _ := hW
  refine lv_if_eq (tgt := 39) hx hb d_K_attribute_10 (by decide) (fun c_10 => ?_) (fun c_10 => absurd rfl c_10)
  refine lv_iconst (v := (-1)) hx hb d_K_attribute_39 (by decide) ?_
  rw [hQ]
  exact r_iret C hr hlk hW rfl () rfl [0] (by decide) rfl d_K_attribute_40 (by decide) (by decide)
set_option maxHeartbeats 4000000 in
set_option maxRecDepth 100000 in
theorem c_K_refusal0 (l : Launch) (D : va_G) (tI tB tZ tL : ClassId) (X : (Nat → Prop) → State → Prop) (hX : Ro X) (h0 kb kr kd ko kp kw : Nat) (k0 k1 ks kq kc kf kl : Int32) : CtI l D tI tB tZ tL X y_K_refusal b_K_refusal 4 .int ({ frames := 0, cells := 0, slots := 0, locals := 0 }) [.ref h0] [(h0, .inr (12, [.int k0, .int k1, .ref kb, .int ks, .ref kr, .ref kd, .int 0, .ref ko, .ref kp, .int kq, .ref kw, .int kc, .int kf, .int kl]))] (S := Unit) (fun (r : Int32) (_ : Unit) => r = (-1)) (fun _ => [(h0, .inr (12, [.int k0, .int k1, .ref kb, .int ks, .ref kr, .ref kd, .int 0, .ref ko, .ref kp, .int kq, .ref kw, .int kc, .int kf, .int kl]))]) := by
  refine CtI.start hX (by decide) (Nat.le_of_ble_eq_true rfl) ?_
  intro p e s m args below meth c A ls C hr hlk hW hl
  refine W.nameQ (fun Q hQ => ?_)
  have hx := C.1.1
  have hb := C.1.2.1
  have hown := C.1.2.2.2.1
  have hT := C.1.2.2.2.2
  have hl : lv_has ls 4 [(0, .ref h0)] := hl
  refine lv_aload_n hx hb d_K_refusal_0 rfl (lv_at hl 0 rfl) ?_
  refine r_get C hW 0 rfl k_K i_K 6 (by decide) rfl w_2565 d_K_refusal_1 ?_
  refine lv_if_ne (tgt := 9) hx hb d_K_refusal_4 (by decide) (fun c_4 => absurd rfl c_4) (fun c_4 => ?_)
  refine lv_iconst (v := (-1)) hx hb d_K_refusal_7 (by decide) ?_
  rw [hQ]
  exact r_iret C hr hlk hW rfl () rfl [0] (by decide) rfl d_K_refusal_8 (by decide) (by decide)
set_option maxHeartbeats 4000000 in
set_option maxRecDepth 100000 in
theorem c_K_canonical0 (l : Launch) (D : va_G) (tI tB tZ tL : ClassId) (X : (Nat → Prop) → State → Prop) (hX : Ro X) (h0 kb kr kd ko kp kw : Nat) (k0 k1 ks kq kc kf kl : Int32) : CtI l D tI tB tZ tL X y_K_canonical b_K_canonical 2 .int ({ frames := 1, cells := 0, slots := 0, locals := 23 }) [.ref h0] [(h0, .inr (12, [.int k0, .int k1, .ref kb, .int ks, .ref kr, .ref kd, .int 0, .ref ko, .ref kp, .int kq, .ref kw, .int kc, .int kf, .int kl]))] (S := Unit) (fun (r : Int32) (_ : Unit) => r = (-1)) (fun _ => [(h0, .inr (12, [.int k0, .int k1, .ref kb, .int ks, .ref kr, .ref kd, .int 0, .ref ko, .ref kp, .int kq, .ref kw, .int 0, .int kf, .int kl]))]) := by
  refine CtI.start hX (by decide) (Nat.le_of_ble_eq_true rfl) ?_
  intro p e s m args below meth c A ls C hr hlk hW hl
  refine W.nameQ (fun Q hQ => ?_)
  have hx := C.1.1
  have hb := C.1.2.1
  have hown := C.1.2.2.2.1
  have hT := C.1.2.2.2.2
  have hl : lv_has ls 2 [(0, .ref h0)] := hl
  refine lv_aload_n hx hb d_K_canonical_0 rfl (lv_at hl 0 rfl) ?_
  refine lv_iconst (v := 0) hx hb d_K_canonical_1 (by decide) ?_
  refine r_put (v := .int 0) (ty := .int) C hW 0 rfl k_K i_K t_K o_K n_K 11 (by decide) w_2570 rfl (by decide +kernel) rfl rfl (Nat.le_of_ble_eq_true rfl) d_K_canonical_2 (fun H locs hW => ?_)
  have hW : Wd D A s [(h0, .inr (12, [.int k0, .int k1, .ref kb, .int ks, .ref kr, .ref kd, .int 0, .ref ko, .ref kp, .int kq, .ref kw, .int 0, .int kf, .int kl]))] H _ := hW
  refine lv_aload_n hx hb d_K_canonical_5 rfl (lv_at hl 0 rfl) ?_
  refine r_callVi [] [] C hl.1 hW (c_K_refusal0 l D tI tB tZ tL X hX h0 kb kr kd ko kp kw k0 k1 ks kq 0 kf kl) ok_K_refusal w_3294 (wr := []) [0] [] rfl rfl (by decide) (by decide) (by decide) 0 rfl k_K rfl (by decide) (Nat.le_of_ble_eq_true rfl) (by decide) d_K_canonical_6 (fun r6 u H locs hu hW => ?_)
  subst hu
  have hW : Wd D A s [(h0, .inr (12, [.int k0, .int k1, .ref kb, .int ks, .ref kr, .ref kd, .int 0, .ref ko, .ref kp, .int kq, .ref kw, .int 0, .int kf, .int kl]))] H _ := hW
  refine lv_istore_n (lv' := [(1, .int (-1)), (0, .ref h0)]) hx hb d_K_canonical_9 rfl hl (by decide) rfl (fun ls hl => ?_)
  refine lv_iload_n hx hb d_K_canonical_10 rfl (lv_at hl 0 rfl) ?_
  refine lv_if_ne (tgt := 35) hx hb d_K_canonical_11 (by decide) (fun c_11 => ?_) (fun c_11 => absurd c_11 (by decide))
  refine lv_iload_n hx hb d_K_canonical_35 rfl (lv_at hl 0 rfl) ?_
  rw [hQ]
  exact r_iret C hr hlk hW rfl () rfl [0] (by decide) rfl d_K_canonical_36 (by decide) (by decide)
set_option maxHeartbeats 4000000 in
set_option maxRecDepth 100000 in
theorem c_K_steady0 (l : Launch) (D : va_G) (tI tB tZ tL : ClassId) (X : (Nat → Prop) → State → Prop) (hX : Ro X) (h0 kb kr kd ko kp kw : Nat) (k0 k1 ks kq kc kf kl : Int32) : CtI l D tI tB tZ tL X y_K_steady b_K_steady 1 .boolean ({ frames := 1, cells := 0, slots := 0, locals := 23 }) [.ref h0] [(h0, .inr (12, [.int k0, .int k1, .ref kb, .int ks, .ref kr, .ref kd, .int 0, .ref ko, .ref kp, .int kq, .ref kw, .int kc, .int kf, .int kl]))] (S := Unit) (fun (r : Int32) (_ : Unit) => r = 1) (fun _ => [(h0, .inr (12, [.int k0, .int k1, .ref kb, .int ks, .ref kr, .ref kd, .int 0, .ref ko, .ref kp, .int kq, .ref kw, .int 0, .int kf, .int kl]))]) := by
  refine CtI.start hX (by decide) (Nat.le_of_ble_eq_true rfl) ?_
  intro p e s m args below meth c A ls C hr hlk hW hl
  refine W.nameQ (fun Q hQ => ?_)
  have hx := C.1.1
  have hb := C.1.2.1
  have hown := C.1.2.2.2.1
  have hT := C.1.2.2.2.2
  have hl : lv_has ls 1 [(0, .ref h0)] := hl
  refine lv_aload_n hx hb d_K_steady_0 rfl (lv_at hl 0 rfl) ?_
  refine lv_iconst (v := 0) hx hb d_K_steady_1 (by decide) ?_
  refine r_put (v := .int 0) (ty := .int) C hW 0 rfl k_K i_K t_K o_K n_K 11 (by decide) w_2570 rfl (by decide +kernel) rfl rfl (Nat.le_of_ble_eq_true rfl) d_K_steady_2 (fun H locs hW => ?_)
  have hW : Wd D A s [(h0, .inr (12, [.int k0, .int k1, .ref kb, .int ks, .ref kr, .ref kd, .int 0, .ref ko, .ref kp, .int kq, .ref kw, .int 0, .int kf, .int kl]))] H _ := hW
  refine lv_aload_n hx hb d_K_steady_5 rfl (lv_at hl 0 rfl) ?_
  refine r_callVi [] [] C hl.1 hW (c_K_refusal0 l D tI tB tZ tL X hX h0 kb kr kd ko kp kw k0 k1 ks kq 0 kf kl) ok_K_refusal w_3294 (wr := []) [0] [] rfl rfl (by decide) (by decide) (by decide) 0 rfl k_K rfl (by decide) (Nat.le_of_ble_eq_true rfl) (by decide) d_K_steady_6 (fun r6 u H locs hu hW => ?_)
  subst hu
  have hW : Wd D A s [(h0, .inr (12, [.int k0, .int k1, .ref kb, .int ks, .ref kr, .ref kd, .int 0, .ref ko, .ref kp, .int kq, .ref kw, .int 0, .int kf, .int kl]))] H _ := hW
  refine lv_if_eq (tgt := 14) hx hb d_K_steady_9 (by decide) (fun c_9 => absurd c_9 (by decide)) (fun c_9 => ?_)
  refine lv_iconst (v := 1) hx hb d_K_steady_12 (by decide) ?_
  rw [hQ]
  exact r_iret C hr hlk hW rfl () rfl [0] (by decide) rfl d_K_steady_13 (by decide) (by decide)
set_option maxHeartbeats 4000000 in
set_option maxRecDepth 100000 in
theorem c_K_out0 (l : Launch) (D : va_G) (tI tB tZ tL : ClassId) (X : (Nat → Prop) → State → Prop) (hX : Ro X) (h0 kb kr kd ko kp kw : Nat) (k0 k1 ks kc kf kl : Int32) (hd : Int32) (k : Int32) : CtI l D tI tB tZ tL X y_K_out b_K_out 2 .int ({ frames := 0, cells := 0, slots := 0, locals := 0 }) [.ref h0, .int k] [(h0, .inr (12, [.int k0, .int k1, .ref kb, .int ks, .ref kr, .ref kd, .int hd, .ref ko, .ref kp, .int 0, .ref kw, .int kc, .int kf, .int kl]))] (S := Unit) (fun (r : Int32) (_ : Unit) => r = (-1)) (fun _ => [(h0, .inr (12, [.int k0, .int k1, .ref kb, .int ks, .ref kr, .ref kd, .int hd, .ref ko, .ref kp, .int 0, .ref kw, .int 0, .int kf, .int kl]))]) := by
  refine CtI.start hX (by decide) (Nat.le_of_ble_eq_true rfl) ?_
  intro p e s m args below meth c A ls C hr hlk hW hl
  refine W.nameQ (fun Q hQ => ?_)
  have hx := C.1.1
  have hb := C.1.2.1
  have hown := C.1.2.2.2.1
  have hT := C.1.2.2.2.2
  have hl : lv_has ls 2 [(0, .ref h0), (1, .int k)] := hl
  refine lv_aload_n hx hb d_K_out_0 rfl (lv_at hl 0 rfl) ?_
  refine lv_iconst (v := 0) hx hb d_K_out_1 (by decide) ?_
  refine r_put (v := .int 0) (ty := .int) C hW 0 rfl k_K i_K t_K o_K n_K 11 (by decide) w_2570 rfl (by decide +kernel) rfl rfl (Nat.le_of_ble_eq_true rfl) d_K_out_2 (fun H locs hW => ?_)
  have hW : Wd D A s [(h0, .inr (12, [.int k0, .int k1, .ref kb, .int ks, .ref kr, .ref kd, .int hd, .ref ko, .ref kp, .int 0, .ref kw, .int 0, .int kf, .int kl]))] H _ := hW
  refine lv_iload_n hx hb d_K_out_5 rfl (lv_at hl 1 rfl) ?_
  refine lv_if_lt (tgt := 30) hx hb d_K_out_6 (by decide) (fun c_6 => ?_) (fun c_6 => ?_)
  · refine lv_iconst (v := (-1)) hx hb d_K_out_30 (by decide) ?_
    rw [hQ]
    exact r_iret C hr hlk hW rfl () rfl [0] (by decide) rfl d_K_out_31 (by decide) (by decide)
  · refine lv_iload_n hx hb d_K_out_9 rfl (lv_at hl 1 rfl) ?_
    refine lv_aload_n hx hb d_K_out_10 rfl (lv_at hl 0 rfl) ?_
    refine r_get C hW 0 rfl k_K i_K 9 (by decide) rfl w_2568 d_K_out_11 ?_
    refine lv_icmp_ge (tgt := 30) hx hb d_K_out_14 (by decide) (fun c_14 => ?_) (fun c_14 => absurd (Int32.not_lt.mp c_6) c_14)
    refine lv_iconst (v := (-1)) hx hb d_K_out_30 (by decide) ?_
    rw [hQ]
    exact r_iret C hr hlk hW rfl () rfl [0] (by decide) rfl d_K_out_31 (by decide) (by decide)
set_option maxHeartbeats 4000000 in
set_option maxRecDepth 100000 in
theorem c_K_back0 (l : Launch) (D : va_G) (tI tB tZ tL : ClassId) (X : (Nat → Prop) → State → Prop) (hX : Ro X) (h0 kb kr kd ko kp kw : Nat) (k0 k1 ks kc kf kl : Int32) (hd : Int32) : CtI l D tI tB tZ tL X y_K_back b_K_back 2 .int ({ frames := 0, cells := 0, slots := 0, locals := 0 }) [.ref h0] [(h0, .inr (12, [.int k0, .int k1, .ref kb, .int ks, .ref kr, .ref kd, .int hd, .ref ko, .ref kp, .int 0, .ref kw, .int kc, .int kf, .int kl]))] (S := Unit) (fun (r : Int32) (_ : Unit) => r = (-1)) (fun _ => [(h0, .inr (12, [.int k0, .int k1, .ref kb, .int ks, .ref kr, .ref kd, .int hd, .ref ko, .ref kp, .int 0, .ref kw, .int 0, .int kf, .int kl]))]) := by
  refine CtI.start hX (by decide) (Nat.le_of_ble_eq_true rfl) ?_
  intro p e s m args below meth c A ls C hr hlk hW hl
  refine W.nameQ (fun Q hQ => ?_)
  have hx := C.1.1
  have hb := C.1.2.1
  have hown := C.1.2.2.2.1
  have hT := C.1.2.2.2.2
  have hl : lv_has ls 2 [(0, .ref h0)] := hl
  refine lv_aload_n hx hb d_K_back_0 rfl (lv_at hl 0 rfl) ?_
  refine lv_iconst (v := 0) hx hb d_K_back_1 (by decide) ?_
  refine r_put (v := .int 0) (ty := .int) C hW 0 rfl k_K i_K t_K o_K n_K 11 (by decide) w_2570 rfl (by decide +kernel) rfl rfl (Nat.le_of_ble_eq_true rfl) d_K_back_2 (fun H locs hW => ?_)
  have hW : Wd D A s [(h0, .inr (12, [.int k0, .int k1, .ref kb, .int ks, .ref kr, .ref kd, .int hd, .ref ko, .ref kp, .int 0, .ref kw, .int 0, .int kf, .int kl]))] H _ := hW
  refine lv_aload_n hx hb d_K_back_5 rfl (lv_at hl 0 rfl) ?_
  refine r_get C hW 0 rfl k_K i_K 9 (by decide) rfl w_2568 d_K_back_6 ?_
  refine lv_if_eq (tgt := 21) hx hb d_K_back_9 (by decide) (fun c_9 => ?_) (fun c_9 => absurd rfl c_9)
  refine lv_iconst (v := (-1)) hx hb d_K_back_21 (by decide) ?_
  rw [hQ]
  exact r_iret C hr hlk hW rfl () rfl [0] (by decide) rfl d_K_back_22 (by decide) (by decide)
set_option maxHeartbeats 4000000 in
set_option maxRecDepth 100000 in
theorem c_K_change0 (l : Launch) (D : va_G) (tI tB tZ tL : ClassId) (X : (Nat → Prop) → State → Prop) (hX : Ro X) (h0 kb kr kd ko kp kw : Nat) (k0 k1 kq kc kf kl : Int32) (hd : Int32) (i v : Int32) : CtI l D tI tB tZ tL X y_K_change b_K_change 4 .int ({ frames := 0, cells := 0, slots := 0, locals := 0 }) [.ref h0, .int i, .int v] [(h0, .inr (12, [.int k0, .int k1, .ref kb, .int 0, .ref kr, .ref kd, .int hd, .ref ko, .ref kp, .int kq, .ref kw, .int kc, .int kf, .int kl]))] (S := Unit) (fun (r : Int32) (_ : Unit) => r = (-1)) (fun _ => [(h0, .inr (12, [.int k0, .int k1, .ref kb, .int 0, .ref kr, .ref kd, .int hd, .ref ko, .ref kp, .int kq, .ref kw, .int 0, .int kf, .int kl]))]) := by
  refine CtI.start hX (by decide) (Nat.le_of_ble_eq_true rfl) ?_
  intro p e s m args below meth c A ls C hr hlk hW hl
  refine W.nameQ (fun Q hQ => ?_)
  have hx := C.1.1
  have hb := C.1.2.1
  have hown := C.1.2.2.2.1
  have hT := C.1.2.2.2.2
  have hl : lv_has ls 4 [(0, .ref h0), (1, .int i), (2, .int v)] := hl
  refine lv_aload_n hx hb d_K_change_0 rfl (lv_at hl 0 rfl) ?_
  refine lv_iconst (v := 0) hx hb d_K_change_1 (by decide) ?_
  refine r_put (v := .int 0) (ty := .int) C hW 0 rfl k_K i_K t_K o_K n_K 11 (by decide) w_2570 rfl (by decide +kernel) rfl rfl (Nat.le_of_ble_eq_true rfl) d_K_change_2 (fun H locs hW => ?_)
  have hW : Wd D A s [(h0, .inr (12, [.int k0, .int k1, .ref kb, .int 0, .ref kr, .ref kd, .int hd, .ref ko, .ref kp, .int kq, .ref kw, .int 0, .int kf, .int kl]))] H _ := hW
  refine lv_iload_n hx hb d_K_change_5 rfl (lv_at hl 1 rfl) ?_
  refine lv_if_lt (tgt := 28) hx hb d_K_change_6 (by decide) (fun c_6 => ?_) (fun c_6 => ?_)
  · refine lv_iconst (v := (-1)) hx hb d_K_change_28 (by decide) ?_
    rw [hQ]
    exact r_iret C hr hlk hW rfl () rfl [0] (by decide) rfl d_K_change_29 (by decide) (by decide)
  · refine lv_iload_n hx hb d_K_change_9 rfl (lv_at hl 1 rfl) ?_
    refine lv_aload_n hx hb d_K_change_10 rfl (lv_at hl 0 rfl) ?_
    refine r_get C hW 0 rfl k_K i_K 3 (by decide) rfl w_2562 d_K_change_11 ?_
    refine lv_icmp_ge (tgt := 28) hx hb d_K_change_14 (by decide) (fun c_14 => ?_) (fun c_14 => absurd (Int32.not_lt.mp c_6) c_14)
    refine lv_iconst (v := (-1)) hx hb d_K_change_28 (by decide) ?_
    rw [hQ]
    exact r_iret C hr hlk hW rfl () rfl [0] (by decide) rfl d_K_change_29 (by decide) (by decide)
