def y_Str_charAt : MethodName := ⟨"java/lang/String", "charAt", "(I)C"⟩
abbrev b_Str_charAt : ByteArray := prog_28_method_56_code
def y_Str_checkIndex : MethodName := ⟨"java/lang/String", "checkIndex", "(II)V"⟩
abbrev b_Str_checkIndex : ByteArray := prog_28_method_155_code
def y_Str_coder : MethodName := ⟨"java/lang/String", "coder", "()B"⟩
abbrev b_Str_coder : ByteArray := prog_28_method_152_code
def y_Str_isLatin1 : MethodName := ⟨"java/lang/String", "isLatin1", "()Z"⟩
abbrev b_Str_isLatin1 : ByteArray := prog_28_method_154_code
def y_Str_length : MethodName := ⟨"java/lang/String", "length", "()I"⟩
abbrev b_Str_length : ByteArray := prog_28_method_54_code
def y_java_lang_StringLatin1_charAt : MethodName := ⟨"java/lang/StringLatin1", "charAt", "([BI)C"⟩
abbrev b_java_lang_StringLatin1_charAt : ByteArray := prog_30_method_2_code
def y_jdk_internal_util_Preconditions_checkIndex : MethodName := ⟨"jdk/internal/util/Preconditions", "checkIndex", "(IILjava/util/function/BiFunction;)I"⟩
abbrev b_jdk_internal_util_Preconditions_checkIndex : ByteArray := prog_36_method_11_code
theorem w_67 : (Jvm.Cond.methodLink "java/lang/String" (335 : Nat) ({ cls := "java/lang/String", name := "coder", desc := "()B" } : Jvm.MethodName)) ∈ lwG := s_1 (List.mem_of_getElem? (i := 67) rfl) rfl
theorem w_71 : (Jvm.Cond.fieldLink "java/lang/String" (38 : Nat) "java/lang/String" "COMPACT_STRINGS" "Z") ∈ lwG := s_1 (List.mem_of_getElem? (i := 71) rfl) rfl
theorem w_77 : (Jvm.Cond.methodLink "java/lang/String" (492 : Nat) ({ cls := "java/lang/String", name := "isLatin1", desc := "()Z" } : Jvm.MethodName)) ∈ lwG := s_1 (List.mem_of_getElem? (i := 77) rfl) rfl
theorem w_81 : (Jvm.Cond.methodLink "java/lang/String" (495 : Nat) ({ cls := "java/lang/StringLatin1", name := "charAt", desc := "([BI)C" } : Jvm.MethodName)) ∈ lwG := s_1 (List.mem_of_getElem? (i := 81) rfl) rfl
theorem w_84 : (Jvm.Cond.methodLink "java/lang/StringLatin1" (9 : Nat) ({ cls := "java/lang/String", name := "checkIndex", desc := "(II)V" } : Jvm.MethodName)) ∈ lwG := s_1 (List.mem_of_getElem? (i := 84) rfl) rfl
theorem w_87 : (Jvm.Cond.fieldLink "java/lang/String" (1053 : Nat) "jdk/internal/util/Preconditions" "SIOOBE_FORMATTER" "Ljava/util/function/BiFunction;") ∈ lwG := s_1 (List.mem_of_getElem? (i := 87) rfl) rfl
theorem w_89 : (Jvm.Cond.methodLink "java/lang/String" (1059 : Nat) ({ cls := "jdk/internal/util/Preconditions", name := "checkIndex", desc := "(IILjava/util/function/BiFunction;)I" } : Jvm.MethodName)) ∈ lwG := s_1 (List.mem_of_getElem? (i := 89) rfl) rfl
theorem w_1123 : (Jvm.Cond.fieldLink "java/lang/String" (9 : Nat) "java/lang/String" "value" "[B") ∈ lwG := s_5 (List.mem_of_getElem? (i := 163) rfl) rfl
theorem w_1124 : (Jvm.Cond.fieldLink "java/lang/String" (15 : Nat) "java/lang/String" "coder" "B") ∈ lwG := s_5 (List.mem_of_getElem? (i := 164) rfl) rfl
theorem ok_Str_checkIndex : okS y_Str_checkIndex b_Str_checkIndex 2 none 2 := ⟨s_1 (List.mem_of_getElem? (i := 86) rfl) rfl, s_1 (List.mem_of_getElem? (i := 85) rfl) rfl, s_1 (List.mem_of_getElem? (i := 5) rfl) rfl, ⟨by decide +kernel, by decide +kernel, by decide +kernel⟩⟩
theorem ok_Str_coder : okV y_Str_coder b_Str_coder 1 (some .byte) 0 := ⟨s_1 (List.mem_of_getElem? (i := 70) rfl) rfl, s_1 (List.mem_of_getElem? (i := 68) rfl) rfl, s_1 (List.mem_of_getElem? (i := 69) rfl) rfl, s_1 (List.mem_of_getElem? (i := 5) rfl) rfl, ⟨by decide +kernel, by decide +kernel, by decide +kernel⟩⟩
theorem ok_Str_isLatin1 : okV y_Str_isLatin1 b_Str_isLatin1 1 (some .boolean) 0 := ⟨s_1 (List.mem_of_getElem? (i := 80) rfl) rfl, s_1 (List.mem_of_getElem? (i := 78) rfl) rfl, s_1 (List.mem_of_getElem? (i := 79) rfl) rfl, s_1 (List.mem_of_getElem? (i := 5) rfl) rfl, ⟨by decide +kernel, by decide +kernel, by decide +kernel⟩⟩
theorem ok_java_lang_StringLatin1_charAt : okS y_java_lang_StringLatin1_charAt b_java_lang_StringLatin1_charAt 2 (some .char) 2 := ⟨s_1 (List.mem_of_getElem? (i := 83) rfl) rfl, s_1 (List.mem_of_getElem? (i := 82) rfl) rfl, s_1 (List.mem_of_getElem? (i := 6) rfl) rfl, ⟨by decide +kernel, by decide +kernel, by decide +kernel⟩⟩
theorem ok_jdk_internal_util_Preconditions_checkIndex : okS y_jdk_internal_util_Preconditions_checkIndex b_jdk_internal_util_Preconditions_checkIndex 3 (some .int) 3 := ⟨s_1 (List.mem_of_getElem? (i := 91) rfl) rfl, s_1 (List.mem_of_getElem? (i := 90) rfl) rfl, s_1 (List.mem_of_getElem? (i := 7) rfl) rfl, ⟨by decide +kernel, by decide +kernel, by decide +kernel⟩⟩
theorem d_Str_charAt_0 : decode b_Str_charAt 0 = .ok (.aload_n 0, 1) := by decide +kernel
theorem d_Str_charAt_1 : decode b_Str_charAt 1 = .ok (.invokevirtual 492, 3) := by decide +kernel
theorem d_Str_charAt_4 : decode b_Str_charAt 4 = .ok (.ifCond .eq 12, 3) := by decide +kernel
theorem d_Str_charAt_7 : decode b_Str_charAt 7 = .ok (.aload_n 0, 1) := by decide +kernel
theorem d_Str_charAt_8 : decode b_Str_charAt 8 = .ok (.getfield 9, 3) := by decide +kernel
theorem d_Str_charAt_11 : decode b_Str_charAt 11 = .ok (.iload_n 1, 1) := by decide +kernel
theorem d_Str_charAt_12 : decode b_Str_charAt 12 = .ok (.invokestatic 495, 3) := by decide +kernel
theorem d_Str_charAt_15 : decode b_Str_charAt 15 = .ok (.ireturn, 1) := by decide +kernel
theorem d_Str_checkIndex_0 : decode b_Str_checkIndex 0 = .ok (.iload_n 0, 1) := by decide +kernel
theorem d_Str_checkIndex_1 : decode b_Str_checkIndex 1 = .ok (.iload_n 1, 1) := by decide +kernel
theorem d_Str_checkIndex_2 : decode b_Str_checkIndex 2 = .ok (.getstatic 1053, 3) := by decide +kernel
theorem d_Str_checkIndex_5 : decode b_Str_checkIndex 5 = .ok (.invokestatic 1059, 3) := by decide +kernel
theorem d_Str_checkIndex_8 : decode b_Str_checkIndex 8 = .ok (.pop, 1) := by decide +kernel
theorem d_Str_checkIndex_9 : decode b_Str_checkIndex 9 = .ok (.return_, 1) := by decide +kernel
theorem d_Str_coder_0 : decode b_Str_coder 0 = .ok (.getstatic 38, 3) := by decide +kernel
theorem d_Str_coder_3 : decode b_Str_coder 3 = .ok (.ifCond .eq 10, 3) := by decide +kernel
theorem d_Str_coder_6 : decode b_Str_coder 6 = .ok (.aload_n 0, 1) := by decide +kernel
theorem d_Str_coder_7 : decode b_Str_coder 7 = .ok (.getfield 15, 3) := by decide +kernel
theorem d_Str_coder_10 : decode b_Str_coder 10 = .ok (.goto 4, 3) := by decide +kernel
theorem d_Str_coder_14 : decode b_Str_coder 14 = .ok (.ireturn, 1) := by decide +kernel
theorem d_Str_isLatin1_0 : decode b_Str_isLatin1 0 = .ok (.getstatic 38, 3) := by decide +kernel
theorem d_Str_isLatin1_3 : decode b_Str_isLatin1 3 = .ok (.ifCond .eq 14, 3) := by decide +kernel
theorem d_Str_isLatin1_6 : decode b_Str_isLatin1 6 = .ok (.aload_n 0, 1) := by decide +kernel
theorem d_Str_isLatin1_7 : decode b_Str_isLatin1 7 = .ok (.getfield 15, 3) := by decide +kernel
theorem d_Str_isLatin1_10 : decode b_Str_isLatin1 10 = .ok (.ifCond .ne 7, 3) := by decide +kernel
theorem d_Str_isLatin1_13 : decode b_Str_isLatin1 13 = .ok (.iconst 1, 1) := by decide +kernel
theorem d_Str_isLatin1_14 : decode b_Str_isLatin1 14 = .ok (.goto 4, 3) := by decide +kernel
theorem d_Str_isLatin1_18 : decode b_Str_isLatin1 18 = .ok (.ireturn, 1) := by decide +kernel
theorem d_Str_length_0 : decode b_Str_length 0 = .ok (.aload_n 0, 1) := by decide +kernel
theorem d_Str_length_1 : decode b_Str_length 1 = .ok (.getfield 9, 3) := by decide +kernel
theorem d_Str_length_4 : decode b_Str_length 4 = .ok (.arraylength, 1) := by decide +kernel
theorem d_Str_length_5 : decode b_Str_length 5 = .ok (.aload_n 0, 1) := by decide +kernel
theorem d_Str_length_6 : decode b_Str_length 6 = .ok (.invokevirtual 335, 3) := by decide +kernel
theorem d_Str_length_9 : decode b_Str_length 9 = .ok (.ishr, 1) := by decide +kernel
theorem d_Str_length_10 : decode b_Str_length 10 = .ok (.ireturn, 1) := by decide +kernel
theorem d_java_lang_StringLatin1_charAt_0 : decode b_java_lang_StringLatin1_charAt 0 = .ok (.iload_n 1, 1) := by decide +kernel
theorem d_java_lang_StringLatin1_charAt_1 : decode b_java_lang_StringLatin1_charAt 1 = .ok (.aload_n 0, 1) := by decide +kernel
theorem d_java_lang_StringLatin1_charAt_2 : decode b_java_lang_StringLatin1_charAt 2 = .ok (.arraylength, 1) := by decide +kernel
theorem d_java_lang_StringLatin1_charAt_3 : decode b_java_lang_StringLatin1_charAt 3 = .ok (.invokestatic 9, 3) := by decide +kernel
theorem d_java_lang_StringLatin1_charAt_6 : decode b_java_lang_StringLatin1_charAt 6 = .ok (.aload_n 0, 1) := by decide +kernel
theorem d_java_lang_StringLatin1_charAt_7 : decode b_java_lang_StringLatin1_charAt 7 = .ok (.iload_n 1, 1) := by decide +kernel
theorem d_java_lang_StringLatin1_charAt_8 : decode b_java_lang_StringLatin1_charAt 8 = .ok (.baload, 1) := by decide +kernel
theorem d_java_lang_StringLatin1_charAt_9 : decode b_java_lang_StringLatin1_charAt 9 = .ok (.sipush 255, 3) := by decide +kernel
theorem d_java_lang_StringLatin1_charAt_12 : decode b_java_lang_StringLatin1_charAt 12 = .ok (.iand, 1) := by decide +kernel
theorem d_java_lang_StringLatin1_charAt_13 : decode b_java_lang_StringLatin1_charAt 13 = .ok (.i2c, 1) := by decide +kernel
theorem d_java_lang_StringLatin1_charAt_14 : decode b_java_lang_StringLatin1_charAt 14 = .ok (.ireturn, 1) := by decide +kernel
theorem d_jdk_internal_util_Preconditions_checkIndex_0 : decode b_jdk_internal_util_Preconditions_checkIndex 0 = .ok (.iload_n 0, 1) := by decide +kernel
theorem d_jdk_internal_util_Preconditions_checkIndex_1 : decode b_jdk_internal_util_Preconditions_checkIndex 1 = .ok (.ifCond .lt 8, 3) := by decide +kernel
theorem d_jdk_internal_util_Preconditions_checkIndex_4 : decode b_jdk_internal_util_Preconditions_checkIndex 4 = .ok (.iload_n 0, 1) := by decide +kernel
theorem d_jdk_internal_util_Preconditions_checkIndex_5 : decode b_jdk_internal_util_Preconditions_checkIndex 5 = .ok (.iload_n 1, 1) := by decide +kernel
theorem d_jdk_internal_util_Preconditions_checkIndex_6 : decode b_jdk_internal_util_Preconditions_checkIndex 6 = .ok (.if_icmp .lt 10, 3) := by decide +kernel
theorem d_jdk_internal_util_Preconditions_checkIndex_16 : decode b_jdk_internal_util_Preconditions_checkIndex 16 = .ok (.iload_n 0, 1) := by decide +kernel
theorem d_jdk_internal_util_Preconditions_checkIndex_17 : decode b_jdk_internal_util_Preconditions_checkIndex 17 = .ok (.ireturn, 1) := by decide +kernel
/-- a text of the program, in the old heap: its bytes are bs (Latin-1) -/
def sAt (q v : Nat) (bs : List Int32) (A : Nat → Prop) (U : State) : Prop := va_O "java/lang/String" q A U U.heap ∧ va_OF "java/lang/String" "coder" "B" (.int 0) q A U U.heap ∧ va_OF "java/lang/String" "value" "[B" (.ref v) q A U U.heap ∧ va_T .byte v bs.length (fun j => .int (bs.getD j 0)) A U U.heap
/-- what the JDK's text members read of statics -/
def sJ (A : Nat → Prop) (U : State) : Prop := va_Z "java/lang/String" "COMPACT_STRINGS" "Z" (.int 1) A U U.heap ∧ va_Zq "jdk/internal/util/Preconditions" "SIOOBE_FORMATTER" "Ljava/util/function/BiFunction;" A U U.heap
set_option maxHeartbeats 4000000 in
set_option maxRecDepth 100000 in
/-- coder(): Latin-1 -/
theorem c_Str_coder (l : Launch) (D : va_G) (tI tB tZ tL : ClassId) (X : (Nat → Prop) → State → Prop) (hX : Ro X) (q v : Nat) (bs : List Int32) (hJ : ∀ A U, X A U → sJ A U) (hs : ∀ A U, X A U → sAt q v bs A U) : CtI l D tI tB tZ tL X y_Str_coder b_Str_coder 1 .byte ({ frames := 0, cells := 0, slots := 0, locals := 0 }) [.ref q] [] (S := Unit) (fun (r : Int32) (_ : Unit) => r = 0) (fun _ => []) := by
  refine CtI.start hX (by decide) (Nat.le_of_ble_eq_true rfl) ?_
  intro p e s m args below meth c A ls C hr hlk hW hl
  refine W.nameQ (fun Q hQ => ?_)
  have hx := C.1.1
  have hb := C.1.2.1
  have hown := C.1.2.2.2.1
  have hT := C.1.2.2.2.2
  have hl : lv_has ls 1 [(0, .ref q)] := hl
  refine va_gets hx hb (hJ A s C.2.2.2.1).1 hW.2.2 hown (hT _ w_71) (fun _ h => h) d_Str_coder_0 ?_
  refine lv_if_eq (tgt := 13) hx hb d_Str_coder_3 (by decide) (fun c_3 => absurd c_3 (by decide)) (fun c_3 => ?_)
  refine lv_aload_n hx hb d_Str_coder_6 rfl (lv_at hl 0 rfl) ?_
  refine vk_getf hx hb (hs A s C.2.2.2.1).2.1 hW.2.2 hown (hT _ w_1124) (fun _ h => h) d_Str_coder_7 ?_
  refine lv_goto (tgt := 14) hx hb d_Str_coder_10 (by decide) ?_
  rw [hQ]
  exact r_iret C hr hlk hW rfl () rfl [] (by decide) rfl d_Str_coder_14 (by decide) (by decide)
set_option maxHeartbeats 4000000 in
set_option maxRecDepth 100000 in
theorem c_Str_isLatin1 (l : Launch) (D : va_G) (tI tB tZ tL : ClassId) (X : (Nat → Prop) → State → Prop) (hX : Ro X) (q v : Nat) (bs : List Int32) (hJ : ∀ A U, X A U → sJ A U) (hs : ∀ A U, X A U → sAt q v bs A U) : CtI l D tI tB tZ tL X y_Str_isLatin1 b_Str_isLatin1 1 .boolean ({ frames := 0, cells := 0, slots := 0, locals := 0 }) [.ref q] [] (S := Unit) (fun (r : Int32) (_ : Unit) => r = 1) (fun _ => []) := by
  refine CtI.start hX (by decide) (Nat.le_of_ble_eq_true rfl) ?_
  intro p e s m args below meth c A ls C hr hlk hW hl
  refine W.nameQ (fun Q hQ => ?_)
  have hx := C.1.1
  have hb := C.1.2.1
  have hown := C.1.2.2.2.1
  have hT := C.1.2.2.2.2
  have hl : lv_has ls 1 [(0, .ref q)] := hl
  refine va_gets hx hb (hJ A s C.2.2.2.1).1 hW.2.2 hown (hT _ w_71) (fun _ h => h) d_Str_isLatin1_0 ?_
  refine lv_if_eq (tgt := 17) hx hb d_Str_isLatin1_3 (by decide) (fun c_3 => absurd c_3 (by decide)) (fun c_3 => ?_)
  refine lv_aload_n hx hb d_Str_isLatin1_6 rfl (lv_at hl 0 rfl) ?_
  refine vk_getf hx hb (hs A s C.2.2.2.1).2.1 hW.2.2 hown (hT _ w_1124) (fun _ h => h) d_Str_isLatin1_7 ?_
  refine lv_if_ne (tgt := 17) hx hb d_Str_isLatin1_10 (by decide) (fun c_10 => absurd rfl c_10) (fun c_10 => ?_)
  refine lv_iconst (v := 1) hx hb d_Str_isLatin1_13 (by decide) ?_
  refine lv_goto (tgt := 18) hx hb d_Str_isLatin1_14 (by decide) ?_
  rw [hQ]
  exact r_iret C hr hlk hW rfl () rfl [] (by decide) rfl d_Str_isLatin1_18 (by decide) (by decide)
set_option maxHeartbeats 4000000 in
set_option maxRecDepth 100000 in
theorem c_pci_r (l : Launch) (D : va_G) (tI tB tZ tL : ClassId) (X : (Nat → Prop) → State → Prop) (hX : Ro X) (f : Nat) (i n : Nat) (hi : i < n) (hn : n < 2 ^ 31) : CtI l D tI tB tZ tL X y_jdk_internal_util_Preconditions_checkIndex b_jdk_internal_util_Preconditions_checkIndex 3 .int ({ frames := 0, cells := 0, slots := 0, locals := 0 }) [.int (nI i), .int (nI n), .ref f] [] (S := Unit) (fun (r : Int32) (_ : Unit) => r = nI i) (fun _ => []) := by
  refine CtI.start hX (by decide) (Nat.le_of_ble_eq_true rfl) ?_
  intro p e s m args below meth c A ls C hr hlk hW hl
  refine W.nameQ (fun Q hQ => ?_)
  have hx := C.1.1
  have hb := C.1.2.1
  have hown := C.1.2.2.2.1
  have hT := C.1.2.2.2.2
  have hl : lv_has ls 3 [(0, .int (nI i)), (1, .int (nI n)), (2, .ref f)] := hl
  refine lv_iload_n hx hb d_jdk_internal_util_Preconditions_checkIndex_0 rfl (lv_at hl 0 rfl) ?_
  refine lv_if_lt (tgt := 9) hx hb d_jdk_internal_util_Preconditions_checkIndex_1 (by decide) (fun c_1 => absurd c_1 (nI_pos (by omega))) (fun c_1 => ?_)
  refine lv_iload_n hx hb d_jdk_internal_util_Preconditions_checkIndex_4 rfl (lv_at hl 0 rfl) ?_
  refine lv_iload_n hx hb d_jdk_internal_util_Preconditions_checkIndex_5 rfl (lv_at hl 1 rfl) ?_
  refine lv_icmp_lt (tgt := 16) hx hb d_jdk_internal_util_Preconditions_checkIndex_6 (by decide) (fun c_6 => ?_) (fun c_6 => absurd (nI_lt hi hn) c_6)
  refine lv_iload_n hx hb d_jdk_internal_util_Preconditions_checkIndex_16 rfl (lv_at hl 0 rfl) ?_
  rw [hQ]
  exact r_iret C hr hlk hW rfl () rfl [] (by decide) rfl d_jdk_internal_util_Preconditions_checkIndex_17 (by decide) (by decide)
set_option maxHeartbeats 4000000 in
set_option maxRecDepth 100000 in
theorem c_pci_n (l : Launch) (D : va_G) (tI tB tZ tL : ClassId) (X : (Nat → Prop) → State → Prop) (hX : Ro X) (i n : Nat) (hi : i < n) (hn : n < 2 ^ 31) : CtI l D tI tB tZ tL X y_jdk_internal_util_Preconditions_checkIndex b_jdk_internal_util_Preconditions_checkIndex 3 .int ({ frames := 0, cells := 0, slots := 0, locals := 0 }) [.int (nI i), .int (nI n), .null] [] (S := Unit) (fun (r : Int32) (_ : Unit) => r = nI i) (fun _ => []) := by
  refine CtI.start hX (by decide) (Nat.le_of_ble_eq_true rfl) ?_
  intro p e s m args below meth c A ls C hr hlk hW hl
  refine W.nameQ (fun Q hQ => ?_)
  have hx := C.1.1
  have hb := C.1.2.1
  have hown := C.1.2.2.2.1
  have hT := C.1.2.2.2.2
  have hl : lv_has ls 3 [(0, .int (nI i)), (1, .int (nI n)), (2, .null)] := hl
  refine lv_iload_n hx hb d_jdk_internal_util_Preconditions_checkIndex_0 rfl (lv_at hl 0 rfl) ?_
  refine lv_if_lt (tgt := 9) hx hb d_jdk_internal_util_Preconditions_checkIndex_1 (by decide) (fun c_1 => absurd c_1 (nI_pos (by omega))) (fun c_1 => ?_)
  refine lv_iload_n hx hb d_jdk_internal_util_Preconditions_checkIndex_4 rfl (lv_at hl 0 rfl) ?_
  refine lv_iload_n hx hb d_jdk_internal_util_Preconditions_checkIndex_5 rfl (lv_at hl 1 rfl) ?_
  refine lv_icmp_lt (tgt := 16) hx hb d_jdk_internal_util_Preconditions_checkIndex_6 (by decide) (fun c_6 => ?_) (fun c_6 => absurd (nI_lt hi hn) c_6)
  refine lv_iload_n hx hb d_jdk_internal_util_Preconditions_checkIndex_16 rfl (lv_at hl 0 rfl) ?_
  rw [hQ]
  exact r_iret C hr hlk hW rfl () rfl [] (by decide) rfl d_jdk_internal_util_Preconditions_checkIndex_17 (by decide) (by decide)
set_option maxHeartbeats 4000000 in
set_option maxRecDepth 100000 in
theorem c_Str_checkIndex (l : Launch) (D : va_G) (tI tB tZ tL : ClassId) (X : (Nat → Prop) → State → Prop) (hX : Ro X) (hJ : ∀ A U, X A U → sJ A U) (i n : Nat) (hi : i < n) (hn : n < 2 ^ 31) : CtV l D tI tB tZ tL X y_Str_checkIndex b_Str_checkIndex 2 ({ frames := 1, cells := 0, slots := 0, locals := 22 }) [.int (nI i), .int (nI n)] [] (S := Unit) (fun _ => True) (fun _ => []) := by
  refine CtV.start hX (by decide) (Nat.le_of_ble_eq_true rfl) ?_
  intro p e s m args below meth c A ls C hr hlk hin hW hl
  refine W.nameQ (fun Q hQ => ?_)
  have hx := C.1.1
  have hb := C.1.2.1
  have hown := C.1.2.2.2.1
  have hT := C.1.2.2.2.2
  have hl : lv_has ls 2 [(0, .int (nI i)), (1, .int (nI n))] := hl
  refine lv_iload_n hx hb d_Str_checkIndex_0 rfl (lv_at hl 0 rfl) ?_
  refine lv_iload_n hx hb d_Str_checkIndex_1 rfl (lv_at hl 1 rfl) ?_
  rcases (hJ A s C.2.2.2.1).2 with hz | ⟨t, hz⟩
  · refine va_gets hx hb hz hW.2.2 hown (hT _ w_87) (fun _ h => h) d_Str_checkIndex_2 ?_
    refine r_callSi [.int (nI i), .int (nI n), .null] [] C hl.1 hW (c_pci_n l D tI tB tZ tL X hX i n hi hn) ok_jdk_internal_util_Preconditions_checkIndex w_89 (wr := []) [] [] rfl rfl (by decide) (by decide) (by decide) rfl (by decide) (Nat.le_of_ble_eq_true rfl) (by decide) d_Str_checkIndex_5 (fun r5 u H locs hu hW => ?_)
    have hW : Wd D A s [] H _ := hW
    refine lv_pop hx hb d_Str_checkIndex_8 rfl ?_
    rw [hQ]
    exact r_vret C hr hlk hW () trivial [] (by decide) rfl d_Str_checkIndex_9 (by decide) (by decide)
  · refine va_gets hx hb hz hW.2.2 hown (hT _ w_87) (fun _ h => h) d_Str_checkIndex_2 ?_
    refine r_callSi [.int (nI i), .int (nI n), .ref t] [] C hl.1 hW (c_pci_r l D tI tB tZ tL X hX t i n hi hn) ok_jdk_internal_util_Preconditions_checkIndex w_89 (wr := []) [] [] rfl rfl (by decide) (by decide) (by decide) rfl (by decide) (Nat.le_of_ble_eq_true rfl) (by decide) d_Str_checkIndex_5 (fun r5 u H locs hu hW => ?_)
    have hW : Wd D A s [] H _ := hW
    refine lv_pop hx hb d_Str_checkIndex_8 rfl ?_
    rw [hQ]
    exact r_vret C hr hlk hW () trivial [] (by decide) rfl d_Str_checkIndex_9 (by decide) (by decide)
set_option maxHeartbeats 4000000 in
set_option maxRecDepth 100000 in
theorem c_Lat_charAt (l : Launch) (D : va_G) (tI tB tZ tL : ClassId) (X : (Nat → Prop) → State → Prop) (hX : Ro X) (q v : Nat) (bs : List Int32) (hJ : ∀ A U, X A U → sJ A U) (hs : ∀ A U, X A U → sAt q v bs A U) (k : Nat) (hk : k < bs.length) (hb31 : bs.length < 2 ^ 31) : CtI l D tI tB tZ tL X y_java_lang_StringLatin1_charAt b_java_lang_StringLatin1_charAt 2 .char ({ frames := 2, cells := 0, slots := 0, locals := 43 }) [.ref v, .int (nI k)] [] (S := Unit) (fun (r : Int32) (_ : Unit) => r = (bs.getD k 0 &&& 255)) (fun _ => []) := by
  refine CtI.start hX (by decide) (Nat.le_of_ble_eq_true rfl) ?_
  intro p e s m args below meth c A ls C hr hlk hW hl
  refine W.nameQ (fun Q hQ => ?_)
  have hx := C.1.1
  have hb := C.1.2.1
  have hown := C.1.2.2.2.1
  have hT := C.1.2.2.2.2
  have hl : lv_has ls 2 [(0, .ref v), (1, .int (nI k))] := hl
  refine lv_iload_n hx hb d_java_lang_StringLatin1_charAt_0 rfl (lv_at hl 1 rfl) ?_
  refine lv_aload_n hx hb d_java_lang_StringLatin1_charAt_1 rfl (lv_at hl 0 rfl) ?_
  refine va_tlen hx hb (hs A s C.2.2.2.1).2.2.2 hW.2.2 rfl d_java_lang_StringLatin1_charAt_2 ?_
  refine r_callS [.int (nI k), .int (nI bs.length)] [] C hl.1 hW (c_Str_checkIndex l D tI tB tZ tL X hX hJ k bs.length hk hb31) ok_Str_checkIndex w_84 (wr := []) [] [] rfl rfl (by decide) (by decide) (by decide) rfl (by decide) (Nat.le_of_ble_eq_true rfl) (by decide) d_java_lang_StringLatin1_charAt_3 (fun u H locs hu hW => ?_)
  have hW : Wd D A s [] H _ := hW
  refine lv_aload_n hx hb d_java_lang_StringLatin1_charAt_6 rfl (lv_at hl 0 rfl) ?_
  refine lv_iload_n hx hb d_java_lang_StringLatin1_charAt_7 rfl (lv_at hl 1 rfl) ?_
  refine va_tb hx hb (hs A s C.2.2.2.1).2.2.2 hW.2.2 (vp_in_nI hk hb31) (v := .int (bs.getD k 0)) (by show Value.int (bs.getD (nI k).toNatClampNeg 0) = _; rw [nI_clamp (Nat.lt_trans hk hb31)]) d_java_lang_StringLatin1_charAt_8 ?_
  refine lv_sipush (v := 255) hx hb d_java_lang_StringLatin1_charAt_9 (by decide) ?_
  refine lv_iand hx hb d_java_lang_StringLatin1_charAt_12 ?_
  refine lv_i2c hx hb d_java_lang_StringLatin1_charAt_13 rfl ?_
  refine W.eq (congrArg (fun z : Int32 => F0 m 14 ls (.int z :: [])) (show (((bs.getD k 0) &&& 255).toUInt32 % 65536).toInt32 = (bs.getD k 0 &&& 255) from (sc_c2 _))) ?_
  rw [hQ]
  exact r_iret C hr hlk hW (sc_nar _) () rfl [] (by decide) rfl d_java_lang_StringLatin1_charAt_14 (by decide) (by decide)
set_option maxHeartbeats 4000000 in
set_option maxRecDepth 100000 in
/-- length() -/
theorem c_Str_length (l : Launch) (D : va_G) (tI tB tZ tL : ClassId) (X : (Nat → Prop) → State → Prop) (hX : Ro X) (q v : Nat) (bs : List Int32) (hJ : ∀ A U, X A U → sJ A U) (hs : ∀ A U, X A U → sAt q v bs A U) (hb31 : bs.length < 2 ^ 31) : CtI l D tI tB tZ tL X y_Str_length b_Str_length 1 .int ({ frames := 1, cells := 0, slots := 0, locals := 20 }) [.ref q] [] (S := Unit) (fun (r : Int32) (_ : Unit) => r = nI bs.length) (fun _ => []) := by
  refine CtI.start hX (by decide) (Nat.le_of_ble_eq_true rfl) ?_
  intro p e s m args below meth c A ls C hr hlk hW hl
  refine W.nameQ (fun Q hQ => ?_)
  have hx := C.1.1
  have hb := C.1.2.1
  have hown := C.1.2.2.2.1
  have hT := C.1.2.2.2.2
  have hl : lv_has ls 1 [(0, .ref q)] := hl
  refine lv_aload_n hx hb d_Str_length_0 rfl (lv_at hl 0 rfl) ?_
  refine vk_getf hx hb (hs A s C.2.2.2.1).2.2.1 hW.2.2 hown (hT _ w_1123) (fun _ h => h) d_Str_length_1 ?_
  refine va_tlen hx hb (hs A s C.2.2.2.1).2.2.2 hW.2.2 rfl d_Str_length_4 ?_
  refine lv_aload_n hx hb d_Str_length_5 rfl (lv_at hl 0 rfl) ?_
  refine r_callXi [] [.int (nI bs.length)] C hl.1 hW (c_Str_coder l D tI tB tZ tL X hX q v bs hJ hs) ok_Str_coder w_67 (wr := []) [] [] rfl rfl (by decide) (by decide) (by decide) (r_recv C hW (hs A s C.2.2.2.1).1) rfl (by decide) (Nat.le_of_ble_eq_true rfl) (by decide) d_Str_length_6 (fun r6 u H locs hu hW => ?_)
  subst hu
  have hW : Wd D A s [] H _ := hW
  refine lv_ishr hx hb d_Str_length_9 ?_
  refine W.eq (congrArg (fun z : Int32 => F0 m 10 ls (.int z :: [])) (show ((nI bs.length) >>> (0 &&& 31)) = (nI bs.length) from (sc_shr0 hb31))) ?_
  rw [hQ]
  exact r_iret C hr hlk hW rfl () rfl [] (by decide) rfl d_Str_length_10 (by decide) (by decide)
set_option maxHeartbeats 4000000 in
set_option maxRecDepth 100000 in
/-- charAt(k) -/
theorem c_Str_charAt (l : Launch) (D : va_G) (tI tB tZ tL : ClassId) (X : (Nat → Prop) → State → Prop) (hX : Ro X) (q v : Nat) (bs : List Int32) (hJ : ∀ A U, X A U → sJ A U) (hs : ∀ A U, X A U → sAt q v bs A U) (k : Nat) (hk : k < bs.length) (hb31 : bs.length < 2 ^ 31) : CtI l D tI tB tZ tL X y_Str_charAt b_Str_charAt 2 .char ({ frames := 3, cells := 0, slots := 0, locals := 64 }) [.ref q, .int (nI k)] [] (S := Unit) (fun (r : Int32) (_ : Unit) => r = (bs.getD k 0 &&& 255)) (fun _ => []) := by
  refine CtI.start hX (by decide) (Nat.le_of_ble_eq_true rfl) ?_
  intro p e s m args below meth c A ls C hr hlk hW hl
  refine W.nameQ (fun Q hQ => ?_)
  have hx := C.1.1
  have hb := C.1.2.1
  have hown := C.1.2.2.2.1
  have hT := C.1.2.2.2.2
  have hl : lv_has ls 2 [(0, .ref q), (1, .int (nI k))] := hl
  refine lv_aload_n hx hb d_Str_charAt_0 rfl (lv_at hl 0 rfl) ?_
  refine r_callXi [] [] C hl.1 hW (c_Str_isLatin1 l D tI tB tZ tL X hX q v bs hJ hs) ok_Str_isLatin1 w_77 (wr := []) [] [] rfl rfl (by decide) (by decide) (by decide) (r_recv C hW (hs A s C.2.2.2.1).1) rfl (by decide) (Nat.le_of_ble_eq_true rfl) (by decide) d_Str_charAt_1 (fun r1 u H locs hu hW => ?_)
  subst hu
  have hW : Wd D A s [] H _ := hW
  refine lv_if_eq (tgt := 16) hx hb d_Str_charAt_4 (by decide) (fun c_4 => absurd c_4 (by decide)) (fun c_4 => ?_)
  refine lv_aload_n hx hb d_Str_charAt_7 rfl (lv_at hl 0 rfl) ?_
  refine vk_getf hx hb (hs A s C.2.2.2.1).2.2.1 hW.2.2 hown (hT _ w_1123) (fun _ h => h) d_Str_charAt_8 ?_
  refine lv_iload_n hx hb d_Str_charAt_11 rfl (lv_at hl 1 rfl) ?_
  refine r_callSi [.ref v, .int (nI k)] [] C hl.1 hW (c_Lat_charAt l D tI tB tZ tL X hX q v bs hJ hs k hk hb31) ok_java_lang_StringLatin1_charAt w_81 (wr := []) [] [] rfl rfl (by decide) (by decide) (by decide) rfl (by decide) (Nat.le_of_ble_eq_true rfl) (by decide) d_Str_charAt_12 (fun r12 u H locs hu hW => ?_)
  subst hu
  have hW : Wd D A s [] H _ := hW
  rw [hQ]
  exact r_iret C hr hlk hW (sc_nar _) () rfl [] (by decide) rfl d_Str_charAt_15 (by decide) (by decide)
