def y_Store_init : MethodName := ⟨"MarkupJudge$Store", "<init>", "(I)V"⟩
abbrev b_Store_init : ByteArray := prog_9_method_1_code
theorem w_50 : (Jvm.Cond.methodLink "MarkupJudge$Store" (3 : Nat) ({ cls := "java/lang/Object", name := "<init>", desc := "()V" } : Jvm.MethodName)) ∈ lwG := s_1 (List.mem_of_getElem? (i := 50) rfl) rfl
theorem w_51 : (Jvm.Cond.constant "MarkupJudge$Store" (15 : Nat) (65536 : Int32)) ∈ lwG := s_1 (List.mem_of_getElem? (i := 51) rfl) rfl
theorem w_52 : (Jvm.Cond.methodLink "MarkupJudge$Store" (16 : Nat) ({ cls := "java/lang/Math", name := "min", desc := "(II)I" } : Jvm.MethodName)) ∈ lwG := s_1 (List.mem_of_getElem? (i := 52) rfl) rfl
theorem w_55 : (Jvm.Cond.methodLink "MarkupJudge$Store" (44 : Nat) ({ cls := "java/util/Arrays", name := "fill", desc := "([II)V" } : Jvm.MethodName)) ∈ lwG := s_1 (List.mem_of_getElem? (i := 55) rfl) rfl
theorem w_59 : (Jvm.Cond.methodLink "MarkupJudge$Store" (52 : Nat) ({ cls := "MarkupJudge$Store", name := "keep", desc := "(Ljava/lang/String;)V" } : Jvm.MethodName)) ∈ lwG := s_1 (List.mem_of_getElem? (i := 59) rfl) rfl
theorem w_142 : (Jvm.Cond.fieldLink "MarkupJudge$Store" (9 : Nat) "MarkupJudge$Store" "room" "I") ∈ lwG := s_1 (List.mem_of_getElem? (i := 142) rfl) rfl
theorem w_152 : (Jvm.Cond.fieldLink "MarkupJudge$Store" (101 : Nat) "MarkupJudge$Store" "begin" "I") ∈ lwG := s_1 (List.mem_of_getElem? (i := 152) rfl) rfl
theorem w_176 : (Jvm.Cond.fieldLink "MarkupJudge$Store" (95 : Nat) "MarkupJudge$Store" "lasting" "I") ∈ lwG := s_1 (List.mem_of_getElem? (i := 176) rfl) rfl
theorem w_182 : (Jvm.Cond.fieldLink "MarkupJudge$Store" (38 : Nat) "MarkupJudge$Store" "mark" "[I") ∈ lwG := s_1 (List.mem_of_getElem? (i := 182) rfl) rfl
theorem ok_Store_keep : okV y_Store_keep b_Store_keep 4 none 1 := ⟨s_1 (List.mem_of_getElem? (i := 62) rfl) rfl, s_1 (List.mem_of_getElem? (i := 61) rfl) rfl, List.mem_filter.mpr ⟨List.mem_append_left _ (List.mem_map.mpr ⟨(y_Store_keep, 17), List.mem_of_getElem? (i := 0) rfl, rfl⟩), rfl⟩, s_1 (List.mem_of_getElem? (i := 2) rfl) rfl, ⟨by decide +kernel, by decide +kernel, by decide +kernel⟩⟩
theorem ok_Arrays_fill0 : okS y_Arrays_fill0 b_Arrays_fill0 4 none 2 := ⟨s_1 (List.mem_of_getElem? (i := 57) rfl) rfl, s_1 (List.mem_of_getElem? (i := 56) rfl) rfl, s_1 (List.mem_of_getElem? (i := 4) rfl) rfl, ⟨by decide +kernel, by decide +kernel, by decide +kernel⟩⟩
theorem d_Store_init_0 : decode b_Store_init 0 = .ok (.aload_n 0, 1) := by decide +kernel
theorem d_Store_init_1 : decode b_Store_init 1 = .ok (.invokespecial 3, 3) := by decide +kernel
theorem d_Store_init_4 : decode b_Store_init 4 = .ok (.aload_n 0, 1) := by decide +kernel
theorem d_Store_init_5 : decode b_Store_init 5 = .ok (.iload_n 1, 1) := by decide +kernel
theorem d_Store_init_6 : decode b_Store_init 6 = .ok (.putfield 9, 3) := by decide +kernel
theorem d_Store_init_9 : decode b_Store_init 9 = .ok (.aload_n 0, 1) := by decide +kernel
theorem d_Store_init_10 : decode b_Store_init 10 = .ok (.sipush 256, 3) := by decide +kernel
theorem d_Store_init_13 : decode b_Store_init 13 = .ok (.iload_n 1, 1) := by decide +kernel
theorem d_Store_init_14 : decode b_Store_init 14 = .ok (.ldc 15, 2) := by decide +kernel
theorem d_Store_init_16 : decode b_Store_init 16 = .ok (.invokestatic 16, 3) := by decide +kernel
theorem d_Store_init_19 : decode b_Store_init 19 = .ok (.iadd, 1) := by decide +kernel
theorem d_Store_init_20 : decode b_Store_init 20 = .ok (.iload_n 1, 1) := by decide +kernel
theorem d_Store_init_21 : decode b_Store_init 21 = .ok (.iadd, 1) := by decide +kernel
theorem d_Store_init_22 : decode b_Store_init 22 = .ok (.newarray .int, 2) := by decide +kernel
theorem d_Store_init_24 : decode b_Store_init 24 = .ok (.putfield 22, 3) := by decide +kernel
theorem d_Store_init_27 : decode b_Store_init 27 = .ok (.iload_n 1, 1) := by decide +kernel
theorem d_Store_init_28 : decode b_Store_init 28 = .ok (.iconst 2, 1) := by decide +kernel
theorem d_Store_init_29 : decode b_Store_init 29 = .ok (.idiv, 1) := by decide +kernel
theorem d_Store_init_30 : decode b_Store_init 30 = .ok (.bipush 64, 2) := by decide +kernel
theorem d_Store_init_32 : decode b_Store_init 32 = .ok (.iadd, 1) := by decide +kernel
theorem d_Store_init_33 : decode b_Store_init 33 = .ok (.istore_n 2, 1) := by decide +kernel
theorem d_Store_init_34 : decode b_Store_init 34 = .ok (.aload_n 0, 1) := by decide +kernel
theorem d_Store_init_35 : decode b_Store_init 35 = .ok (.iload_n 2, 1) := by decide +kernel
theorem d_Store_init_36 : decode b_Store_init 36 = .ok (.newarray .int, 2) := by decide +kernel
theorem d_Store_init_38 : decode b_Store_init 38 = .ok (.putfield 26, 3) := by decide +kernel
theorem d_Store_init_41 : decode b_Store_init 41 = .ok (.aload_n 0, 1) := by decide +kernel
theorem d_Store_init_42 : decode b_Store_init 42 = .ok (.iload_n 2, 1) := by decide +kernel
theorem d_Store_init_43 : decode b_Store_init 43 = .ok (.newarray .int, 2) := by decide +kernel
theorem d_Store_init_45 : decode b_Store_init 45 = .ok (.putfield 29, 3) := by decide +kernel
theorem d_Store_init_48 : decode b_Store_init 48 = .ok (.aload_n 0, 1) := by decide +kernel
theorem d_Store_init_49 : decode b_Store_init 49 = .ok (.iload_n 2, 1) := by decide +kernel
theorem d_Store_init_50 : decode b_Store_init 50 = .ok (.newarray .int, 2) := by decide +kernel
theorem d_Store_init_52 : decode b_Store_init 52 = .ok (.putfield 32, 3) := by decide +kernel
theorem d_Store_init_55 : decode b_Store_init 55 = .ok (.aload_n 0, 1) := by decide +kernel
theorem d_Store_init_56 : decode b_Store_init 56 = .ok (.iload_n 2, 1) := by decide +kernel
theorem d_Store_init_57 : decode b_Store_init 57 = .ok (.newarray .int, 2) := by decide +kernel
theorem d_Store_init_59 : decode b_Store_init 59 = .ok (.putfield 35, 3) := by decide +kernel
theorem d_Store_init_62 : decode b_Store_init 62 = .ok (.aload_n 0, 1) := by decide +kernel
theorem d_Store_init_63 : decode b_Store_init 63 = .ok (.iload_n 2, 1) := by decide +kernel
theorem d_Store_init_64 : decode b_Store_init 64 = .ok (.newarray .int, 2) := by decide +kernel
theorem d_Store_init_66 : decode b_Store_init 66 = .ok (.putfield 38, 3) := by decide +kernel
theorem d_Store_init_69 : decode b_Store_init 69 = .ok (.bipush 64, 2) := by decide +kernel
theorem d_Store_init_71 : decode b_Store_init 71 = .ok (.istore_n 3, 1) := by decide +kernel
theorem d_Store_init_72 : decode b_Store_init 72 = .ok (.iconst 0, 1) := by decide +kernel
theorem d_Store_init_73 : decode b_Store_init 73 = .ok (.istore 4, 2) := by decide +kernel
theorem d_Store_init_75 : decode b_Store_init 75 = .ok (.iload 4, 2) := by decide +kernel
theorem d_Store_init_77 : decode b_Store_init 77 = .ok (.bipush 20, 2) := by decide +kernel
theorem d_Store_init_79 : decode b_Store_init 79 = .ok (.if_icmp .ge 18, 3) := by decide +kernel
theorem d_Store_init_82 : decode b_Store_init 82 = .ok (.iload_n 3, 1) := by decide +kernel
theorem d_Store_init_83 : decode b_Store_init 83 = .ok (.iload_n 2, 1) := by decide +kernel
theorem d_Store_init_84 : decode b_Store_init 84 = .ok (.if_icmp .ge 13, 3) := by decide +kernel
theorem d_Store_init_87 : decode b_Store_init 87 = .ok (.iload_n 3, 1) := by decide +kernel
theorem d_Store_init_88 : decode b_Store_init 88 = .ok (.iconst 2, 1) := by decide +kernel
theorem d_Store_init_89 : decode b_Store_init 89 = .ok (.imul, 1) := by decide +kernel
theorem d_Store_init_90 : decode b_Store_init 90 = .ok (.istore_n 3, 1) := by decide +kernel
theorem d_Store_init_91 : decode b_Store_init 91 = .ok (.iinc 4 1, 3) := by decide +kernel
theorem d_Store_init_94 : decode b_Store_init 94 = .ok (.goto (-19), 3) := by decide +kernel
theorem d_Store_init_97 : decode b_Store_init 97 = .ok (.aload_n 0, 1) := by decide +kernel
theorem d_Store_init_98 : decode b_Store_init 98 = .ok (.iload_n 3, 1) := by decide +kernel
theorem d_Store_init_99 : decode b_Store_init 99 = .ok (.newarray .int, 2) := by decide +kernel
theorem d_Store_init_101 : decode b_Store_init 101 = .ok (.putfield 41, 3) := by decide +kernel
theorem d_Store_init_104 : decode b_Store_init 104 = .ok (.aload_n 0, 1) := by decide +kernel
theorem d_Store_init_105 : decode b_Store_init 105 = .ok (.getfield 41, 3) := by decide +kernel
theorem d_Store_init_108 : decode b_Store_init 108 = .ok (.iconst (-1), 1) := by decide +kernel
theorem d_Store_init_109 : decode b_Store_init 109 = .ok (.invokestatic 44, 3) := by decide +kernel
theorem d_Store_init_112 : decode b_Store_init 112 = .ok (.aload_n 0, 1) := by decide +kernel
theorem d_Store_init_113 : decode b_Store_init 113 = .ok (.ldc 50, 2) := by decide +kernel
theorem d_Store_init_115 : decode b_Store_init 115 = .ok (.invokevirtual 52, 3) := by decide +kernel
theorem d_Store_init_118 : decode b_Store_init 118 = .ok (.aload_n 0, 1) := by decide +kernel
theorem d_Store_init_119 : decode b_Store_init 119 = .ok (.ldc 56, 2) := by decide +kernel
theorem d_Store_init_121 : decode b_Store_init 121 = .ok (.invokevirtual 52, 3) := by decide +kernel
theorem d_Store_init_124 : decode b_Store_init 124 = .ok (.aload_n 0, 1) := by decide +kernel
theorem d_Store_init_125 : decode b_Store_init 125 = .ok (.ldc 58, 2) := by decide +kernel
theorem d_Store_init_127 : decode b_Store_init 127 = .ok (.invokevirtual 52, 3) := by decide +kernel
theorem d_Store_init_130 : decode b_Store_init 130 = .ok (.aload_n 0, 1) := by decide +kernel
theorem d_Store_init_131 : decode b_Store_init 131 = .ok (.ldc 60, 2) := by decide +kernel
theorem d_Store_init_133 : decode b_Store_init 133 = .ok (.invokevirtual 52, 3) := by decide +kernel
theorem d_Store_init_136 : decode b_Store_init 136 = .ok (.aload_n 0, 1) := by decide +kernel
theorem d_Store_init_137 : decode b_Store_init 137 = .ok (.ldc 62, 2) := by decide +kernel
theorem d_Store_init_139 : decode b_Store_init 139 = .ok (.invokevirtual 52, 3) := by decide +kernel
theorem d_Store_init_142 : decode b_Store_init 142 = .ok (.aload_n 0, 1) := by decide +kernel
theorem d_Store_init_143 : decode b_Store_init 143 = .ok (.ldc 64, 2) := by decide +kernel
theorem d_Store_init_145 : decode b_Store_init 145 = .ok (.invokevirtual 52, 3) := by decide +kernel
theorem d_Store_init_148 : decode b_Store_init 148 = .ok (.aload_n 0, 1) := by decide +kernel
theorem d_Store_init_149 : decode b_Store_init 149 = .ok (.ldc 66, 2) := by decide +kernel
theorem d_Store_init_151 : decode b_Store_init 151 = .ok (.invokevirtual 52, 3) := by decide +kernel
theorem d_Store_init_154 : decode b_Store_init 154 = .ok (.aload_n 0, 1) := by decide +kernel
theorem d_Store_init_155 : decode b_Store_init 155 = .ok (.ldc 68, 2) := by decide +kernel
theorem d_Store_init_157 : decode b_Store_init 157 = .ok (.invokevirtual 52, 3) := by decide +kernel
theorem d_Store_init_160 : decode b_Store_init 160 = .ok (.aload_n 0, 1) := by decide +kernel
theorem d_Store_init_161 : decode b_Store_init 161 = .ok (.ldc 70, 2) := by decide +kernel
theorem d_Store_init_163 : decode b_Store_init 163 = .ok (.invokevirtual 52, 3) := by decide +kernel
theorem d_Store_init_166 : decode b_Store_init 166 = .ok (.aload_n 0, 1) := by decide +kernel
theorem d_Store_init_167 : decode b_Store_init 167 = .ok (.ldc 72, 2) := by decide +kernel
theorem d_Store_init_169 : decode b_Store_init 169 = .ok (.invokevirtual 52, 3) := by decide +kernel
theorem d_Store_init_172 : decode b_Store_init 172 = .ok (.aload_n 0, 1) := by decide +kernel
theorem d_Store_init_173 : decode b_Store_init 173 = .ok (.ldc 74, 2) := by decide +kernel
theorem d_Store_init_175 : decode b_Store_init 175 = .ok (.invokevirtual 52, 3) := by decide +kernel
theorem d_Store_init_178 : decode b_Store_init 178 = .ok (.aload_n 0, 1) := by decide +kernel
theorem d_Store_init_179 : decode b_Store_init 179 = .ok (.ldc 76, 2) := by decide +kernel
theorem d_Store_init_181 : decode b_Store_init 181 = .ok (.invokevirtual 52, 3) := by decide +kernel
theorem d_Store_init_184 : decode b_Store_init 184 = .ok (.aload_n 0, 1) := by decide +kernel
theorem d_Store_init_185 : decode b_Store_init 185 = .ok (.ldc 78, 2) := by decide +kernel
theorem d_Store_init_187 : decode b_Store_init 187 = .ok (.invokevirtual 52, 3) := by decide +kernel
theorem d_Store_init_190 : decode b_Store_init 190 = .ok (.aload_n 0, 1) := by decide +kernel
theorem d_Store_init_191 : decode b_Store_init 191 = .ok (.ldc 80, 2) := by decide +kernel
theorem d_Store_init_193 : decode b_Store_init 193 = .ok (.invokevirtual 52, 3) := by decide +kernel
theorem d_Store_init_196 : decode b_Store_init 196 = .ok (.aload_n 0, 1) := by decide +kernel
theorem d_Store_init_197 : decode b_Store_init 197 = .ok (.ldc 82, 2) := by decide +kernel
theorem d_Store_init_199 : decode b_Store_init 199 = .ok (.invokevirtual 52, 3) := by decide +kernel
theorem d_Store_init_202 : decode b_Store_init 202 = .ok (.aload_n 0, 1) := by decide +kernel
theorem d_Store_init_203 : decode b_Store_init 203 = .ok (.ldc 84, 2) := by decide +kernel
theorem d_Store_init_205 : decode b_Store_init 205 = .ok (.invokevirtual 52, 3) := by decide +kernel
theorem d_Store_init_208 : decode b_Store_init 208 = .ok (.aload_n 0, 1) := by decide +kernel
theorem d_Store_init_209 : decode b_Store_init 209 = .ok (.ldc 86, 2) := by decide +kernel
theorem d_Store_init_211 : decode b_Store_init 211 = .ok (.invokevirtual 52, 3) := by decide +kernel
theorem d_Store_init_214 : decode b_Store_init 214 = .ok (.aload_n 0, 1) := by decide +kernel
theorem d_Store_init_215 : decode b_Store_init 215 = .ok (.ldc 88, 2) := by decide +kernel
theorem d_Store_init_217 : decode b_Store_init 217 = .ok (.invokevirtual 52, 3) := by decide +kernel
theorem d_Store_init_220 : decode b_Store_init 220 = .ok (.aload_n 0, 1) := by decide +kernel
theorem d_Store_init_221 : decode b_Store_init 221 = .ok (.ldc 90, 2) := by decide +kernel
theorem d_Store_init_223 : decode b_Store_init 223 = .ok (.invokevirtual 52, 3) := by decide +kernel
theorem d_Store_init_226 : decode b_Store_init 226 = .ok (.aload_n 0, 1) := by decide +kernel
theorem d_Store_init_227 : decode b_Store_init 227 = .ok (.aload_n 0, 1) := by decide +kernel
theorem d_Store_init_228 : decode b_Store_init 228 = .ok (.getfield 92, 3) := by decide +kernel
theorem d_Store_init_231 : decode b_Store_init 231 = .ok (.putfield 95, 3) := by decide +kernel
theorem d_Store_init_234 : decode b_Store_init 234 = .ok (.aload_n 0, 1) := by decide +kernel
theorem d_Store_init_235 : decode b_Store_init 235 = .ok (.aload_n 0, 1) := by decide +kernel
theorem d_Store_init_236 : decode b_Store_init 236 = .ok (.getfield 98, 3) := by decide +kernel
theorem d_Store_init_239 : decode b_Store_init 239 = .ok (.putfield 101, 3) := by decide +kernel
theorem d_Store_init_242 : decode b_Store_init 242 = .ok (.return_, 1) := by decide +kernel
/-- the store's nineteen texts: entry, text, bytes -/
def stTx : List (Nat × String × List Int32) := [(50, "", []), (56, "lt", [108, 116]), (58, "gt", [103, 116]), (60, "amp", [97, 109, 112]), (62, "apos", [97, 112, 111, 115]), (64, "quot", [113, 117, 111, 116]), (66, "xml", [120, 109, 108]), (68, "xmlns", [120, 109, 108, 110, 115]), (70, "http://www.w3.org/XML/1998/namespace", [104, 116, 116, 112, 58, 47, 47, 119, 119, 119, 46, 119, 51, 46, 111, 114, 103, 47, 88, 77, 76, 47, 49, 57, 57, 56, 47, 110, 97, 109, 101, 115, 112, 97, 99, 101]), (72, "http://www.w3.org/2000/xmlns/", [104, 116, 116, 112, 58, 47, 47, 119, 119, 119, 46, 119, 51, 46, 111, 114, 103, 47, 50, 48, 48, 48, 47, 120, 109, 108, 110, 115, 47]), (74, "CDATA", [67, 68, 65, 84, 65]), (76, "ID", [73, 68]), (78, "IDREF", [73, 68, 82, 69, 70]), (80, "IDREFS", [73, 68, 82, 69, 70, 83]), (82, "ENTITY", [69, 78, 84, 73, 84, 89]), (84, "ENTITIES", [69, 78, 84, 73, 84, 73, 69, 83]), (86, "NMTOKEN", [78, 77, 84, 79, 75, 69, 78]), (88, "NMTOKENS", [78, 77, 84, 79, 75, 69, 78, 83]), (90, "NOTATION", [78, 79, 84, 65, 84, 73, 79, 78])]
/-- they stand in the old heap -/
def stStr (sq sv : Nat → Nat) (A : Nat → Prop) (U : State) : Prop := ∀ i, i < 19 → sAt (sq i) (sv i) (stTx.getD i (0, "", [])).2.2 A U ∧ vk_R "MarkupJudge$Store" (stTx.getD i (0, "", [])).1 (stTx.getD i (0, "", [])).2.1 (sq i) U
set_option maxHeartbeats 4000000 in
set_option maxRecDepth 100000 in
/-- Store(room): nineteen texts are kept -/
theorem c_Store_init (l : Launch) (D : va_G) (tI tB tZ tL : ClassId) (X : (Nat → Prop) → State → Prop) (hX : Ro X) (h0 room : Nat) (h64 : 64 ≤ room) (h98 : room ≤ 98304) (hJ : ∀ A U, X A U → sJ A U) (sq sv : Nat → Nat) (hs : ∀ A U, X A U → stStr sq sv A U) : CtV l D tI tB tZ tL X y_Store_init b_Store_init 5 ({ frames := 5, cells := 7, slots := 508608, locals := 108 }) [.ref h0, .int (nI room)] [(h0, .inr (1, [.int 0, .null, .int 0, .int 0, .int 0, .int 0, .int 0, .null, .null, .null, .null, .null, .int 0, .int 0, .int 0, .null, .int 0]))] (S := (Nat → Nat) × Nat × Nat × Int32 × (Nat → Nat → Int32)) (fun u => stOk (256 + min room 65536 + room) (room / 2 + 64) u.2.1 143 u.2.2.1 (u.2.2.2.2 0) (u.2.2.2.2 1) (u.2.2.2.2 3) (u.2.2.2.2 4) ∧ u.2.2.1 ≤ 19 ∧ ∃ ee, u.2.1 = 2 ^ ee ∧ u.2.1 < 98432) (fun u => [(h0, .inr (1, [.int (nI room), .ref (u.1 0), .int (nI 143), .int (nI 143), .int 0, .int 0, .int 0, .ref (u.1 1), .ref (u.1 2), .ref (u.1 3), .ref (u.1 4), .ref (u.1 5), .int (nI u.2.2.1), .int u.2.2.2.1, .int (nI u.2.2.1), .ref (u.1 6), .int 0])), ((u.1 0), .inl (tI, (256 + min room 65536 + room), .inl (u.2.2.2.2 5))), ((u.1 1), .inl (tI, (room / 2 + 64), .inl (u.2.2.2.2 0))), ((u.1 2), .inl (tI, (room / 2 + 64), .inl (u.2.2.2.2 1))), ((u.1 3), .inl (tI, (room / 2 + 64), .inl (u.2.2.2.2 2))), ((u.1 4), .inl (tI, (room / 2 + 64), .inl (u.2.2.2.2 3))), ((u.1 5), .inl (tI, u.2.1, .inl (u.2.2.2.2 4))), ((u.1 6), .inl (tI, (room / 2 + 64), .inl (fun _ => 0)))]) := by
  refine CtV.start hX (by decide) (Nat.le_of_ble_eq_true rfl) ?_
  intro p e s m args below meth c A ls C hr hlk hin hW hl
  refine W.nameQ (fun Q hQ => ?_)
  have hx := C.1.1
  have hb := C.1.2.1
  have hown := C.1.2.2.2.1
  have hT := C.1.2.2.2.2
  have hin : meth.name = "<init>" := hin
  have hl : lv_has ls 5 [(0, .ref h0), (1, .int (nI room))] := hl
  refine lv_aload_n hx hb d_Store_init_0 rfl (lv_at hl 0 rfl) ?_
  refine r_objInit C hl.1 w_50 (by decide) (Nat.le_of_ble_eq_true rfl) d_Store_init_1 ?_
  refine lv_aload_n hx hb d_Store_init_4 rfl (lv_at hl 0 rfl) ?_
  refine lv_iload_n hx hb d_Store_init_5 rfl (lv_at hl 1 rfl) ?_
  refine r_putF (v := .int (nI room)) (ty := .int) C hW 0 rfl k_Store i_Store t_Store o_Store n_Store 0 (by decide) w_142 rfl hin rfl (by decide +kernel) rfl rfl (Nat.le_of_ble_eq_true rfl) d_Store_init_6 (fun H locs hW => ?_)
  have hW : Wd D A s [(h0, .inr (1, [.int (nI room), .null, .int 0, .int 0, .int 0, .int 0, .int 0, .null, .null, .null, .null, .null, .int 0, .int 0, .int 0, .null, .int 0]))] H _ := hW
  refine lv_aload_n hx hb d_Store_init_9 rfl (lv_at hl 0 rfl) ?_
  refine lv_sipush (v := 256) hx hb d_Store_init_10 (by decide) ?_
  refine lv_iload_n hx hb d_Store_init_13 rfl (lv_at hl 1 rfl) ?_
  refine lv_ldc (v := 65536) hx hb hown (hT _ w_51) d_Store_init_14 ?_
  refine r_min C hl.1 w_52 (by decide) (Nat.le_of_ble_eq_true rfl) (by decide) (by decide) (room) (65536) rfl rfl (by omega) (by decide) d_Store_init_16 ?_
  refine lv_iadd hx hb d_Store_init_19 ?_
  refine W.eq (congrArg (fun z : Int32 => F0 m 20 ls (.int z :: [.ref h0])) (show (256 + (nI (min room 65536))) = nI (256 + min room 65536) from (nI_add 256 _))) ?_
  refine lv_iload_n hx hb d_Store_init_20 rfl (lv_at hl 1 rfl) ?_
  refine lv_iadd hx hb d_Store_init_21 ?_
  refine W.eq (congrArg (fun z : Int32 => F0 m 22 ls (.int z :: [.ref h0])) (show ((nI (256 + min room 65536)) + (nI room)) = nI (256 + min room 65536 + room) from (nI_add _ _))) ?_
  refine r_newI C hW (256 + min room 65536 + room) rfl (by omega) (K := 1) (M := 164096) rfl (by decide) (by omega) (by decide) d_Store_init_22 (fun qc H hW => ?_)
  have hW : Wd D A s [(h0, .inr (1, [.int (nI room), .null, .int 0, .int 0, .int 0, .int 0, .int 0, .null, .null, .null, .null, .null, .int 0, .int 0, .int 0, .null, .int 0])), (qc, .inl (tI, (256 + min room 65536 + room), .inl (fun _ => 0)))] H _ := hW
  refine r_putF (v := .ref qc) (ty := .array .int) C hW 0 rfl k_Store i_Store t_Store o_Store n_Store 1 (by decide) w_147 rfl hin rfl (by decide +kernel) rfl rfl (Nat.le_of_ble_eq_true rfl) d_Store_init_24 (fun H locs hW => ?_)
  have hW : Wd D A s [(h0, .inr (1, [.int (nI room), .ref qc, .int 0, .int 0, .int 0, .int 0, .int 0, .null, .null, .null, .null, .null, .int 0, .int 0, .int 0, .null, .int 0])), (qc, .inl (tI, (256 + min room 65536 + room), .inl (fun _ => 0)))] H _ := hW
  refine lv_iload_n hx hb d_Store_init_27 rfl (lv_at hl 1 rfl) ?_
  refine lv_iconst (v := 2) hx hb d_Store_init_28 (by decide) ?_
  refine lv_idiv hx hb d_Store_init_29 (by decide) ?_
  refine lv_bipush (v := 64) hx hb d_Store_init_30 (by decide) ?_
  refine lv_iadd hx hb d_Store_init_32 ?_
  refine W.eq (congrArg (fun z : Int32 => F0 m 33 ls (.int z :: [])) (show (((nI room) / 2) + 64) = nI (room / 2 + 64) from (by rw [show (2 : Int32) = nI 2 from rfl, pk_div (by omega) (by decide) (by decide), show (64 : Int32) = nI 64 from rfl, nI_add]))) ?_
  refine lv_istore_n (lv' := [(2, .int (nI (room / 2 + 64))), (0, .ref h0), (1, .int (nI room))]) hx hb d_Store_init_33 rfl hl (by decide) rfl (fun ls hl => ?_)
  refine lv_aload_n hx hb d_Store_init_34 rfl (lv_at hl 1 rfl) ?_
  refine lv_iload_n hx hb d_Store_init_35 rfl (lv_at hl 0 rfl) ?_
  refine r_newI C hW (room / 2 + 64) rfl (by omega) (K := 2) (M := 213312) rfl (by decide) (by omega) (by decide) d_Store_init_36 (fun qf H hW => ?_)
  have hW : Wd D A s [(h0, .inr (1, [.int (nI room), .ref qc, .int 0, .int 0, .int 0, .int 0, .int 0, .null, .null, .null, .null, .null, .int 0, .int 0, .int 0, .null, .int 0])), (qc, .inl (tI, (256 + min room 65536 + room), .inl (fun _ => 0))), (qf, .inl (tI, (room / 2 + 64), .inl (fun _ => 0)))] H _ := hW
  refine r_putF (v := .ref qf) (ty := .array .int) C hW 0 rfl k_Store i_Store t_Store o_Store n_Store 7 (by decide) w_166 rfl hin rfl (by decide +kernel) rfl rfl (Nat.le_of_ble_eq_true rfl) d_Store_init_38 (fun H locs hW => ?_)
  have hW : Wd D A s [(h0, .inr (1, [.int (nI room), .ref qc, .int 0, .int 0, .int 0, .int 0, .int 0, .ref qf, .null, .null, .null, .null, .int 0, .int 0, .int 0, .null, .int 0])), (qc, .inl (tI, (256 + min room 65536 + room), .inl (fun _ => 0))), (qf, .inl (tI, (room / 2 + 64), .inl (fun _ => 0)))] H _ := hW
  refine lv_aload_n hx hb d_Store_init_41 rfl (lv_at hl 1 rfl) ?_
  refine lv_iload_n hx hb d_Store_init_42 rfl (lv_at hl 0 rfl) ?_
  refine r_newI C hW (room / 2 + 64) rfl (by omega) (K := 3) (M := 262528) rfl (by decide) (by omega) (by decide) d_Store_init_43 (fun qz H hW => ?_)
  have hW : Wd D A s [(h0, .inr (1, [.int (nI room), .ref qc, .int 0, .int 0, .int 0, .int 0, .int 0, .ref qf, .null, .null, .null, .null, .int 0, .int 0, .int 0, .null, .int 0])), (qc, .inl (tI, (256 + min room 65536 + room), .inl (fun _ => 0))), (qf, .inl (tI, (room / 2 + 64), .inl (fun _ => 0))), (qz, .inl (tI, (room / 2 + 64), .inl (fun _ => 0)))] H _ := hW
  refine r_putF (v := .ref qz) (ty := .array .int) C hW 0 rfl k_Store i_Store t_Store o_Store n_Store 8 (by decide) w_169 rfl hin rfl (by decide +kernel) rfl rfl (Nat.le_of_ble_eq_true rfl) d_Store_init_45 (fun H locs hW => ?_)
  have hW : Wd D A s [(h0, .inr (1, [.int (nI room), .ref qc, .int 0, .int 0, .int 0, .int 0, .int 0, .ref qf, .ref qz, .null, .null, .null, .int 0, .int 0, .int 0, .null, .int 0])), (qc, .inl (tI, (256 + min room 65536 + room), .inl (fun _ => 0))), (qf, .inl (tI, (room / 2 + 64), .inl (fun _ => 0))), (qz, .inl (tI, (room / 2 + 64), .inl (fun _ => 0)))] H _ := hW
  refine lv_aload_n hx hb d_Store_init_48 rfl (lv_at hl 1 rfl) ?_
  refine lv_iload_n hx hb d_Store_init_49 rfl (lv_at hl 0 rfl) ?_
  refine r_newI C hW (room / 2 + 64) rfl (by omega) (K := 4) (M := 311744) rfl (by decide) (by omega) (by decide) d_Store_init_50 (fun qh H hW => ?_)
  have hW : Wd D A s [(h0, .inr (1, [.int (nI room), .ref qc, .int 0, .int 0, .int 0, .int 0, .int 0, .ref qf, .ref qz, .null, .null, .null, .int 0, .int 0, .int 0, .null, .int 0])), (qc, .inl (tI, (256 + min room 65536 + room), .inl (fun _ => 0))), (qf, .inl (tI, (room / 2 + 64), .inl (fun _ => 0))), (qz, .inl (tI, (room / 2 + 64), .inl (fun _ => 0))), (qh, .inl (tI, (room / 2 + 64), .inl (fun _ => 0)))] H _ := hW
  refine r_putF (v := .ref qh) (ty := .array .int) C hW 0 rfl k_Store i_Store t_Store o_Store n_Store 9 (by decide) w_173 rfl hin rfl (by decide +kernel) rfl rfl (Nat.le_of_ble_eq_true rfl) d_Store_init_52 (fun H locs hW => ?_)
  have hW : Wd D A s [(h0, .inr (1, [.int (nI room), .ref qc, .int 0, .int 0, .int 0, .int 0, .int 0, .ref qf, .ref qz, .ref qh, .null, .null, .int 0, .int 0, .int 0, .null, .int 0])), (qc, .inl (tI, (256 + min room 65536 + room), .inl (fun _ => 0))), (qf, .inl (tI, (room / 2 + 64), .inl (fun _ => 0))), (qz, .inl (tI, (room / 2 + 64), .inl (fun _ => 0))), (qh, .inl (tI, (room / 2 + 64), .inl (fun _ => 0)))] H _ := hW
  refine lv_aload_n hx hb d_Store_init_55 rfl (lv_at hl 1 rfl) ?_
  refine lv_iload_n hx hb d_Store_init_56 rfl (lv_at hl 0 rfl) ?_
  refine r_newI C hW (room / 2 + 64) rfl (by omega) (K := 5) (M := 360960) rfl (by decide) (by omega) (by decide) d_Store_init_57 (fun qn H hW => ?_)
  have hW : Wd D A s [(h0, .inr (1, [.int (nI room), .ref qc, .int 0, .int 0, .int 0, .int 0, .int 0, .ref qf, .ref qz, .ref qh, .null, .null, .int 0, .int 0, .int 0, .null, .int 0])), (qc, .inl (tI, (256 + min room 65536 + room), .inl (fun _ => 0))), (qf, .inl (tI, (room / 2 + 64), .inl (fun _ => 0))), (qz, .inl (tI, (room / 2 + 64), .inl (fun _ => 0))), (qh, .inl (tI, (room / 2 + 64), .inl (fun _ => 0))), (qn, .inl (tI, (room / 2 + 64), .inl (fun _ => 0)))] H _ := hW
  refine r_putF (v := .ref qn) (ty := .array .int) C hW 0 rfl k_Store i_Store t_Store o_Store n_Store 10 (by decide) w_174 rfl hin rfl (by decide +kernel) rfl rfl (Nat.le_of_ble_eq_true rfl) d_Store_init_59 (fun H locs hW => ?_)
  have hW : Wd D A s [(h0, .inr (1, [.int (nI room), .ref qc, .int 0, .int 0, .int 0, .int 0, .int 0, .ref qf, .ref qz, .ref qh, .ref qn, .null, .int 0, .int 0, .int 0, .null, .int 0])), (qc, .inl (tI, (256 + min room 65536 + room), .inl (fun _ => 0))), (qf, .inl (tI, (room / 2 + 64), .inl (fun _ => 0))), (qz, .inl (tI, (room / 2 + 64), .inl (fun _ => 0))), (qh, .inl (tI, (room / 2 + 64), .inl (fun _ => 0))), (qn, .inl (tI, (room / 2 + 64), .inl (fun _ => 0)))] H _ := hW
  refine lv_aload_n hx hb d_Store_init_62 rfl (lv_at hl 1 rfl) ?_
  refine lv_iload_n hx hb d_Store_init_63 rfl (lv_at hl 0 rfl) ?_
  refine r_newI C hW (room / 2 + 64) rfl (by omega) (K := 6) (M := 410176) rfl (by decide) (by omega) (by decide) d_Store_init_64 (fun qm H hW => ?_)
  have hW : Wd D A s [(h0, .inr (1, [.int (nI room), .ref qc, .int 0, .int 0, .int 0, .int 0, .int 0, .ref qf, .ref qz, .ref qh, .ref qn, .null, .int 0, .int 0, .int 0, .null, .int 0])), (qc, .inl (tI, (256 + min room 65536 + room), .inl (fun _ => 0))), (qf, .inl (tI, (room / 2 + 64), .inl (fun _ => 0))), (qz, .inl (tI, (room / 2 + 64), .inl (fun _ => 0))), (qh, .inl (tI, (room / 2 + 64), .inl (fun _ => 0))), (qn, .inl (tI, (room / 2 + 64), .inl (fun _ => 0))), (qm, .inl (tI, (room / 2 + 64), .inl (fun _ => 0)))] H _ := hW
  refine r_putF (v := .ref qm) (ty := .array .int) C hW 0 rfl k_Store i_Store t_Store o_Store n_Store 15 (by decide) w_182 rfl hin rfl (by decide +kernel) rfl rfl (Nat.le_of_ble_eq_true rfl) d_Store_init_66 (fun H locs hW => ?_)
  have hW : Wd D A s [(h0, .inr (1, [.int (nI room), .ref qc, .int 0, .int 0, .int 0, .int 0, .int 0, .ref qf, .ref qz, .ref qh, .ref qn, .null, .int 0, .int 0, .int 0, .ref qm, .int 0])), (qc, .inl (tI, (256 + min room 65536 + room), .inl (fun _ => 0))), (qf, .inl (tI, (room / 2 + 64), .inl (fun _ => 0))), (qz, .inl (tI, (room / 2 + 64), .inl (fun _ => 0))), (qh, .inl (tI, (room / 2 + 64), .inl (fun _ => 0))), (qn, .inl (tI, (room / 2 + 64), .inl (fun _ => 0))), (qm, .inl (tI, (room / 2 + 64), .inl (fun _ => 0)))] H _ := hW
  refine lv_bipush (v := 64) hx hb d_Store_init_69 (by decide) ?_
  refine lv_istore_n (lv' := [(3, .int 64), (2, .int (nI (room / 2 + 64))), (0, .ref h0), (1, .int (nI room))]) hx hb d_Store_init_71 rfl hl (by decide) rfl (fun ls hl => ?_)
  refine lv_iconst (v := 0) hx hb d_Store_init_72 (by decide) ?_
  refine lv_istore (lv' := [(4, .int 0), (3, .int 64), (2, .int (nI (room / 2 + 64))), (0, .ref h0), (1, .int (nI room))]) hx hb d_Store_init_73 hl (by decide) rfl (fun ls hl => ?_)
  have loop : ∀ (fu_loop : Nat) (i : Nat) (sl : Nat) (ee : Nat) (H : Heap) (locs : List Loc) (ls : Array Slot), 21 ≤ i + fu_loop → (i ≤ 20) → (sl = 2 ^ ee) → (sl < 98432) → Wd D A s [(h0, .inr (1, [.int (nI room), .ref qc, .int 0, .int 0, .int 0, .int 0, .int 0, .ref qf, .ref qz, .ref qh, .ref qn, .null, .int 0, .int 0, .int 0, .ref qm, .int 0])), (qc, .inl (tI, (256 + min room 65536 + room), .inl (fun _ => 0))), (qf, .inl (tI, (room / 2 + 64), .inl (fun _ => 0))), (qz, .inl (tI, (room / 2 + 64), .inl (fun _ => 0))), (qh, .inl (tI, (room / 2 + 64), .inl (fun _ => 0))), (qn, .inl (tI, (room / 2 + 64), .inl (fun _ => 0))), (qm, .inl (tI, (room / 2 + 64), .inl (fun _ => 0)))] H locs → lv_has ls 5 [(4, .int (nI i)), (3, .int (nI sl)), (2, .int (nI (room / 2 + 64))), (0, .ref h0), (1, .int (nI room))] → W p l e ({ frames := 5, cells := 7, slots := 508608, locals := 108 }) s m args below meth c H locs 6 410176 Q (F0 m 75 ls []) := by
    intro fu_loop
    induction fu_loop with
    | zero => intro i sl ee H locs ls hn hi hsl hs9 hW hl; exact absurd hn (by omega)
    | succ fu_loop ih_loop =>
      intro i sl ee H locs ls hn hi hsl hs9 hW hl
      refine lv_iload hx hb d_Store_init_75 (lv_at hl 0 rfl) ?_
      have m97 : W p l e ({ frames := 5, cells := 7, slots := 508608, locals := 108 }) s m args below meth c H locs 6 410176 Q (F0 m 97 ls []) := by
        refine lv_aload_n hx hb d_Store_init_97 rfl (lv_at hl 3 rfl) ?_
        refine lv_iload_n hx hb d_Store_init_98 rfl (lv_at hl 1 rfl) ?_
        refine r_newI C hW sl rfl (by omega) (K := 7) (M := 508608) rfl (by decide) (by omega) (by decide) d_Store_init_99 (fun qd H hW => ?_)
        have hW : Wd D A s [(h0, .inr (1, [.int (nI room), .ref qc, .int 0, .int 0, .int 0, .int 0, .int 0, .ref qf, .ref qz, .ref qh, .ref qn, .null, .int 0, .int 0, .int 0, .ref qm, .int 0])), (qc, .inl (tI, (256 + min room 65536 + room), .inl (fun _ => 0))), (qf, .inl (tI, (room / 2 + 64), .inl (fun _ => 0))), (qz, .inl (tI, (room / 2 + 64), .inl (fun _ => 0))), (qh, .inl (tI, (room / 2 + 64), .inl (fun _ => 0))), (qn, .inl (tI, (room / 2 + 64), .inl (fun _ => 0))), (qm, .inl (tI, (room / 2 + 64), .inl (fun _ => 0))), (qd, .inl (tI, sl, .inl (fun _ => 0)))] H _ := hW
        refine r_putF (v := .ref qd) (ty := .array .int) C hW 0 rfl k_Store i_Store t_Store o_Store n_Store 11 (by decide) w_175 rfl hin rfl (by decide +kernel) rfl rfl (Nat.le_of_ble_eq_true rfl) d_Store_init_101 (fun H locs hW => ?_)
        have hW : Wd D A s [(h0, .inr (1, [.int (nI room), .ref qc, .int 0, .int 0, .int 0, .int 0, .int 0, .ref qf, .ref qz, .ref qh, .ref qn, .ref qd, .int 0, .int 0, .int 0, .ref qm, .int 0])), (qc, .inl (tI, (256 + min room 65536 + room), .inl (fun _ => 0))), (qf, .inl (tI, (room / 2 + 64), .inl (fun _ => 0))), (qz, .inl (tI, (room / 2 + 64), .inl (fun _ => 0))), (qh, .inl (tI, (room / 2 + 64), .inl (fun _ => 0))), (qn, .inl (tI, (room / 2 + 64), .inl (fun _ => 0))), (qm, .inl (tI, (room / 2 + 64), .inl (fun _ => 0))), (qd, .inl (tI, sl, .inl (fun _ => 0)))] H _ := hW
        refine lv_aload_n hx hb d_Store_init_104 rfl (lv_at hl 3 rfl) ?_
        refine r_get C hW 0 rfl k_Store i_Store 11 (by decide) rfl w_175 d_Store_init_105 ?_
        refine lv_iconst (v := (-1)) hx hb d_Store_init_108 (by decide) ?_
        refine r_callS [.ref qd, .int (-1)] [] C hl.1 hW (c_fill l D tI tB tZ tL X hX qd sl (-1) (fun _ => 0) (by omega)) ok_Arrays_fill0 w_55 (wr := [(h0, .inr (1, [.int (nI room), .ref qc, .int 0, .int 0, .int 0, .int 0, .int 0, .ref qf, .ref qz, .ref qh, .ref qn, .ref qd, .int 0, .int 0, .int 0, .ref qm, .int 0])), (qc, .inl (tI, (256 + min room 65536 + room), .inl (fun _ => 0))), (qf, .inl (tI, (room / 2 + 64), .inl (fun _ => 0))), (qz, .inl (tI, (room / 2 + 64), .inl (fun _ => 0))), (qh, .inl (tI, (room / 2 + 64), .inl (fun _ => 0))), (qn, .inl (tI, (room / 2 + 64), .inl (fun _ => 0))), (qm, .inl (tI, (room / 2 + 64), .inl (fun _ => 0)))]) [7] [0, 1, 2, 3, 4, 5, 6] rfl rfl (by decide) (by decide) (by decide) rfl (by decide) (Nat.le_of_ble_eq_true rfl) (by decide) d_Store_init_109 (fun fd H locs hfd hW => ?_)
        have hW : Wd D A s [(h0, .inr (1, [.int (nI room), .ref qc, .int 0, .int 0, .int 0, .int 0, .int 0, .ref qf, .ref qz, .ref qh, .ref qn, .ref qd, .int 0, .int 0, .int 0, .ref qm, .int 0])), (qc, .inl (tI, (256 + min room 65536 + room), .inl (fun _ => 0))), (qf, .inl (tI, (room / 2 + 64), .inl (fun _ => 0))), (qz, .inl (tI, (room / 2 + 64), .inl (fun _ => 0))), (qh, .inl (tI, (room / 2 + 64), .inl (fun _ => 0))), (qn, .inl (tI, (room / 2 + 64), .inl (fun _ => 0))), (qm, .inl (tI, (room / 2 + 64), .inl (fun _ => 0))), (qd, .inl (tI, sl, .inl fd))] H _ := hW
        have hst0 : stOk (256 + min room 65536 + room) (room / 2 + 64) sl 0 0 (fun _ => 0) (fun _ => 0) (fun _ => 0) fd := ⟨Nat.zero_le _, Nat.zero_le _, fun w h => absurd h (Nat.not_lt_zero w), fun w h => absurd h (Nat.not_lt_zero w), fun h q => Or.inl (hfd h q)⟩
        refine lv_aload_n hx hb d_Store_init_112 rfl (lv_at hl 3 rfl) ?_
        refine va_ldcS hx hb hown (hs A s C.2.2.2.1 0 (by decide)).2 d_Store_init_113 ?_
        refine r_callV [.ref (sq 0)] [] C hl.1 hW (c_Store_keep l D tI tB tZ tL X hX h0 qc qf qz qh qn qd qm (nI room) 0 0 0 0 0 0 0 (256 + min room 65536 + room) (room / 2 + 64) sl ee 0 0 (fun _ => 0) (fun _ => 0) (fun _ => 0) (fun _ => 0) (fun _ => 0) fd (by omega) (by omega) hsl (by omega) hst0 (sq 0) (sv 0) [] hJ (fun A U h => (hs A U h 0 (by decide)).1) (by show 0 + 0 ≤ _; omega)) ok_Store_keep w_59 (wr := [(qm, .inl (tI, (room / 2 + 64), .inl (fun _ => 0)))]) [0, 1, 2, 3, 4, 5, 7] [6] rfl rfl (by decide) (by decide) (by decide) 0 rfl k_Store rfl (by decide) (Nat.le_of_ble_eq_true rfl) (by decide) d_Store_init_115 (fun u0 H locs hu0 hW => ?_)
        have hW : Wd D A s [(qm, .inl (tI, (room / 2 + 64), .inl (fun _ => 0))), (h0, .inr (1, [.int (nI room), .ref qc, .int 0, .int (nI 0), .int 0, .int 0, .int 0, .ref qf, .ref qz, .ref qh, .ref qn, .ref qd, .int 0, .int u0.1, .int (nI u0.2.1), .ref qm, .int 0])), (qc, .inl (tI, (256 + min room 65536 + room), .inl (u0.2.2 5))), (qf, .inl (tI, (room / 2 + 64), .inl (u0.2.2 0))), (qz, .inl (tI, (room / 2 + 64), .inl (u0.2.2 1))), (qh, .inl (tI, (room / 2 + 64), .inl (u0.2.2 2))), (qn, .inl (tI, (room / 2 + 64), .inl (u0.2.2 3))), (qd, .inl (tI, sl, .inl (u0.2.2 4)))] H _ := hW
        have hst1 : stOk (256 + min room 65536 + room) (room / 2 + 64) sl 0 u0.2.1 (u0.2.2 0) (u0.2.2 1) (u0.2.2 3) (u0.2.2 4) := hu0.1
        have hw1 : u0.2.1 ≤ 1 := by have := hu0.2.2; omega
        refine lv_aload_n hx hb d_Store_init_118 rfl (lv_at hl 3 rfl) ?_
        refine va_ldcS hx hb hown (hs A s C.2.2.2.1 1 (by decide)).2 d_Store_init_119 ?_
        refine r_callV [.ref (sq 1)] [] C hl.1 hW (c_Store_keep l D tI tB tZ tL X hX h0 qc qf qz qh qn qd qm (nI room) 0 0 0 0 0 u0.1 0 (256 + min room 65536 + room) (room / 2 + 64) sl ee 0 u0.2.1 (u0.2.2 5) (u0.2.2 0) (u0.2.2 1) (u0.2.2 2) (u0.2.2 3) (u0.2.2 4) (by omega) (by omega) hsl (by omega) hst1 (sq 1) (sv 1) [108, 116] hJ (fun A U h => (hs A U h 1 (by decide)).1) (by show 0 + 2 ≤ _; omega)) ok_Store_keep w_59 (wr := [(qm, .inl (tI, (room / 2 + 64), .inl (fun _ => 0)))]) [1, 2, 3, 4, 5, 6, 7] [0] rfl rfl (by decide) (by decide) (by decide) 0 rfl k_Store rfl (by decide) (Nat.le_of_ble_eq_true rfl) (by decide) d_Store_init_121 (fun u1 H locs hu1 hW => ?_)
        have hW : Wd D A s [(qm, .inl (tI, (room / 2 + 64), .inl (fun _ => 0))), (h0, .inr (1, [.int (nI room), .ref qc, .int 0, .int (nI 2), .int 0, .int 0, .int 0, .ref qf, .ref qz, .ref qh, .ref qn, .ref qd, .int 0, .int u1.1, .int (nI u1.2.1), .ref qm, .int 0])), (qc, .inl (tI, (256 + min room 65536 + room), .inl (u1.2.2 5))), (qf, .inl (tI, (room / 2 + 64), .inl (u1.2.2 0))), (qz, .inl (tI, (room / 2 + 64), .inl (u1.2.2 1))), (qh, .inl (tI, (room / 2 + 64), .inl (u1.2.2 2))), (qn, .inl (tI, (room / 2 + 64), .inl (u1.2.2 3))), (qd, .inl (tI, sl, .inl (u1.2.2 4)))] H _ := hW
        have hst2 : stOk (256 + min room 65536 + room) (room / 2 + 64) sl 2 u1.2.1 (u1.2.2 0) (u1.2.2 1) (u1.2.2 3) (u1.2.2 4) := hu1.1
        have hw2 : u1.2.1 ≤ 2 := by have := hu1.2.2; omega
        refine lv_aload_n hx hb d_Store_init_124 rfl (lv_at hl 3 rfl) ?_
        refine va_ldcS hx hb hown (hs A s C.2.2.2.1 2 (by decide)).2 d_Store_init_125 ?_
        refine r_callV [.ref (sq 2)] [] C hl.1 hW (c_Store_keep l D tI tB tZ tL X hX h0 qc qf qz qh qn qd qm (nI room) 0 0 0 0 0 u1.1 0 (256 + min room 65536 + room) (room / 2 + 64) sl ee 2 u1.2.1 (u1.2.2 5) (u1.2.2 0) (u1.2.2 1) (u1.2.2 2) (u1.2.2 3) (u1.2.2 4) (by omega) (by omega) hsl (by omega) hst2 (sq 2) (sv 2) [103, 116] hJ (fun A U h => (hs A U h 2 (by decide)).1) (by show 2 + 2 ≤ _; omega)) ok_Store_keep w_59 (wr := [(qm, .inl (tI, (room / 2 + 64), .inl (fun _ => 0)))]) [1, 2, 3, 4, 5, 6, 7] [0] rfl rfl (by decide) (by decide) (by decide) 0 rfl k_Store rfl (by decide) (Nat.le_of_ble_eq_true rfl) (by decide) d_Store_init_127 (fun u2 H locs hu2 hW => ?_)
        have hW : Wd D A s [(qm, .inl (tI, (room / 2 + 64), .inl (fun _ => 0))), (h0, .inr (1, [.int (nI room), .ref qc, .int 0, .int (nI 4), .int 0, .int 0, .int 0, .ref qf, .ref qz, .ref qh, .ref qn, .ref qd, .int 0, .int u2.1, .int (nI u2.2.1), .ref qm, .int 0])), (qc, .inl (tI, (256 + min room 65536 + room), .inl (u2.2.2 5))), (qf, .inl (tI, (room / 2 + 64), .inl (u2.2.2 0))), (qz, .inl (tI, (room / 2 + 64), .inl (u2.2.2 1))), (qh, .inl (tI, (room / 2 + 64), .inl (u2.2.2 2))), (qn, .inl (tI, (room / 2 + 64), .inl (u2.2.2 3))), (qd, .inl (tI, sl, .inl (u2.2.2 4)))] H _ := hW
        have hst3 : stOk (256 + min room 65536 + room) (room / 2 + 64) sl 4 u2.2.1 (u2.2.2 0) (u2.2.2 1) (u2.2.2 3) (u2.2.2 4) := hu2.1
        have hw3 : u2.2.1 ≤ 3 := by have := hu2.2.2; omega
        refine lv_aload_n hx hb d_Store_init_130 rfl (lv_at hl 3 rfl) ?_
        refine va_ldcS hx hb hown (hs A s C.2.2.2.1 3 (by decide)).2 d_Store_init_131 ?_
        refine r_callV [.ref (sq 3)] [] C hl.1 hW (c_Store_keep l D tI tB tZ tL X hX h0 qc qf qz qh qn qd qm (nI room) 0 0 0 0 0 u2.1 0 (256 + min room 65536 + room) (room / 2 + 64) sl ee 4 u2.2.1 (u2.2.2 5) (u2.2.2 0) (u2.2.2 1) (u2.2.2 2) (u2.2.2 3) (u2.2.2 4) (by omega) (by omega) hsl (by omega) hst3 (sq 3) (sv 3) [97, 109, 112] hJ (fun A U h => (hs A U h 3 (by decide)).1) (by show 4 + 3 ≤ _; omega)) ok_Store_keep w_59 (wr := [(qm, .inl (tI, (room / 2 + 64), .inl (fun _ => 0)))]) [1, 2, 3, 4, 5, 6, 7] [0] rfl rfl (by decide) (by decide) (by decide) 0 rfl k_Store rfl (by decide) (Nat.le_of_ble_eq_true rfl) (by decide) d_Store_init_133 (fun u3 H locs hu3 hW => ?_)
        have hW : Wd D A s [(qm, .inl (tI, (room / 2 + 64), .inl (fun _ => 0))), (h0, .inr (1, [.int (nI room), .ref qc, .int 0, .int (nI 7), .int 0, .int 0, .int 0, .ref qf, .ref qz, .ref qh, .ref qn, .ref qd, .int 0, .int u3.1, .int (nI u3.2.1), .ref qm, .int 0])), (qc, .inl (tI, (256 + min room 65536 + room), .inl (u3.2.2 5))), (qf, .inl (tI, (room / 2 + 64), .inl (u3.2.2 0))), (qz, .inl (tI, (room / 2 + 64), .inl (u3.2.2 1))), (qh, .inl (tI, (room / 2 + 64), .inl (u3.2.2 2))), (qn, .inl (tI, (room / 2 + 64), .inl (u3.2.2 3))), (qd, .inl (tI, sl, .inl (u3.2.2 4)))] H _ := hW
        have hst4 : stOk (256 + min room 65536 + room) (room / 2 + 64) sl 7 u3.2.1 (u3.2.2 0) (u3.2.2 1) (u3.2.2 3) (u3.2.2 4) := hu3.1
        have hw4 : u3.2.1 ≤ 4 := by have := hu3.2.2; omega
        refine lv_aload_n hx hb d_Store_init_136 rfl (lv_at hl 3 rfl) ?_
        refine va_ldcS hx hb hown (hs A s C.2.2.2.1 4 (by decide)).2 d_Store_init_137 ?_
        refine r_callV [.ref (sq 4)] [] C hl.1 hW (c_Store_keep l D tI tB tZ tL X hX h0 qc qf qz qh qn qd qm (nI room) 0 0 0 0 0 u3.1 0 (256 + min room 65536 + room) (room / 2 + 64) sl ee 7 u3.2.1 (u3.2.2 5) (u3.2.2 0) (u3.2.2 1) (u3.2.2 2) (u3.2.2 3) (u3.2.2 4) (by omega) (by omega) hsl (by omega) hst4 (sq 4) (sv 4) [97, 112, 111, 115] hJ (fun A U h => (hs A U h 4 (by decide)).1) (by show 7 + 4 ≤ _; omega)) ok_Store_keep w_59 (wr := [(qm, .inl (tI, (room / 2 + 64), .inl (fun _ => 0)))]) [1, 2, 3, 4, 5, 6, 7] [0] rfl rfl (by decide) (by decide) (by decide) 0 rfl k_Store rfl (by decide) (Nat.le_of_ble_eq_true rfl) (by decide) d_Store_init_139 (fun u4 H locs hu4 hW => ?_)
        have hW : Wd D A s [(qm, .inl (tI, (room / 2 + 64), .inl (fun _ => 0))), (h0, .inr (1, [.int (nI room), .ref qc, .int 0, .int (nI 11), .int 0, .int 0, .int 0, .ref qf, .ref qz, .ref qh, .ref qn, .ref qd, .int 0, .int u4.1, .int (nI u4.2.1), .ref qm, .int 0])), (qc, .inl (tI, (256 + min room 65536 + room), .inl (u4.2.2 5))), (qf, .inl (tI, (room / 2 + 64), .inl (u4.2.2 0))), (qz, .inl (tI, (room / 2 + 64), .inl (u4.2.2 1))), (qh, .inl (tI, (room / 2 + 64), .inl (u4.2.2 2))), (qn, .inl (tI, (room / 2 + 64), .inl (u4.2.2 3))), (qd, .inl (tI, sl, .inl (u4.2.2 4)))] H _ := hW
        have hst5 : stOk (256 + min room 65536 + room) (room / 2 + 64) sl 11 u4.2.1 (u4.2.2 0) (u4.2.2 1) (u4.2.2 3) (u4.2.2 4) := hu4.1
        have hw5 : u4.2.1 ≤ 5 := by have := hu4.2.2; omega
        refine lv_aload_n hx hb d_Store_init_142 rfl (lv_at hl 3 rfl) ?_
        refine va_ldcS hx hb hown (hs A s C.2.2.2.1 5 (by decide)).2 d_Store_init_143 ?_
        refine r_callV [.ref (sq 5)] [] C hl.1 hW (c_Store_keep l D tI tB tZ tL X hX h0 qc qf qz qh qn qd qm (nI room) 0 0 0 0 0 u4.1 0 (256 + min room 65536 + room) (room / 2 + 64) sl ee 11 u4.2.1 (u4.2.2 5) (u4.2.2 0) (u4.2.2 1) (u4.2.2 2) (u4.2.2 3) (u4.2.2 4) (by omega) (by omega) hsl (by omega) hst5 (sq 5) (sv 5) [113, 117, 111, 116] hJ (fun A U h => (hs A U h 5 (by decide)).1) (by show 11 + 4 ≤ _; omega)) ok_Store_keep w_59 (wr := [(qm, .inl (tI, (room / 2 + 64), .inl (fun _ => 0)))]) [1, 2, 3, 4, 5, 6, 7] [0] rfl rfl (by decide) (by decide) (by decide) 0 rfl k_Store rfl (by decide) (Nat.le_of_ble_eq_true rfl) (by decide) d_Store_init_145 (fun u5 H locs hu5 hW => ?_)
        have hW : Wd D A s [(qm, .inl (tI, (room / 2 + 64), .inl (fun _ => 0))), (h0, .inr (1, [.int (nI room), .ref qc, .int 0, .int (nI 15), .int 0, .int 0, .int 0, .ref qf, .ref qz, .ref qh, .ref qn, .ref qd, .int 0, .int u5.1, .int (nI u5.2.1), .ref qm, .int 0])), (qc, .inl (tI, (256 + min room 65536 + room), .inl (u5.2.2 5))), (qf, .inl (tI, (room / 2 + 64), .inl (u5.2.2 0))), (qz, .inl (tI, (room / 2 + 64), .inl (u5.2.2 1))), (qh, .inl (tI, (room / 2 + 64), .inl (u5.2.2 2))), (qn, .inl (tI, (room / 2 + 64), .inl (u5.2.2 3))), (qd, .inl (tI, sl, .inl (u5.2.2 4)))] H _ := hW
        have hst6 : stOk (256 + min room 65536 + room) (room / 2 + 64) sl 15 u5.2.1 (u5.2.2 0) (u5.2.2 1) (u5.2.2 3) (u5.2.2 4) := hu5.1
        have hw6 : u5.2.1 ≤ 6 := by have := hu5.2.2; omega
        refine lv_aload_n hx hb d_Store_init_148 rfl (lv_at hl 3 rfl) ?_
        refine va_ldcS hx hb hown (hs A s C.2.2.2.1 6 (by decide)).2 d_Store_init_149 ?_
        refine r_callV [.ref (sq 6)] [] C hl.1 hW (c_Store_keep l D tI tB tZ tL X hX h0 qc qf qz qh qn qd qm (nI room) 0 0 0 0 0 u5.1 0 (256 + min room 65536 + room) (room / 2 + 64) sl ee 15 u5.2.1 (u5.2.2 5) (u5.2.2 0) (u5.2.2 1) (u5.2.2 2) (u5.2.2 3) (u5.2.2 4) (by omega) (by omega) hsl (by omega) hst6 (sq 6) (sv 6) [120, 109, 108] hJ (fun A U h => (hs A U h 6 (by decide)).1) (by show 15 + 3 ≤ _; omega)) ok_Store_keep w_59 (wr := [(qm, .inl (tI, (room / 2 + 64), .inl (fun _ => 0)))]) [1, 2, 3, 4, 5, 6, 7] [0] rfl rfl (by decide) (by decide) (by decide) 0 rfl k_Store rfl (by decide) (Nat.le_of_ble_eq_true rfl) (by decide) d_Store_init_151 (fun u6 H locs hu6 hW => ?_)
        have hW : Wd D A s [(qm, .inl (tI, (room / 2 + 64), .inl (fun _ => 0))), (h0, .inr (1, [.int (nI room), .ref qc, .int 0, .int (nI 18), .int 0, .int 0, .int 0, .ref qf, .ref qz, .ref qh, .ref qn, .ref qd, .int 0, .int u6.1, .int (nI u6.2.1), .ref qm, .int 0])), (qc, .inl (tI, (256 + min room 65536 + room), .inl (u6.2.2 5))), (qf, .inl (tI, (room / 2 + 64), .inl (u6.2.2 0))), (qz, .inl (tI, (room / 2 + 64), .inl (u6.2.2 1))), (qh, .inl (tI, (room / 2 + 64), .inl (u6.2.2 2))), (qn, .inl (tI, (room / 2 + 64), .inl (u6.2.2 3))), (qd, .inl (tI, sl, .inl (u6.2.2 4)))] H _ := hW
        have hst7 : stOk (256 + min room 65536 + room) (room / 2 + 64) sl 18 u6.2.1 (u6.2.2 0) (u6.2.2 1) (u6.2.2 3) (u6.2.2 4) := hu6.1
        have hw7 : u6.2.1 ≤ 7 := by have := hu6.2.2; omega
        refine lv_aload_n hx hb d_Store_init_154 rfl (lv_at hl 3 rfl) ?_
        refine va_ldcS hx hb hown (hs A s C.2.2.2.1 7 (by decide)).2 d_Store_init_155 ?_
        refine r_callV [.ref (sq 7)] [] C hl.1 hW (c_Store_keep l D tI tB tZ tL X hX h0 qc qf qz qh qn qd qm (nI room) 0 0 0 0 0 u6.1 0 (256 + min room 65536 + room) (room / 2 + 64) sl ee 18 u6.2.1 (u6.2.2 5) (u6.2.2 0) (u6.2.2 1) (u6.2.2 2) (u6.2.2 3) (u6.2.2 4) (by omega) (by omega) hsl (by omega) hst7 (sq 7) (sv 7) [120, 109, 108, 110, 115] hJ (fun A U h => (hs A U h 7 (by decide)).1) (by show 18 + 5 ≤ _; omega)) ok_Store_keep w_59 (wr := [(qm, .inl (tI, (room / 2 + 64), .inl (fun _ => 0)))]) [1, 2, 3, 4, 5, 6, 7] [0] rfl rfl (by decide) (by decide) (by decide) 0 rfl k_Store rfl (by decide) (Nat.le_of_ble_eq_true rfl) (by decide) d_Store_init_157 (fun u7 H locs hu7 hW => ?_)
        have hW : Wd D A s [(qm, .inl (tI, (room / 2 + 64), .inl (fun _ => 0))), (h0, .inr (1, [.int (nI room), .ref qc, .int 0, .int (nI 23), .int 0, .int 0, .int 0, .ref qf, .ref qz, .ref qh, .ref qn, .ref qd, .int 0, .int u7.1, .int (nI u7.2.1), .ref qm, .int 0])), (qc, .inl (tI, (256 + min room 65536 + room), .inl (u7.2.2 5))), (qf, .inl (tI, (room / 2 + 64), .inl (u7.2.2 0))), (qz, .inl (tI, (room / 2 + 64), .inl (u7.2.2 1))), (qh, .inl (tI, (room / 2 + 64), .inl (u7.2.2 2))), (qn, .inl (tI, (room / 2 + 64), .inl (u7.2.2 3))), (qd, .inl (tI, sl, .inl (u7.2.2 4)))] H _ := hW
        have hst8 : stOk (256 + min room 65536 + room) (room / 2 + 64) sl 23 u7.2.1 (u7.2.2 0) (u7.2.2 1) (u7.2.2 3) (u7.2.2 4) := hu7.1
        have hw8 : u7.2.1 ≤ 8 := by have := hu7.2.2; omega
        refine lv_aload_n hx hb d_Store_init_160 rfl (lv_at hl 3 rfl) ?_
        refine va_ldcS hx hb hown (hs A s C.2.2.2.1 8 (by decide)).2 d_Store_init_161 ?_
        refine r_callV [.ref (sq 8)] [] C hl.1 hW (c_Store_keep l D tI tB tZ tL X hX h0 qc qf qz qh qn qd qm (nI room) 0 0 0 0 0 u7.1 0 (256 + min room 65536 + room) (room / 2 + 64) sl ee 23 u7.2.1 (u7.2.2 5) (u7.2.2 0) (u7.2.2 1) (u7.2.2 2) (u7.2.2 3) (u7.2.2 4) (by omega) (by omega) hsl (by omega) hst8 (sq 8) (sv 8) [104, 116, 116, 112, 58, 47, 47, 119, 119, 119, 46, 119, 51, 46, 111, 114, 103, 47, 88, 77, 76, 47, 49, 57, 57, 56, 47, 110, 97, 109, 101, 115, 112, 97, 99, 101] hJ (fun A U h => (hs A U h 8 (by decide)).1) (by show 23 + 36 ≤ _; omega)) ok_Store_keep w_59 (wr := [(qm, .inl (tI, (room / 2 + 64), .inl (fun _ => 0)))]) [1, 2, 3, 4, 5, 6, 7] [0] rfl rfl (by decide) (by decide) (by decide) 0 rfl k_Store rfl (by decide) (Nat.le_of_ble_eq_true rfl) (by decide) d_Store_init_163 (fun u8 H locs hu8 hW => ?_)
        have hW : Wd D A s [(qm, .inl (tI, (room / 2 + 64), .inl (fun _ => 0))), (h0, .inr (1, [.int (nI room), .ref qc, .int 0, .int (nI 59), .int 0, .int 0, .int 0, .ref qf, .ref qz, .ref qh, .ref qn, .ref qd, .int 0, .int u8.1, .int (nI u8.2.1), .ref qm, .int 0])), (qc, .inl (tI, (256 + min room 65536 + room), .inl (u8.2.2 5))), (qf, .inl (tI, (room / 2 + 64), .inl (u8.2.2 0))), (qz, .inl (tI, (room / 2 + 64), .inl (u8.2.2 1))), (qh, .inl (tI, (room / 2 + 64), .inl (u8.2.2 2))), (qn, .inl (tI, (room / 2 + 64), .inl (u8.2.2 3))), (qd, .inl (tI, sl, .inl (u8.2.2 4)))] H _ := hW
        have hst9 : stOk (256 + min room 65536 + room) (room / 2 + 64) sl 59 u8.2.1 (u8.2.2 0) (u8.2.2 1) (u8.2.2 3) (u8.2.2 4) := hu8.1
        have hw9 : u8.2.1 ≤ 9 := by have := hu8.2.2; omega
        refine lv_aload_n hx hb d_Store_init_166 rfl (lv_at hl 3 rfl) ?_
        refine va_ldcS hx hb hown (hs A s C.2.2.2.1 9 (by decide)).2 d_Store_init_167 ?_
        refine r_callV [.ref (sq 9)] [] C hl.1 hW (c_Store_keep l D tI tB tZ tL X hX h0 qc qf qz qh qn qd qm (nI room) 0 0 0 0 0 u8.1 0 (256 + min room 65536 + room) (room / 2 + 64) sl ee 59 u8.2.1 (u8.2.2 5) (u8.2.2 0) (u8.2.2 1) (u8.2.2 2) (u8.2.2 3) (u8.2.2 4) (by omega) (by omega) hsl (by omega) hst9 (sq 9) (sv 9) [104, 116, 116, 112, 58, 47, 47, 119, 119, 119, 46, 119, 51, 46, 111, 114, 103, 47, 50, 48, 48, 48, 47, 120, 109, 108, 110, 115, 47] hJ (fun A U h => (hs A U h 9 (by decide)).1) (by show 59 + 29 ≤ _; omega)) ok_Store_keep w_59 (wr := [(qm, .inl (tI, (room / 2 + 64), .inl (fun _ => 0)))]) [1, 2, 3, 4, 5, 6, 7] [0] rfl rfl (by decide) (by decide) (by decide) 0 rfl k_Store rfl (by decide) (Nat.le_of_ble_eq_true rfl) (by decide) d_Store_init_169 (fun u9 H locs hu9 hW => ?_)
        have hW : Wd D A s [(qm, .inl (tI, (room / 2 + 64), .inl (fun _ => 0))), (h0, .inr (1, [.int (nI room), .ref qc, .int 0, .int (nI 88), .int 0, .int 0, .int 0, .ref qf, .ref qz, .ref qh, .ref qn, .ref qd, .int 0, .int u9.1, .int (nI u9.2.1), .ref qm, .int 0])), (qc, .inl (tI, (256 + min room 65536 + room), .inl (u9.2.2 5))), (qf, .inl (tI, (room / 2 + 64), .inl (u9.2.2 0))), (qz, .inl (tI, (room / 2 + 64), .inl (u9.2.2 1))), (qh, .inl (tI, (room / 2 + 64), .inl (u9.2.2 2))), (qn, .inl (tI, (room / 2 + 64), .inl (u9.2.2 3))), (qd, .inl (tI, sl, .inl (u9.2.2 4)))] H _ := hW
        have hst10 : stOk (256 + min room 65536 + room) (room / 2 + 64) sl 88 u9.2.1 (u9.2.2 0) (u9.2.2 1) (u9.2.2 3) (u9.2.2 4) := hu9.1
        have hw10 : u9.2.1 ≤ 10 := by have := hu9.2.2; omega
        refine lv_aload_n hx hb d_Store_init_172 rfl (lv_at hl 3 rfl) ?_
        refine va_ldcS hx hb hown (hs A s C.2.2.2.1 10 (by decide)).2 d_Store_init_173 ?_
        refine r_callV [.ref (sq 10)] [] C hl.1 hW (c_Store_keep l D tI tB tZ tL X hX h0 qc qf qz qh qn qd qm (nI room) 0 0 0 0 0 u9.1 0 (256 + min room 65536 + room) (room / 2 + 64) sl ee 88 u9.2.1 (u9.2.2 5) (u9.2.2 0) (u9.2.2 1) (u9.2.2 2) (u9.2.2 3) (u9.2.2 4) (by omega) (by omega) hsl (by omega) hst10 (sq 10) (sv 10) [67, 68, 65, 84, 65] hJ (fun A U h => (hs A U h 10 (by decide)).1) (by show 88 + 5 ≤ _; omega)) ok_Store_keep w_59 (wr := [(qm, .inl (tI, (room / 2 + 64), .inl (fun _ => 0)))]) [1, 2, 3, 4, 5, 6, 7] [0] rfl rfl (by decide) (by decide) (by decide) 0 rfl k_Store rfl (by decide) (Nat.le_of_ble_eq_true rfl) (by decide) d_Store_init_175 (fun u10 H locs hu10 hW => ?_)
        have hW : Wd D A s [(qm, .inl (tI, (room / 2 + 64), .inl (fun _ => 0))), (h0, .inr (1, [.int (nI room), .ref qc, .int 0, .int (nI 93), .int 0, .int 0, .int 0, .ref qf, .ref qz, .ref qh, .ref qn, .ref qd, .int 0, .int u10.1, .int (nI u10.2.1), .ref qm, .int 0])), (qc, .inl (tI, (256 + min room 65536 + room), .inl (u10.2.2 5))), (qf, .inl (tI, (room / 2 + 64), .inl (u10.2.2 0))), (qz, .inl (tI, (room / 2 + 64), .inl (u10.2.2 1))), (qh, .inl (tI, (room / 2 + 64), .inl (u10.2.2 2))), (qn, .inl (tI, (room / 2 + 64), .inl (u10.2.2 3))), (qd, .inl (tI, sl, .inl (u10.2.2 4)))] H _ := hW
        have hst11 : stOk (256 + min room 65536 + room) (room / 2 + 64) sl 93 u10.2.1 (u10.2.2 0) (u10.2.2 1) (u10.2.2 3) (u10.2.2 4) := hu10.1
        have hw11 : u10.2.1 ≤ 11 := by have := hu10.2.2; omega
        refine lv_aload_n hx hb d_Store_init_178 rfl (lv_at hl 3 rfl) ?_
        refine va_ldcS hx hb hown (hs A s C.2.2.2.1 11 (by decide)).2 d_Store_init_179 ?_
        refine r_callV [.ref (sq 11)] [] C hl.1 hW (c_Store_keep l D tI tB tZ tL X hX h0 qc qf qz qh qn qd qm (nI room) 0 0 0 0 0 u10.1 0 (256 + min room 65536 + room) (room / 2 + 64) sl ee 93 u10.2.1 (u10.2.2 5) (u10.2.2 0) (u10.2.2 1) (u10.2.2 2) (u10.2.2 3) (u10.2.2 4) (by omega) (by omega) hsl (by omega) hst11 (sq 11) (sv 11) [73, 68] hJ (fun A U h => (hs A U h 11 (by decide)).1) (by show 93 + 2 ≤ _; omega)) ok_Store_keep w_59 (wr := [(qm, .inl (tI, (room / 2 + 64), .inl (fun _ => 0)))]) [1, 2, 3, 4, 5, 6, 7] [0] rfl rfl (by decide) (by decide) (by decide) 0 rfl k_Store rfl (by decide) (Nat.le_of_ble_eq_true rfl) (by decide) d_Store_init_181 (fun u11 H locs hu11 hW => ?_)
        have hW : Wd D A s [(qm, .inl (tI, (room / 2 + 64), .inl (fun _ => 0))), (h0, .inr (1, [.int (nI room), .ref qc, .int 0, .int (nI 95), .int 0, .int 0, .int 0, .ref qf, .ref qz, .ref qh, .ref qn, .ref qd, .int 0, .int u11.1, .int (nI u11.2.1), .ref qm, .int 0])), (qc, .inl (tI, (256 + min room 65536 + room), .inl (u11.2.2 5))), (qf, .inl (tI, (room / 2 + 64), .inl (u11.2.2 0))), (qz, .inl (tI, (room / 2 + 64), .inl (u11.2.2 1))), (qh, .inl (tI, (room / 2 + 64), .inl (u11.2.2 2))), (qn, .inl (tI, (room / 2 + 64), .inl (u11.2.2 3))), (qd, .inl (tI, sl, .inl (u11.2.2 4)))] H _ := hW
        have hst12 : stOk (256 + min room 65536 + room) (room / 2 + 64) sl 95 u11.2.1 (u11.2.2 0) (u11.2.2 1) (u11.2.2 3) (u11.2.2 4) := hu11.1
        have hw12 : u11.2.1 ≤ 12 := by have := hu11.2.2; omega
        refine lv_aload_n hx hb d_Store_init_184 rfl (lv_at hl 3 rfl) ?_
        refine va_ldcS hx hb hown (hs A s C.2.2.2.1 12 (by decide)).2 d_Store_init_185 ?_
        refine r_callV [.ref (sq 12)] [] C hl.1 hW (c_Store_keep l D tI tB tZ tL X hX h0 qc qf qz qh qn qd qm (nI room) 0 0 0 0 0 u11.1 0 (256 + min room 65536 + room) (room / 2 + 64) sl ee 95 u11.2.1 (u11.2.2 5) (u11.2.2 0) (u11.2.2 1) (u11.2.2 2) (u11.2.2 3) (u11.2.2 4) (by omega) (by omega) hsl (by omega) hst12 (sq 12) (sv 12) [73, 68, 82, 69, 70] hJ (fun A U h => (hs A U h 12 (by decide)).1) (by show 95 + 5 ≤ _; omega)) ok_Store_keep w_59 (wr := [(qm, .inl (tI, (room / 2 + 64), .inl (fun _ => 0)))]) [1, 2, 3, 4, 5, 6, 7] [0] rfl rfl (by decide) (by decide) (by decide) 0 rfl k_Store rfl (by decide) (Nat.le_of_ble_eq_true rfl) (by decide) d_Store_init_187 (fun u12 H locs hu12 hW => ?_)
        have hW : Wd D A s [(qm, .inl (tI, (room / 2 + 64), .inl (fun _ => 0))), (h0, .inr (1, [.int (nI room), .ref qc, .int 0, .int (nI 100), .int 0, .int 0, .int 0, .ref qf, .ref qz, .ref qh, .ref qn, .ref qd, .int 0, .int u12.1, .int (nI u12.2.1), .ref qm, .int 0])), (qc, .inl (tI, (256 + min room 65536 + room), .inl (u12.2.2 5))), (qf, .inl (tI, (room / 2 + 64), .inl (u12.2.2 0))), (qz, .inl (tI, (room / 2 + 64), .inl (u12.2.2 1))), (qh, .inl (tI, (room / 2 + 64), .inl (u12.2.2 2))), (qn, .inl (tI, (room / 2 + 64), .inl (u12.2.2 3))), (qd, .inl (tI, sl, .inl (u12.2.2 4)))] H _ := hW
        have hst13 : stOk (256 + min room 65536 + room) (room / 2 + 64) sl 100 u12.2.1 (u12.2.2 0) (u12.2.2 1) (u12.2.2 3) (u12.2.2 4) := hu12.1
        have hw13 : u12.2.1 ≤ 13 := by have := hu12.2.2; omega
        refine lv_aload_n hx hb d_Store_init_190 rfl (lv_at hl 3 rfl) ?_
        refine va_ldcS hx hb hown (hs A s C.2.2.2.1 13 (by decide)).2 d_Store_init_191 ?_
        refine r_callV [.ref (sq 13)] [] C hl.1 hW (c_Store_keep l D tI tB tZ tL X hX h0 qc qf qz qh qn qd qm (nI room) 0 0 0 0 0 u12.1 0 (256 + min room 65536 + room) (room / 2 + 64) sl ee 100 u12.2.1 (u12.2.2 5) (u12.2.2 0) (u12.2.2 1) (u12.2.2 2) (u12.2.2 3) (u12.2.2 4) (by omega) (by omega) hsl (by omega) hst13 (sq 13) (sv 13) [73, 68, 82, 69, 70, 83] hJ (fun A U h => (hs A U h 13 (by decide)).1) (by show 100 + 6 ≤ _; omega)) ok_Store_keep w_59 (wr := [(qm, .inl (tI, (room / 2 + 64), .inl (fun _ => 0)))]) [1, 2, 3, 4, 5, 6, 7] [0] rfl rfl (by decide) (by decide) (by decide) 0 rfl k_Store rfl (by decide) (Nat.le_of_ble_eq_true rfl) (by decide) d_Store_init_193 (fun u13 H locs hu13 hW => ?_)
        have hW : Wd D A s [(qm, .inl (tI, (room / 2 + 64), .inl (fun _ => 0))), (h0, .inr (1, [.int (nI room), .ref qc, .int 0, .int (nI 106), .int 0, .int 0, .int 0, .ref qf, .ref qz, .ref qh, .ref qn, .ref qd, .int 0, .int u13.1, .int (nI u13.2.1), .ref qm, .int 0])), (qc, .inl (tI, (256 + min room 65536 + room), .inl (u13.2.2 5))), (qf, .inl (tI, (room / 2 + 64), .inl (u13.2.2 0))), (qz, .inl (tI, (room / 2 + 64), .inl (u13.2.2 1))), (qh, .inl (tI, (room / 2 + 64), .inl (u13.2.2 2))), (qn, .inl (tI, (room / 2 + 64), .inl (u13.2.2 3))), (qd, .inl (tI, sl, .inl (u13.2.2 4)))] H _ := hW
        have hst14 : stOk (256 + min room 65536 + room) (room / 2 + 64) sl 106 u13.2.1 (u13.2.2 0) (u13.2.2 1) (u13.2.2 3) (u13.2.2 4) := hu13.1
        have hw14 : u13.2.1 ≤ 14 := by have := hu13.2.2; omega
        refine lv_aload_n hx hb d_Store_init_196 rfl (lv_at hl 3 rfl) ?_
        refine va_ldcS hx hb hown (hs A s C.2.2.2.1 14 (by decide)).2 d_Store_init_197 ?_
        refine r_callV [.ref (sq 14)] [] C hl.1 hW (c_Store_keep l D tI tB tZ tL X hX h0 qc qf qz qh qn qd qm (nI room) 0 0 0 0 0 u13.1 0 (256 + min room 65536 + room) (room / 2 + 64) sl ee 106 u13.2.1 (u13.2.2 5) (u13.2.2 0) (u13.2.2 1) (u13.2.2 2) (u13.2.2 3) (u13.2.2 4) (by omega) (by omega) hsl (by omega) hst14 (sq 14) (sv 14) [69, 78, 84, 73, 84, 89] hJ (fun A U h => (hs A U h 14 (by decide)).1) (by show 106 + 6 ≤ _; omega)) ok_Store_keep w_59 (wr := [(qm, .inl (tI, (room / 2 + 64), .inl (fun _ => 0)))]) [1, 2, 3, 4, 5, 6, 7] [0] rfl rfl (by decide) (by decide) (by decide) 0 rfl k_Store rfl (by decide) (Nat.le_of_ble_eq_true rfl) (by decide) d_Store_init_199 (fun u14 H locs hu14 hW => ?_)
        have hW : Wd D A s [(qm, .inl (tI, (room / 2 + 64), .inl (fun _ => 0))), (h0, .inr (1, [.int (nI room), .ref qc, .int 0, .int (nI 112), .int 0, .int 0, .int 0, .ref qf, .ref qz, .ref qh, .ref qn, .ref qd, .int 0, .int u14.1, .int (nI u14.2.1), .ref qm, .int 0])), (qc, .inl (tI, (256 + min room 65536 + room), .inl (u14.2.2 5))), (qf, .inl (tI, (room / 2 + 64), .inl (u14.2.2 0))), (qz, .inl (tI, (room / 2 + 64), .inl (u14.2.2 1))), (qh, .inl (tI, (room / 2 + 64), .inl (u14.2.2 2))), (qn, .inl (tI, (room / 2 + 64), .inl (u14.2.2 3))), (qd, .inl (tI, sl, .inl (u14.2.2 4)))] H _ := hW
        have hst15 : stOk (256 + min room 65536 + room) (room / 2 + 64) sl 112 u14.2.1 (u14.2.2 0) (u14.2.2 1) (u14.2.2 3) (u14.2.2 4) := hu14.1
        have hw15 : u14.2.1 ≤ 15 := by have := hu14.2.2; omega
        refine lv_aload_n hx hb d_Store_init_202 rfl (lv_at hl 3 rfl) ?_
        refine va_ldcS hx hb hown (hs A s C.2.2.2.1 15 (by decide)).2 d_Store_init_203 ?_
        refine r_callV [.ref (sq 15)] [] C hl.1 hW (c_Store_keep l D tI tB tZ tL X hX h0 qc qf qz qh qn qd qm (nI room) 0 0 0 0 0 u14.1 0 (256 + min room 65536 + room) (room / 2 + 64) sl ee 112 u14.2.1 (u14.2.2 5) (u14.2.2 0) (u14.2.2 1) (u14.2.2 2) (u14.2.2 3) (u14.2.2 4) (by omega) (by omega) hsl (by omega) hst15 (sq 15) (sv 15) [69, 78, 84, 73, 84, 73, 69, 83] hJ (fun A U h => (hs A U h 15 (by decide)).1) (by show 112 + 8 ≤ _; omega)) ok_Store_keep w_59 (wr := [(qm, .inl (tI, (room / 2 + 64), .inl (fun _ => 0)))]) [1, 2, 3, 4, 5, 6, 7] [0] rfl rfl (by decide) (by decide) (by decide) 0 rfl k_Store rfl (by decide) (Nat.le_of_ble_eq_true rfl) (by decide) d_Store_init_205 (fun u15 H locs hu15 hW => ?_)
        have hW : Wd D A s [(qm, .inl (tI, (room / 2 + 64), .inl (fun _ => 0))), (h0, .inr (1, [.int (nI room), .ref qc, .int 0, .int (nI 120), .int 0, .int 0, .int 0, .ref qf, .ref qz, .ref qh, .ref qn, .ref qd, .int 0, .int u15.1, .int (nI u15.2.1), .ref qm, .int 0])), (qc, .inl (tI, (256 + min room 65536 + room), .inl (u15.2.2 5))), (qf, .inl (tI, (room / 2 + 64), .inl (u15.2.2 0))), (qz, .inl (tI, (room / 2 + 64), .inl (u15.2.2 1))), (qh, .inl (tI, (room / 2 + 64), .inl (u15.2.2 2))), (qn, .inl (tI, (room / 2 + 64), .inl (u15.2.2 3))), (qd, .inl (tI, sl, .inl (u15.2.2 4)))] H _ := hW
        have hst16 : stOk (256 + min room 65536 + room) (room / 2 + 64) sl 120 u15.2.1 (u15.2.2 0) (u15.2.2 1) (u15.2.2 3) (u15.2.2 4) := hu15.1
        have hw16 : u15.2.1 ≤ 16 := by have := hu15.2.2; omega
        refine lv_aload_n hx hb d_Store_init_208 rfl (lv_at hl 3 rfl) ?_
        refine va_ldcS hx hb hown (hs A s C.2.2.2.1 16 (by decide)).2 d_Store_init_209 ?_
        refine r_callV [.ref (sq 16)] [] C hl.1 hW (c_Store_keep l D tI tB tZ tL X hX h0 qc qf qz qh qn qd qm (nI room) 0 0 0 0 0 u15.1 0 (256 + min room 65536 + room) (room / 2 + 64) sl ee 120 u15.2.1 (u15.2.2 5) (u15.2.2 0) (u15.2.2 1) (u15.2.2 2) (u15.2.2 3) (u15.2.2 4) (by omega) (by omega) hsl (by omega) hst16 (sq 16) (sv 16) [78, 77, 84, 79, 75, 69, 78] hJ (fun A U h => (hs A U h 16 (by decide)).1) (by show 120 + 7 ≤ _; omega)) ok_Store_keep w_59 (wr := [(qm, .inl (tI, (room / 2 + 64), .inl (fun _ => 0)))]) [1, 2, 3, 4, 5, 6, 7] [0] rfl rfl (by decide) (by decide) (by decide) 0 rfl k_Store rfl (by decide) (Nat.le_of_ble_eq_true rfl) (by decide) d_Store_init_211 (fun u16 H locs hu16 hW => ?_)
        have hW : Wd D A s [(qm, .inl (tI, (room / 2 + 64), .inl (fun _ => 0))), (h0, .inr (1, [.int (nI room), .ref qc, .int 0, .int (nI 127), .int 0, .int 0, .int 0, .ref qf, .ref qz, .ref qh, .ref qn, .ref qd, .int 0, .int u16.1, .int (nI u16.2.1), .ref qm, .int 0])), (qc, .inl (tI, (256 + min room 65536 + room), .inl (u16.2.2 5))), (qf, .inl (tI, (room / 2 + 64), .inl (u16.2.2 0))), (qz, .inl (tI, (room / 2 + 64), .inl (u16.2.2 1))), (qh, .inl (tI, (room / 2 + 64), .inl (u16.2.2 2))), (qn, .inl (tI, (room / 2 + 64), .inl (u16.2.2 3))), (qd, .inl (tI, sl, .inl (u16.2.2 4)))] H _ := hW
        have hst17 : stOk (256 + min room 65536 + room) (room / 2 + 64) sl 127 u16.2.1 (u16.2.2 0) (u16.2.2 1) (u16.2.2 3) (u16.2.2 4) := hu16.1
        have hw17 : u16.2.1 ≤ 17 := by have := hu16.2.2; omega
        refine lv_aload_n hx hb d_Store_init_214 rfl (lv_at hl 3 rfl) ?_
        refine va_ldcS hx hb hown (hs A s C.2.2.2.1 17 (by decide)).2 d_Store_init_215 ?_
        refine r_callV [.ref (sq 17)] [] C hl.1 hW (c_Store_keep l D tI tB tZ tL X hX h0 qc qf qz qh qn qd qm (nI room) 0 0 0 0 0 u16.1 0 (256 + min room 65536 + room) (room / 2 + 64) sl ee 127 u16.2.1 (u16.2.2 5) (u16.2.2 0) (u16.2.2 1) (u16.2.2 2) (u16.2.2 3) (u16.2.2 4) (by omega) (by omega) hsl (by omega) hst17 (sq 17) (sv 17) [78, 77, 84, 79, 75, 69, 78, 83] hJ (fun A U h => (hs A U h 17 (by decide)).1) (by show 127 + 8 ≤ _; omega)) ok_Store_keep w_59 (wr := [(qm, .inl (tI, (room / 2 + 64), .inl (fun _ => 0)))]) [1, 2, 3, 4, 5, 6, 7] [0] rfl rfl (by decide) (by decide) (by decide) 0 rfl k_Store rfl (by decide) (Nat.le_of_ble_eq_true rfl) (by decide) d_Store_init_217 (fun u17 H locs hu17 hW => ?_)
        have hW : Wd D A s [(qm, .inl (tI, (room / 2 + 64), .inl (fun _ => 0))), (h0, .inr (1, [.int (nI room), .ref qc, .int 0, .int (nI 135), .int 0, .int 0, .int 0, .ref qf, .ref qz, .ref qh, .ref qn, .ref qd, .int 0, .int u17.1, .int (nI u17.2.1), .ref qm, .int 0])), (qc, .inl (tI, (256 + min room 65536 + room), .inl (u17.2.2 5))), (qf, .inl (tI, (room / 2 + 64), .inl (u17.2.2 0))), (qz, .inl (tI, (room / 2 + 64), .inl (u17.2.2 1))), (qh, .inl (tI, (room / 2 + 64), .inl (u17.2.2 2))), (qn, .inl (tI, (room / 2 + 64), .inl (u17.2.2 3))), (qd, .inl (tI, sl, .inl (u17.2.2 4)))] H _ := hW
        have hst18 : stOk (256 + min room 65536 + room) (room / 2 + 64) sl 135 u17.2.1 (u17.2.2 0) (u17.2.2 1) (u17.2.2 3) (u17.2.2 4) := hu17.1
        have hw18 : u17.2.1 ≤ 18 := by have := hu17.2.2; omega
        refine lv_aload_n hx hb d_Store_init_220 rfl (lv_at hl 3 rfl) ?_
        refine va_ldcS hx hb hown (hs A s C.2.2.2.1 18 (by decide)).2 d_Store_init_221 ?_
        refine r_callV [.ref (sq 18)] [] C hl.1 hW (c_Store_keep l D tI tB tZ tL X hX h0 qc qf qz qh qn qd qm (nI room) 0 0 0 0 0 u17.1 0 (256 + min room 65536 + room) (room / 2 + 64) sl ee 135 u17.2.1 (u17.2.2 5) (u17.2.2 0) (u17.2.2 1) (u17.2.2 2) (u17.2.2 3) (u17.2.2 4) (by omega) (by omega) hsl (by omega) hst18 (sq 18) (sv 18) [78, 79, 84, 65, 84, 73, 79, 78] hJ (fun A U h => (hs A U h 18 (by decide)).1) (by show 135 + 8 ≤ _; omega)) ok_Store_keep w_59 (wr := [(qm, .inl (tI, (room / 2 + 64), .inl (fun _ => 0)))]) [1, 2, 3, 4, 5, 6, 7] [0] rfl rfl (by decide) (by decide) (by decide) 0 rfl k_Store rfl (by decide) (Nat.le_of_ble_eq_true rfl) (by decide) d_Store_init_223 (fun u18 H locs hu18 hW => ?_)
        have hW : Wd D A s [(qm, .inl (tI, (room / 2 + 64), .inl (fun _ => 0))), (h0, .inr (1, [.int (nI room), .ref qc, .int 0, .int (nI 143), .int 0, .int 0, .int 0, .ref qf, .ref qz, .ref qh, .ref qn, .ref qd, .int 0, .int u18.1, .int (nI u18.2.1), .ref qm, .int 0])), (qc, .inl (tI, (256 + min room 65536 + room), .inl (u18.2.2 5))), (qf, .inl (tI, (room / 2 + 64), .inl (u18.2.2 0))), (qz, .inl (tI, (room / 2 + 64), .inl (u18.2.2 1))), (qh, .inl (tI, (room / 2 + 64), .inl (u18.2.2 2))), (qn, .inl (tI, (room / 2 + 64), .inl (u18.2.2 3))), (qd, .inl (tI, sl, .inl (u18.2.2 4)))] H _ := hW
        have hst19 : stOk (256 + min room 65536 + room) (room / 2 + 64) sl 143 u18.2.1 (u18.2.2 0) (u18.2.2 1) (u18.2.2 3) (u18.2.2 4) := hu18.1
        have hw19 : u18.2.1 ≤ 19 := by have := hu18.2.2; omega
        refine lv_aload_n hx hb d_Store_init_226 rfl (lv_at hl 3 rfl) ?_
        refine lv_aload_n hx hb d_Store_init_227 rfl (lv_at hl 3 rfl) ?_
        refine r_get C hW 1 rfl k_Store i_Store 14 (by decide) rfl w_178 d_Store_init_228 ?_
        refine r_putF (v := .int (nI u18.2.1)) (ty := .int) C hW 1 rfl k_Store i_Store t_Store o_Store n_Store 12 (by decide) w_176 rfl hin rfl (by decide +kernel) rfl rfl (Nat.le_of_ble_eq_true rfl) d_Store_init_231 (fun H locs hW => ?_)
        have hW : Wd D A s [(qm, .inl (tI, (room / 2 + 64), .inl (fun _ => 0))), (h0, .inr (1, [.int (nI room), .ref qc, .int 0, .int (nI 143), .int 0, .int 0, .int 0, .ref qf, .ref qz, .ref qh, .ref qn, .ref qd, .int (nI u18.2.1), .int u18.1, .int (nI u18.2.1), .ref qm, .int 0])), (qc, .inl (tI, (256 + min room 65536 + room), .inl (u18.2.2 5))), (qf, .inl (tI, (room / 2 + 64), .inl (u18.2.2 0))), (qz, .inl (tI, (room / 2 + 64), .inl (u18.2.2 1))), (qh, .inl (tI, (room / 2 + 64), .inl (u18.2.2 2))), (qn, .inl (tI, (room / 2 + 64), .inl (u18.2.2 3))), (qd, .inl (tI, sl, .inl (u18.2.2 4)))] H _ := hW
        refine lv_aload_n hx hb d_Store_init_234 rfl (lv_at hl 3 rfl) ?_
        refine lv_aload_n hx hb d_Store_init_235 rfl (lv_at hl 3 rfl) ?_
        refine r_get C hW 1 rfl k_Store i_Store 3 (by decide) rfl w_155 d_Store_init_236 ?_
        refine r_putF (v := .int (nI 143)) (ty := .int) C hW 1 rfl k_Store i_Store t_Store o_Store n_Store 2 (by decide) w_152 rfl hin rfl (by decide +kernel) rfl rfl (Nat.le_of_ble_eq_true rfl) d_Store_init_239 (fun H locs hW => ?_)
        have hW : Wd D A s [(qm, .inl (tI, (room / 2 + 64), .inl (fun _ => 0))), (h0, .inr (1, [.int (nI room), .ref qc, .int (nI 143), .int (nI 143), .int 0, .int 0, .int 0, .ref qf, .ref qz, .ref qh, .ref qn, .ref qd, .int (nI u18.2.1), .int u18.1, .int (nI u18.2.1), .ref qm, .int 0])), (qc, .inl (tI, (256 + min room 65536 + room), .inl (u18.2.2 5))), (qf, .inl (tI, (room / 2 + 64), .inl (u18.2.2 0))), (qz, .inl (tI, (room / 2 + 64), .inl (u18.2.2 1))), (qh, .inl (tI, (room / 2 + 64), .inl (u18.2.2 2))), (qn, .inl (tI, (room / 2 + 64), .inl (u18.2.2 3))), (qd, .inl (tI, sl, .inl (u18.2.2 4)))] H _ := hW
        rw [hQ]
        exact r_vret C hr hlk hW ((fun k => [qc, qf, qz, qh, qn, qd, qm].getD k 0), sl, u18.2.1, u18.1, u18.2.2) ⟨hst19, hw19, ee, hsl, hs9⟩ [1, 2, 3, 4, 5, 6, 7, 0] (by decide) rfl d_Store_init_242 (by decide) (by decide)
      refine lv_bipush (v := 20) hx hb d_Store_init_77 (by decide) ?_
      refine lv_icmp_ge (tgt := 97) hx hb d_Store_init_79 (by decide) (fun c_79 => ?_) (fun c_79 => ?_)
      · exact m97
      · refine lv_iload_n hx hb d_Store_init_82 rfl (lv_at hl 1 rfl) ?_
        refine lv_iload_n hx hb d_Store_init_83 rfl (lv_at hl 2 rfl) ?_
        refine lv_icmp_ge (tgt := 97) hx hb d_Store_init_84 (by decide) (fun c_84 => ?_) (fun c_84 => ?_)
        · exact m97
        · have hlt : sl < room / 2 + 64 := k_nle c_84 (by omega) (by omega)
          have hi2 : i < 20 := k_nle (a := 20) c_79 (by decide) (by omega)
          refine lv_iload_n hx hb d_Store_init_87 rfl (lv_at hl 1 rfl) ?_
          refine lv_iconst (v := 2) hx hb d_Store_init_88 (by decide) ?_
          refine lv_imul hx hb d_Store_init_89 ?_
          refine W.eq (congrArg (fun z : Int32 => F0 m 90 ls (.int z :: [])) (show ((nI sl) * 2) = nI (sl * 2) from (pk_mul sl 2))) ?_
          refine lv_istore_n (lv' := [(3, .int (nI (sl * 2))), (4, .int (nI i)), (2, .int (nI (room / 2 + 64))), (0, .ref h0), (1, .int (nI room))]) hx hb d_Store_init_90 rfl hl (by decide) rfl (fun ls hl => ?_)
          refine lv_iinc (v := (nI (i + 1))) (lv' := [(4, .int (nI (i + 1))), (3, .int (nI (sl * 2))), (2, .int (nI (room / 2 + 64))), (0, .ref h0), (1, .int (nI room))]) hx hb d_Store_init_91 hl (k := 1) rfl (nI_1 i) (by decide) rfl (fun ls hl => ?_)
          refine lv_goto (tgt := 75) hx hb d_Store_init_94 (by decide) ?_
          exact ih_loop (i + 1) (sl * 2) (ee + 1) H locs ls (by omega) (by omega) (by rw [hsl, Nat.pow_succ]) (by omega) (hW.sub [0, 1, 2, 3, 4, 5, 6] (by decide) rfl) (lv_sub hl [0, 1, 2, 3, 4] rfl)
  exact loop 21 0 64 6 _ _ _ (by decide) (by omega) (by decide) (by decide) (hW.sub [0, 1, 2, 3, 4, 5, 6] (by decide) rfl) (lv_sub hl [0, 1, 2, 3, 4] rfl)
