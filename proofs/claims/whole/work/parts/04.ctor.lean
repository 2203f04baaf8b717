def y_Entities_init : MethodName := ⟨"MarkupJudge$Entities", "<init>", "(LMarkupJudge$Store;LMarkupJudge$Reader;)V"⟩
abbrev b_Entities_init : ByteArray := prog_5_method_1_code
def y_Reader_init : MethodName := ⟨"MarkupJudge$Reader", "<init>", "(LMarkupJudge$Store;)V"⟩
abbrev b_Reader_init : ByteArray := prog_8_method_1_code
theorem w_143 : (Jvm.Cond.fieldLink "MarkupJudge$Entities" (19 : Nat) "MarkupJudge$Store" "room" "I") ∈ lwG := s_1 (List.mem_of_getElem? (i := 143) rfl) rfl
theorem w_146 : (Jvm.Cond.fieldLink "MarkupJudge$Reader" (15 : Nat) "MarkupJudge$Store" "chars" "[I") ∈ lwG := s_1 (List.mem_of_getElem? (i := 146) rfl) rfl
theorem w_183 : (Jvm.Cond.fieldLink "MarkupJudge$Entities" (48 : Nat) "MarkupJudge$Store" "mark" "[I") ∈ lwG := s_1 (List.mem_of_getElem? (i := 183) rfl) rfl
theorem w_231 : (Jvm.Cond.methodLink "MarkupJudge$Reader" (3 : Nat) ({ cls := "java/lang/Object", name := "<init>", desc := "()V" } : Jvm.MethodName)) ∈ lwG := s_1 (List.mem_of_getElem? (i := 231) rfl) rfl
theorem w_232 : (Jvm.Cond.fieldLink "MarkupJudge$Reader" (9 : Nat) "MarkupJudge$Reader" "store" "LMarkupJudge$Store;") ∈ lwG := s_1 (List.mem_of_getElem? (i := 232) rfl) rfl
theorem w_233 : (Jvm.Cond.fieldLink "MarkupJudge$Reader" (21 : Nat) "MarkupJudge$Reader" "chars" "[I") ∈ lwG := s_1 (List.mem_of_getElem? (i := 233) rfl) rfl
theorem w_299 : (Jvm.Cond.methodLink "MarkupJudge$Entities" (3 : Nat) ({ cls := "java/lang/Object", name := "<init>", desc := "()V" } : Jvm.MethodName)) ∈ lwG := s_2 (List.mem_of_getElem? (i := 59) rfl) rfl
theorem w_300 : (Jvm.Cond.fieldLink "MarkupJudge$Entities" (9 : Nat) "MarkupJudge$Entities" "store" "LMarkupJudge$Store;") ∈ lwG := s_2 (List.mem_of_getElem? (i := 60) rfl) rfl
theorem w_301 : (Jvm.Cond.fieldLink "MarkupJudge$Entities" (15 : Nat) "MarkupJudge$Entities" "reader" "LMarkupJudge$Reader;") ∈ lwG := s_2 (List.mem_of_getElem? (i := 61) rfl) rfl
theorem w_302 : (Jvm.Cond.fieldLink "MarkupJudge$Entities" (25 : Nat) "MarkupJudge$Entities" "from" "[I") ∈ lwG := s_2 (List.mem_of_getElem? (i := 62) rfl) rfl
theorem w_303 : (Jvm.Cond.fieldLink "MarkupJudge$Entities" (29 : Nat) "MarkupJudge$Entities" "size" "[I") ∈ lwG := s_2 (List.mem_of_getElem? (i := 63) rfl) rfl
theorem w_304 : (Jvm.Cond.fieldLink "MarkupJudge$Entities" (32 : Nat) "MarkupJudge$Entities" "open" "[Z") ∈ lwG := s_2 (List.mem_of_getElem? (i := 64) rfl) rfl
theorem w_306 : (Jvm.Cond.fieldLink "MarkupJudge$Entities" (51 : Nat) "MarkupJudge$Entities" "general" "[I") ∈ lwG := s_2 (List.mem_of_getElem? (i := 66) rfl) rfl
theorem w_307 : (Jvm.Cond.fieldLink "MarkupJudge$Entities" (54 : Nat) "MarkupJudge$Entities" "parameter" "[I") ∈ lwG := s_2 (List.mem_of_getElem? (i := 67) rfl) rfl
theorem w_308 : (Jvm.Cond.fieldLink "MarkupJudge$Entities" (36 : Nat) "MarkupJudge$Entities" "framePos" "[I") ∈ lwG := s_2 (List.mem_of_getElem? (i := 68) rfl) rfl
theorem w_309 : (Jvm.Cond.fieldLink "MarkupJudge$Entities" (39 : Nat) "MarkupJudge$Entities" "frameStop" "[I") ∈ lwG := s_2 (List.mem_of_getElem? (i := 69) rfl) rfl
theorem w_310 : (Jvm.Cond.fieldLink "MarkupJudge$Entities" (42 : Nat) "MarkupJudge$Entities" "frameEntity" "[I") ∈ lwG := s_2 (List.mem_of_getElem? (i := 70) rfl) rfl
theorem w_311 : (Jvm.Cond.fieldLink "MarkupJudge$Entities" (45 : Nat) "MarkupJudge$Entities" "frameElement" "[I") ∈ lwG := s_2 (List.mem_of_getElem? (i := 71) rfl) rfl
theorem d_Entities_init_0 : decode b_Entities_init 0 = .ok (.aload_n 0, 1) := by decide +kernel
theorem d_Entities_init_1 : decode b_Entities_init 1 = .ok (.invokespecial 3, 3) := by decide +kernel
theorem d_Entities_init_4 : decode b_Entities_init 4 = .ok (.aload_n 0, 1) := by decide +kernel
theorem d_Entities_init_5 : decode b_Entities_init 5 = .ok (.aload_n 1, 1) := by decide +kernel
theorem d_Entities_init_6 : decode b_Entities_init 6 = .ok (.putfield 9, 3) := by decide +kernel
theorem d_Entities_init_9 : decode b_Entities_init 9 = .ok (.aload_n 0, 1) := by decide +kernel
theorem d_Entities_init_10 : decode b_Entities_init 10 = .ok (.aload_n 2, 1) := by decide +kernel
theorem d_Entities_init_11 : decode b_Entities_init 11 = .ok (.putfield 15, 3) := by decide +kernel
theorem d_Entities_init_14 : decode b_Entities_init 14 = .ok (.aload_n 1, 1) := by decide +kernel
theorem d_Entities_init_15 : decode b_Entities_init 15 = .ok (.getfield 19, 3) := by decide +kernel
theorem d_Entities_init_18 : decode b_Entities_init 18 = .ok (.bipush 14, 2) := by decide +kernel
theorem d_Entities_init_20 : decode b_Entities_init 20 = .ok (.idiv, 1) := by decide +kernel
theorem d_Entities_init_21 : decode b_Entities_init 21 = .ok (.iconst 2, 1) := by decide +kernel
theorem d_Entities_init_22 : decode b_Entities_init 22 = .ok (.iadd, 1) := by decide +kernel
theorem d_Entities_init_23 : decode b_Entities_init 23 = .ok (.istore_n 3, 1) := by decide +kernel
theorem d_Entities_init_24 : decode b_Entities_init 24 = .ok (.aload_n 0, 1) := by decide +kernel
theorem d_Entities_init_25 : decode b_Entities_init 25 = .ok (.iload_n 3, 1) := by decide +kernel
theorem d_Entities_init_26 : decode b_Entities_init 26 = .ok (.newarray .int, 2) := by decide +kernel
theorem d_Entities_init_28 : decode b_Entities_init 28 = .ok (.putfield 25, 3) := by decide +kernel
theorem d_Entities_init_31 : decode b_Entities_init 31 = .ok (.aload_n 0, 1) := by decide +kernel
theorem d_Entities_init_32 : decode b_Entities_init 32 = .ok (.iload_n 3, 1) := by decide +kernel
theorem d_Entities_init_33 : decode b_Entities_init 33 = .ok (.newarray .int, 2) := by decide +kernel
theorem d_Entities_init_35 : decode b_Entities_init 35 = .ok (.putfield 29, 3) := by decide +kernel
theorem d_Entities_init_38 : decode b_Entities_init 38 = .ok (.aload_n 0, 1) := by decide +kernel
theorem d_Entities_init_39 : decode b_Entities_init 39 = .ok (.iload_n 3, 1) := by decide +kernel
theorem d_Entities_init_40 : decode b_Entities_init 40 = .ok (.newarray .boolean, 2) := by decide +kernel
theorem d_Entities_init_42 : decode b_Entities_init 42 = .ok (.putfield 32, 3) := by decide +kernel
theorem d_Entities_init_45 : decode b_Entities_init 45 = .ok (.aload_n 0, 1) := by decide +kernel
theorem d_Entities_init_46 : decode b_Entities_init 46 = .ok (.iload_n 3, 1) := by decide +kernel
theorem d_Entities_init_47 : decode b_Entities_init 47 = .ok (.newarray .int, 2) := by decide +kernel
theorem d_Entities_init_49 : decode b_Entities_init 49 = .ok (.putfield 36, 3) := by decide +kernel
theorem d_Entities_init_52 : decode b_Entities_init 52 = .ok (.aload_n 0, 1) := by decide +kernel
theorem d_Entities_init_53 : decode b_Entities_init 53 = .ok (.iload_n 3, 1) := by decide +kernel
theorem d_Entities_init_54 : decode b_Entities_init 54 = .ok (.newarray .int, 2) := by decide +kernel
theorem d_Entities_init_56 : decode b_Entities_init 56 = .ok (.putfield 39, 3) := by decide +kernel
theorem d_Entities_init_59 : decode b_Entities_init 59 = .ok (.aload_n 0, 1) := by decide +kernel
theorem d_Entities_init_60 : decode b_Entities_init 60 = .ok (.iload_n 3, 1) := by decide +kernel
theorem d_Entities_init_61 : decode b_Entities_init 61 = .ok (.newarray .int, 2) := by decide +kernel
theorem d_Entities_init_63 : decode b_Entities_init 63 = .ok (.putfield 42, 3) := by decide +kernel
theorem d_Entities_init_66 : decode b_Entities_init 66 = .ok (.aload_n 0, 1) := by decide +kernel
theorem d_Entities_init_67 : decode b_Entities_init 67 = .ok (.iload_n 3, 1) := by decide +kernel
theorem d_Entities_init_68 : decode b_Entities_init 68 = .ok (.newarray .int, 2) := by decide +kernel
theorem d_Entities_init_70 : decode b_Entities_init 70 = .ok (.putfield 45, 3) := by decide +kernel
theorem d_Entities_init_73 : decode b_Entities_init 73 = .ok (.aload_n 0, 1) := by decide +kernel
theorem d_Entities_init_74 : decode b_Entities_init 74 = .ok (.aload_n 1, 1) := by decide +kernel
theorem d_Entities_init_75 : decode b_Entities_init 75 = .ok (.getfield 48, 3) := by decide +kernel
theorem d_Entities_init_78 : decode b_Entities_init 78 = .ok (.arraylength, 1) := by decide +kernel
theorem d_Entities_init_79 : decode b_Entities_init 79 = .ok (.newarray .int, 2) := by decide +kernel
theorem d_Entities_init_81 : decode b_Entities_init 81 = .ok (.putfield 51, 3) := by decide +kernel
theorem d_Entities_init_84 : decode b_Entities_init 84 = .ok (.aload_n 0, 1) := by decide +kernel
theorem d_Entities_init_85 : decode b_Entities_init 85 = .ok (.aload_n 1, 1) := by decide +kernel
theorem d_Entities_init_86 : decode b_Entities_init 86 = .ok (.getfield 48, 3) := by decide +kernel
theorem d_Entities_init_89 : decode b_Entities_init 89 = .ok (.arraylength, 1) := by decide +kernel
theorem d_Entities_init_90 : decode b_Entities_init 90 = .ok (.newarray .int, 2) := by decide +kernel
theorem d_Entities_init_92 : decode b_Entities_init 92 = .ok (.putfield 54, 3) := by decide +kernel
theorem d_Entities_init_95 : decode b_Entities_init 95 = .ok (.return_, 1) := by decide +kernel
theorem d_Reader_init_0 : decode b_Reader_init 0 = .ok (.aload_n 0, 1) := by decide +kernel
theorem d_Reader_init_1 : decode b_Reader_init 1 = .ok (.invokespecial 3, 3) := by decide +kernel
theorem d_Reader_init_4 : decode b_Reader_init 4 = .ok (.aload_n 0, 1) := by decide +kernel
theorem d_Reader_init_5 : decode b_Reader_init 5 = .ok (.aload_n 1, 1) := by decide +kernel
theorem d_Reader_init_6 : decode b_Reader_init 6 = .ok (.putfield 9, 3) := by decide +kernel
theorem d_Reader_init_9 : decode b_Reader_init 9 = .ok (.aload_n 0, 1) := by decide +kernel
theorem d_Reader_init_10 : decode b_Reader_init 10 = .ok (.aload_n 1, 1) := by decide +kernel
theorem d_Reader_init_11 : decode b_Reader_init 11 = .ok (.getfield 15, 3) := by decide +kernel
theorem d_Reader_init_14 : decode b_Reader_init 14 = .ok (.putfield 21, 3) := by decide +kernel
theorem d_Reader_init_17 : decode b_Reader_init 17 = .ok (.return_, 1) := by decide +kernel
set_option maxHeartbeats 4000000 in
set_option maxRecDepth 100000 in
/-- Reader(store): chars are the store's -/
theorem c_Reader_init (l : Launch) (D : va_G) (tI tB tZ tL : ClassId) (X : (Nat → Prop) → State → Prop) (hX : Ro X) (h0 h1 qc : Nat) (fs : List Value) (hc : fs[1]? = some (.ref qc)) : CtV l D tI tB tZ tL X y_Reader_init b_Reader_init 2 ({ frames := 1, cells := 0, slots := 0, locals := 12 }) [.ref h0, .ref h1] [(h0, .inr (2, [.null, .null, .int 0, .int 0, .int 0, .int 0, .int 0, .int 0, .int 0, .int 0, .int 0, .int 0])), (h1, .inr (1, fs))] (S := Nat → Nat) (fun _ => True) (fun u => [(h0, .inr (2, [.ref h1, .ref qc, .int 0, .int 0, .int 0, .int 0, .int 0, .int 0, .int 0, .int 0, .int 0, .int 0])), (h1, .inr (1, fs))]) := by
  refine CtV.start hX (by decide) (Nat.le_of_ble_eq_true rfl) ?_
  intro p e s m args below meth c A ls C hr hlk hin hW hl
  have hx := C.1.1
  have hb := C.1.2.1
  have hown := C.1.2.2.2.1
  have hT := C.1.2.2.2.2
  have hin : meth.name = "<init>" := hin
  have hl : lv_has ls 2 [(0, .ref h0), (1, .ref h1)] := hl
  refine lv_aload_n hx hb d_Reader_init_0 rfl (lv_at hl 0 rfl) ?_
  refine r_objInit C hl.1 w_231 (by decide) (Nat.le_of_ble_eq_true rfl) d_Reader_init_1 ?_
  refine lv_aload_n hx hb d_Reader_init_4 rfl (lv_at hl 0 rfl) ?_
  refine lv_aload_n hx hb d_Reader_init_5 rfl (lv_at hl 1 rfl) ?_
  refine r_putF (v := .ref h1) (ty := .object "MarkupJudge$Store") C hW 0 rfl k_Reader i_Reader t_Reader o_Reader n_Reader 0 (by decide) w_232 rfl hin rfl (by decide +kernel) rfl rfl (Nat.le_of_ble_eq_true rfl) d_Reader_init_6 (fun H locs hW => ?_)
  have hW : Wd D A s [(h0, .inr (2, [.ref h1, .null, .int 0, .int 0, .int 0, .int 0, .int 0, .int 0, .int 0, .int 0, .int 0, .int 0])), (h1, .inr (1, fs))] H locs := hW
  refine lv_aload_n hx hb d_Reader_init_9 rfl (lv_at hl 0 rfl) ?_
  refine lv_aload_n hx hb d_Reader_init_10 rfl (lv_at hl 1 rfl) ?_
  refine r_get C hW 1 rfl k_Store i_Store 1 (by decide) hc w_146 d_Reader_init_11 ?_
  refine r_putF (v := .ref qc) (ty := .array .int) C hW 0 rfl k_Reader i_Reader t_Reader o_Reader n_Reader 1 (by decide) w_233 rfl hin rfl (by decide +kernel) rfl rfl (Nat.le_of_ble_eq_true rfl) d_Reader_init_14 (fun H locs hW => ?_)
  have hW : Wd D A s [(h0, .inr (2, [.ref h1, .ref qc, .int 0, .int 0, .int 0, .int 0, .int 0, .int 0, .int 0, .int 0, .int 0, .int 0])), (h1, .inr (1, fs))] H locs := hW
  exact r_vret C hr hlk hW (fun _ => 0) trivial [0, 1] (by decide) rfl d_Reader_init_17 (by decide) (by decide)
set_option maxHeartbeats 4000000 in
set_option maxRecDepth 100000 in
/-- Entities(store, reader): nine rows of zeros -/
theorem c_Entities_init (l : Launch) (D : va_G) (tI tB tZ tL : ClassId) (X : (Nat → Prop) → State → Prop) (hX : Ro X) (h0 h1 h2 qm : Nat) (room nm : Nat) (fs : List Value) (fm : Nat → Int32) (hrm : fs[0]? = some (.int (nI room))) (hmk : fs[15]? = some (.ref qm)) (h98 : room ≤ 98304) (h49 : nm ≤ 49216) : CtV l D tI tB tZ tL X y_Entities_init b_Entities_init 4 ({ frames := 1, cells := 9, slots := 147600, locals := 12 }) [.ref h0, .ref h1, .ref h2] [(h0, .inr (3, [.null, .null, .null, .null, .null, .int 0, .null, .null, .null, .null, .null, .null, .int 0, .int 0, .int 0, .int 0, .int 0])), (h1, .inr (1, fs)), (qm, .inl (tI, nm, .inl fm))] (S := Nat → Nat) (fun _ => True) (fun u => [(h0, .inr (3, [.ref h1, .ref h2, .ref (u 0), .ref (u 1), .ref (u 2), .int 0, .ref (u 7), .ref (u 8), .ref (u 3), .ref (u 4), .ref (u 5), .ref (u 6), .int 0, .int 0, .int 0, .int 0, .int 0])), (h1, .inr (1, fs)), (qm, .inl (tI, nm, .inl fm)), ((u 0), .inl (tI, (room / 14 + 2), .inl (fun _ => 0))), ((u 1), .inl (tI, (room / 14 + 2), .inl (fun _ => 0))), ((u 2), .inl (tZ, (room / 14 + 2), .inl (fun _ => 0))), ((u 3), .inl (tI, (room / 14 + 2), .inl (fun _ => 0))), ((u 4), .inl (tI, (room / 14 + 2), .inl (fun _ => 0))), ((u 5), .inl (tI, (room / 14 + 2), .inl (fun _ => 0))), ((u 6), .inl (tI, (room / 14 + 2), .inl (fun _ => 0))), ((u 7), .inl (tI, nm, .inl (fun _ => 0))), ((u 8), .inl (tI, nm, .inl (fun _ => 0)))]) := by
  refine CtV.start hX (by decide) (Nat.le_of_ble_eq_true rfl) ?_
  intro p e s m args below meth c A ls C hr hlk hin hW hl
  have hx := C.1.1
  have hb := C.1.2.1
  have hown := C.1.2.2.2.1
  have hT := C.1.2.2.2.2
  have hin : meth.name = "<init>" := hin
  have hl : lv_has ls 4 [(0, .ref h0), (1, .ref h1), (2, .ref h2)] := hl
  refine lv_aload_n hx hb d_Entities_init_0 rfl (lv_at hl 0 rfl) ?_
  refine r_objInit C hl.1 w_299 (by decide) (Nat.le_of_ble_eq_true rfl) d_Entities_init_1 ?_
  refine lv_aload_n hx hb d_Entities_init_4 rfl (lv_at hl 0 rfl) ?_
  refine lv_aload_n hx hb d_Entities_init_5 rfl (lv_at hl 1 rfl) ?_
  refine r_putF (v := .ref h1) (ty := .object "MarkupJudge$Store") C hW 0 rfl k_Entities i_Entities t_Entities o_Entities n_Entities 0 (by decide) w_300 rfl hin rfl (by decide +kernel) rfl rfl (Nat.le_of_ble_eq_true rfl) d_Entities_init_6 (fun H locs hW => ?_)
  have hW : Wd D A s [(h0, .inr (3, [.ref h1, .null, .null, .null, .null, .int 0, .null, .null, .null, .null, .null, .null, .int 0, .int 0, .int 0, .int 0, .int 0])), (h1, .inr (1, fs)), (qm, .inl (tI, nm, .inl fm))] H locs := hW
  refine lv_aload_n hx hb d_Entities_init_9 rfl (lv_at hl 0 rfl) ?_
  refine lv_aload_n hx hb d_Entities_init_10 rfl (lv_at hl 2 rfl) ?_
  refine r_putF (v := .ref h2) (ty := .object "MarkupJudge$Reader") C hW 0 rfl k_Entities i_Entities t_Entities o_Entities n_Entities 1 (by decide) w_301 rfl hin rfl (by decide +kernel) rfl rfl (Nat.le_of_ble_eq_true rfl) d_Entities_init_11 (fun H locs hW => ?_)
  have hW : Wd D A s [(h0, .inr (3, [.ref h1, .ref h2, .null, .null, .null, .int 0, .null, .null, .null, .null, .null, .null, .int 0, .int 0, .int 0, .int 0, .int 0])), (h1, .inr (1, fs)), (qm, .inl (tI, nm, .inl fm))] H locs := hW
  refine lv_aload_n hx hb d_Entities_init_14 rfl (lv_at hl 1 rfl) ?_
  refine r_get C hW 1 rfl k_Store i_Store 0 (by decide) hrm w_143 d_Entities_init_15 ?_
  refine lv_bipush (v := 14) hx hb d_Entities_init_18 (by decide) ?_
  refine lv_idiv hx hb d_Entities_init_20 (by decide) ?_
  refine lv_iconst (v := 2) hx hb d_Entities_init_21 (by decide) ?_
  refine lv_iadd hx hb d_Entities_init_22 ?_
  refine W.eq (congrArg (fun z : Int32 => F0 m 23 ls (.int z :: [])) (show (((nI room) / 14) + 2) = nI (room / 14 + 2) from (by rw [show (14 : Int32) = nI 14 from rfl, pk_div (by omega) (by decide) (by decide), show (2 : Int32) = nI 2 from rfl, nI_add]))) ?_
  refine lv_istore_n (lv' := [(3, .int (nI (room / 14 + 2))), (0, .ref h0), (1, .ref h1), (2, .ref h2)]) hx hb d_Entities_init_23 rfl hl (by decide) rfl (fun ls hl => ?_)
  refine lv_aload_n hx hb d_Entities_init_24 rfl (lv_at hl 1 rfl) ?_
  refine lv_iload_n hx hb d_Entities_init_25 rfl (lv_at hl 0 rfl) ?_
  refine r_newI C hW (room / 14 + 2) rfl (by omega) (K := 1) (M := 7024) rfl (by decide) (by omega) (by decide) d_Entities_init_26 (fun q26 H hW => ?_)
  have hW : Wd D A s [(h0, .inr (3, [.ref h1, .ref h2, .null, .null, .null, .int 0, .null, .null, .null, .null, .null, .null, .int 0, .int 0, .int 0, .int 0, .int 0])), (h1, .inr (1, fs)), (qm, .inl (tI, nm, .inl fm)), (q26, .inl (tI, (room / 14 + 2), .inl (fun _ => 0)))] H locs := hW
  refine r_putF (v := .ref q26) (ty := .array .int) C hW 0 rfl k_Entities i_Entities t_Entities o_Entities n_Entities 2 (by decide) w_302 rfl hin rfl (by decide +kernel) rfl rfl (Nat.le_of_ble_eq_true rfl) d_Entities_init_28 (fun H locs hW => ?_)
  have hW : Wd D A s [(h0, .inr (3, [.ref h1, .ref h2, .ref q26, .null, .null, .int 0, .null, .null, .null, .null, .null, .null, .int 0, .int 0, .int 0, .int 0, .int 0])), (h1, .inr (1, fs)), (qm, .inl (tI, nm, .inl fm)), (q26, .inl (tI, (room / 14 + 2), .inl (fun _ => 0)))] H locs := hW
  refine lv_aload_n hx hb d_Entities_init_31 rfl (lv_at hl 1 rfl) ?_
  refine lv_iload_n hx hb d_Entities_init_32 rfl (lv_at hl 0 rfl) ?_
  refine r_newI C hW (room / 14 + 2) rfl (by omega) (K := 2) (M := 14048) rfl (by decide) (by omega) (by decide) d_Entities_init_33 (fun q33 H hW => ?_)
  have hW : Wd D A s [(h0, .inr (3, [.ref h1, .ref h2, .ref q26, .null, .null, .int 0, .null, .null, .null, .null, .null, .null, .int 0, .int 0, .int 0, .int 0, .int 0])), (h1, .inr (1, fs)), (qm, .inl (tI, nm, .inl fm)), (q26, .inl (tI, (room / 14 + 2), .inl (fun _ => 0))), (q33, .inl (tI, (room / 14 + 2), .inl (fun _ => 0)))] H locs := hW
  refine r_putF (v := .ref q33) (ty := .array .int) C hW 0 rfl k_Entities i_Entities t_Entities o_Entities n_Entities 3 (by decide) w_303 rfl hin rfl (by decide +kernel) rfl rfl (Nat.le_of_ble_eq_true rfl) d_Entities_init_35 (fun H locs hW => ?_)
  have hW : Wd D A s [(h0, .inr (3, [.ref h1, .ref h2, .ref q26, .ref q33, .null, .int 0, .null, .null, .null, .null, .null, .null, .int 0, .int 0, .int 0, .int 0, .int 0])), (h1, .inr (1, fs)), (qm, .inl (tI, nm, .inl fm)), (q26, .inl (tI, (room / 14 + 2), .inl (fun _ => 0))), (q33, .inl (tI, (room / 14 + 2), .inl (fun _ => 0)))] H locs := hW
  refine lv_aload_n hx hb d_Entities_init_38 rfl (lv_at hl 1 rfl) ?_
  refine lv_iload_n hx hb d_Entities_init_39 rfl (lv_at hl 0 rfl) ?_
  refine r_newZ C hW (room / 14 + 2) rfl (by omega) (K := 3) (M := 21072) rfl (by decide) (by omega) (by decide) d_Entities_init_40 (fun q40 H hW => ?_)
  have hW : Wd D A s [(h0, .inr (3, [.ref h1, .ref h2, .ref q26, .ref q33, .null, .int 0, .null, .null, .null, .null, .null, .null, .int 0, .int 0, .int 0, .int 0, .int 0])), (h1, .inr (1, fs)), (qm, .inl (tI, nm, .inl fm)), (q26, .inl (tI, (room / 14 + 2), .inl (fun _ => 0))), (q33, .inl (tI, (room / 14 + 2), .inl (fun _ => 0))), (q40, .inl (tZ, (room / 14 + 2), .inl (fun _ => 0)))] H locs := hW
  refine r_putF (v := .ref q40) (ty := .array .boolean) C hW 0 rfl k_Entities i_Entities t_Entities o_Entities n_Entities 4 (by decide) w_304 rfl hin rfl (by decide +kernel) rfl rfl (Nat.le_of_ble_eq_true rfl) d_Entities_init_42 (fun H locs hW => ?_)
  have hW : Wd D A s [(h0, .inr (3, [.ref h1, .ref h2, .ref q26, .ref q33, .ref q40, .int 0, .null, .null, .null, .null, .null, .null, .int 0, .int 0, .int 0, .int 0, .int 0])), (h1, .inr (1, fs)), (qm, .inl (tI, nm, .inl fm)), (q26, .inl (tI, (room / 14 + 2), .inl (fun _ => 0))), (q33, .inl (tI, (room / 14 + 2), .inl (fun _ => 0))), (q40, .inl (tZ, (room / 14 + 2), .inl (fun _ => 0)))] H locs := hW
  refine lv_aload_n hx hb d_Entities_init_45 rfl (lv_at hl 1 rfl) ?_
  refine lv_iload_n hx hb d_Entities_init_46 rfl (lv_at hl 0 rfl) ?_
  refine r_newI C hW (room / 14 + 2) rfl (by omega) (K := 4) (M := 28096) rfl (by decide) (by omega) (by decide) d_Entities_init_47 (fun q47 H hW => ?_)
  have hW : Wd D A s [(h0, .inr (3, [.ref h1, .ref h2, .ref q26, .ref q33, .ref q40, .int 0, .null, .null, .null, .null, .null, .null, .int 0, .int 0, .int 0, .int 0, .int 0])), (h1, .inr (1, fs)), (qm, .inl (tI, nm, .inl fm)), (q26, .inl (tI, (room / 14 + 2), .inl (fun _ => 0))), (q33, .inl (tI, (room / 14 + 2), .inl (fun _ => 0))), (q40, .inl (tZ, (room / 14 + 2), .inl (fun _ => 0))), (q47, .inl (tI, (room / 14 + 2), .inl (fun _ => 0)))] H locs := hW
  refine r_putF (v := .ref q47) (ty := .array .int) C hW 0 rfl k_Entities i_Entities t_Entities o_Entities n_Entities 8 (by decide) w_308 rfl hin rfl (by decide +kernel) rfl rfl (Nat.le_of_ble_eq_true rfl) d_Entities_init_49 (fun H locs hW => ?_)
  have hW : Wd D A s [(h0, .inr (3, [.ref h1, .ref h2, .ref q26, .ref q33, .ref q40, .int 0, .null, .null, .ref q47, .null, .null, .null, .int 0, .int 0, .int 0, .int 0, .int 0])), (h1, .inr (1, fs)), (qm, .inl (tI, nm, .inl fm)), (q26, .inl (tI, (room / 14 + 2), .inl (fun _ => 0))), (q33, .inl (tI, (room / 14 + 2), .inl (fun _ => 0))), (q40, .inl (tZ, (room / 14 + 2), .inl (fun _ => 0))), (q47, .inl (tI, (room / 14 + 2), .inl (fun _ => 0)))] H locs := hW
  refine lv_aload_n hx hb d_Entities_init_52 rfl (lv_at hl 1 rfl) ?_
  refine lv_iload_n hx hb d_Entities_init_53 rfl (lv_at hl 0 rfl) ?_
  refine r_newI C hW (room / 14 + 2) rfl (by omega) (K := 5) (M := 35120) rfl (by decide) (by omega) (by decide) d_Entities_init_54 (fun q54 H hW => ?_)
  have hW : Wd D A s [(h0, .inr (3, [.ref h1, .ref h2, .ref q26, .ref q33, .ref q40, .int 0, .null, .null, .ref q47, .null, .null, .null, .int 0, .int 0, .int 0, .int 0, .int 0])), (h1, .inr (1, fs)), (qm, .inl (tI, nm, .inl fm)), (q26, .inl (tI, (room / 14 + 2), .inl (fun _ => 0))), (q33, .inl (tI, (room / 14 + 2), .inl (fun _ => 0))), (q40, .inl (tZ, (room / 14 + 2), .inl (fun _ => 0))), (q47, .inl (tI, (room / 14 + 2), .inl (fun _ => 0))), (q54, .inl (tI, (room / 14 + 2), .inl (fun _ => 0)))] H locs := hW
  refine r_putF (v := .ref q54) (ty := .array .int) C hW 0 rfl k_Entities i_Entities t_Entities o_Entities n_Entities 9 (by decide) w_309 rfl hin rfl (by decide +kernel) rfl rfl (Nat.le_of_ble_eq_true rfl) d_Entities_init_56 (fun H locs hW => ?_)
  have hW : Wd D A s [(h0, .inr (3, [.ref h1, .ref h2, .ref q26, .ref q33, .ref q40, .int 0, .null, .null, .ref q47, .ref q54, .null, .null, .int 0, .int 0, .int 0, .int 0, .int 0])), (h1, .inr (1, fs)), (qm, .inl (tI, nm, .inl fm)), (q26, .inl (tI, (room / 14 + 2), .inl (fun _ => 0))), (q33, .inl (tI, (room / 14 + 2), .inl (fun _ => 0))), (q40, .inl (tZ, (room / 14 + 2), .inl (fun _ => 0))), (q47, .inl (tI, (room / 14 + 2), .inl (fun _ => 0))), (q54, .inl (tI, (room / 14 + 2), .inl (fun _ => 0)))] H locs := hW
  refine lv_aload_n hx hb d_Entities_init_59 rfl (lv_at hl 1 rfl) ?_
  refine lv_iload_n hx hb d_Entities_init_60 rfl (lv_at hl 0 rfl) ?_
  refine r_newI C hW (room / 14 + 2) rfl (by omega) (K := 6) (M := 42144) rfl (by decide) (by omega) (by decide) d_Entities_init_61 (fun q61 H hW => ?_)
  have hW : Wd D A s [(h0, .inr (3, [.ref h1, .ref h2, .ref q26, .ref q33, .ref q40, .int 0, .null, .null, .ref q47, .ref q54, .null, .null, .int 0, .int 0, .int 0, .int 0, .int 0])), (h1, .inr (1, fs)), (qm, .inl (tI, nm, .inl fm)), (q26, .inl (tI, (room / 14 + 2), .inl (fun _ => 0))), (q33, .inl (tI, (room / 14 + 2), .inl (fun _ => 0))), (q40, .inl (tZ, (room / 14 + 2), .inl (fun _ => 0))), (q47, .inl (tI, (room / 14 + 2), .inl (fun _ => 0))), (q54, .inl (tI, (room / 14 + 2), .inl (fun _ => 0))), (q61, .inl (tI, (room / 14 + 2), .inl (fun _ => 0)))] H locs := hW
  refine r_putF (v := .ref q61) (ty := .array .int) C hW 0 rfl k_Entities i_Entities t_Entities o_Entities n_Entities 10 (by decide) w_310 rfl hin rfl (by decide +kernel) rfl rfl (Nat.le_of_ble_eq_true rfl) d_Entities_init_63 (fun H locs hW => ?_)
  have hW : Wd D A s [(h0, .inr (3, [.ref h1, .ref h2, .ref q26, .ref q33, .ref q40, .int 0, .null, .null, .ref q47, .ref q54, .ref q61, .null, .int 0, .int 0, .int 0, .int 0, .int 0])), (h1, .inr (1, fs)), (qm, .inl (tI, nm, .inl fm)), (q26, .inl (tI, (room / 14 + 2), .inl (fun _ => 0))), (q33, .inl (tI, (room / 14 + 2), .inl (fun _ => 0))), (q40, .inl (tZ, (room / 14 + 2), .inl (fun _ => 0))), (q47, .inl (tI, (room / 14 + 2), .inl (fun _ => 0))), (q54, .inl (tI, (room / 14 + 2), .inl (fun _ => 0))), (q61, .inl (tI, (room / 14 + 2), .inl (fun _ => 0)))] H locs := hW
  refine lv_aload_n hx hb d_Entities_init_66 rfl (lv_at hl 1 rfl) ?_
  refine lv_iload_n hx hb d_Entities_init_67 rfl (lv_at hl 0 rfl) ?_
  refine r_newI C hW (room / 14 + 2) rfl (by omega) (K := 7) (M := 49168) rfl (by decide) (by omega) (by decide) d_Entities_init_68 (fun q68 H hW => ?_)
  have hW : Wd D A s [(h0, .inr (3, [.ref h1, .ref h2, .ref q26, .ref q33, .ref q40, .int 0, .null, .null, .ref q47, .ref q54, .ref q61, .null, .int 0, .int 0, .int 0, .int 0, .int 0])), (h1, .inr (1, fs)), (qm, .inl (tI, nm, .inl fm)), (q26, .inl (tI, (room / 14 + 2), .inl (fun _ => 0))), (q33, .inl (tI, (room / 14 + 2), .inl (fun _ => 0))), (q40, .inl (tZ, (room / 14 + 2), .inl (fun _ => 0))), (q47, .inl (tI, (room / 14 + 2), .inl (fun _ => 0))), (q54, .inl (tI, (room / 14 + 2), .inl (fun _ => 0))), (q61, .inl (tI, (room / 14 + 2), .inl (fun _ => 0))), (q68, .inl (tI, (room / 14 + 2), .inl (fun _ => 0)))] H locs := hW
  refine r_putF (v := .ref q68) (ty := .array .int) C hW 0 rfl k_Entities i_Entities t_Entities o_Entities n_Entities 11 (by decide) w_311 rfl hin rfl (by decide +kernel) rfl rfl (Nat.le_of_ble_eq_true rfl) d_Entities_init_70 (fun H locs hW => ?_)
  have hW : Wd D A s [(h0, .inr (3, [.ref h1, .ref h2, .ref q26, .ref q33, .ref q40, .int 0, .null, .null, .ref q47, .ref q54, .ref q61, .ref q68, .int 0, .int 0, .int 0, .int 0, .int 0])), (h1, .inr (1, fs)), (qm, .inl (tI, nm, .inl fm)), (q26, .inl (tI, (room / 14 + 2), .inl (fun _ => 0))), (q33, .inl (tI, (room / 14 + 2), .inl (fun _ => 0))), (q40, .inl (tZ, (room / 14 + 2), .inl (fun _ => 0))), (q47, .inl (tI, (room / 14 + 2), .inl (fun _ => 0))), (q54, .inl (tI, (room / 14 + 2), .inl (fun _ => 0))), (q61, .inl (tI, (room / 14 + 2), .inl (fun _ => 0))), (q68, .inl (tI, (room / 14 + 2), .inl (fun _ => 0)))] H locs := hW
  refine lv_aload_n hx hb d_Entities_init_73 rfl (lv_at hl 1 rfl) ?_
  refine lv_aload_n hx hb d_Entities_init_74 rfl (lv_at hl 2 rfl) ?_
  refine r_get C hW 1 rfl k_Store i_Store 15 (by decide) hmk w_183 d_Entities_init_75 ?_
  refine r_len C hW 2 0 rfl rfl d_Entities_init_78 ?_
  refine r_newI C hW nm rfl (by omega) (K := 8) (M := 98384) rfl (by decide) (by omega) (by decide) d_Entities_init_79 (fun q79 H hW => ?_)
  have hW : Wd D A s [(h0, .inr (3, [.ref h1, .ref h2, .ref q26, .ref q33, .ref q40, .int 0, .null, .null, .ref q47, .ref q54, .ref q61, .ref q68, .int 0, .int 0, .int 0, .int 0, .int 0])), (h1, .inr (1, fs)), (qm, .inl (tI, nm, .inl fm)), (q26, .inl (tI, (room / 14 + 2), .inl (fun _ => 0))), (q33, .inl (tI, (room / 14 + 2), .inl (fun _ => 0))), (q40, .inl (tZ, (room / 14 + 2), .inl (fun _ => 0))), (q47, .inl (tI, (room / 14 + 2), .inl (fun _ => 0))), (q54, .inl (tI, (room / 14 + 2), .inl (fun _ => 0))), (q61, .inl (tI, (room / 14 + 2), .inl (fun _ => 0))), (q68, .inl (tI, (room / 14 + 2), .inl (fun _ => 0))), (q79, .inl (tI, nm, .inl (fun _ => 0)))] H locs := hW
  refine r_putF (v := .ref q79) (ty := .array .int) C hW 0 rfl k_Entities i_Entities t_Entities o_Entities n_Entities 6 (by decide) w_306 rfl hin rfl (by decide +kernel) rfl rfl (Nat.le_of_ble_eq_true rfl) d_Entities_init_81 (fun H locs hW => ?_)
  have hW : Wd D A s [(h0, .inr (3, [.ref h1, .ref h2, .ref q26, .ref q33, .ref q40, .int 0, .ref q79, .null, .ref q47, .ref q54, .ref q61, .ref q68, .int 0, .int 0, .int 0, .int 0, .int 0])), (h1, .inr (1, fs)), (qm, .inl (tI, nm, .inl fm)), (q26, .inl (tI, (room / 14 + 2), .inl (fun _ => 0))), (q33, .inl (tI, (room / 14 + 2), .inl (fun _ => 0))), (q40, .inl (tZ, (room / 14 + 2), .inl (fun _ => 0))), (q47, .inl (tI, (room / 14 + 2), .inl (fun _ => 0))), (q54, .inl (tI, (room / 14 + 2), .inl (fun _ => 0))), (q61, .inl (tI, (room / 14 + 2), .inl (fun _ => 0))), (q68, .inl (tI, (room / 14 + 2), .inl (fun _ => 0))), (q79, .inl (tI, nm, .inl (fun _ => 0)))] H locs := hW
  refine lv_aload_n hx hb d_Entities_init_84 rfl (lv_at hl 1 rfl) ?_
  refine lv_aload_n hx hb d_Entities_init_85 rfl (lv_at hl 2 rfl) ?_
  refine r_get C hW 1 rfl k_Store i_Store 15 (by decide) hmk w_183 d_Entities_init_86 ?_
  refine r_len C hW 2 0 rfl rfl d_Entities_init_89 ?_
  refine r_newI C hW nm rfl (by omega) (K := 9) (M := 147600) rfl (by decide) (by omega) (by decide) d_Entities_init_90 (fun q90 H hW => ?_)
  have hW : Wd D A s [(h0, .inr (3, [.ref h1, .ref h2, .ref q26, .ref q33, .ref q40, .int 0, .ref q79, .null, .ref q47, .ref q54, .ref q61, .ref q68, .int 0, .int 0, .int 0, .int 0, .int 0])), (h1, .inr (1, fs)), (qm, .inl (tI, nm, .inl fm)), (q26, .inl (tI, (room / 14 + 2), .inl (fun _ => 0))), (q33, .inl (tI, (room / 14 + 2), .inl (fun _ => 0))), (q40, .inl (tZ, (room / 14 + 2), .inl (fun _ => 0))), (q47, .inl (tI, (room / 14 + 2), .inl (fun _ => 0))), (q54, .inl (tI, (room / 14 + 2), .inl (fun _ => 0))), (q61, .inl (tI, (room / 14 + 2), .inl (fun _ => 0))), (q68, .inl (tI, (room / 14 + 2), .inl (fun _ => 0))), (q79, .inl (tI, nm, .inl (fun _ => 0))), (q90, .inl (tI, nm, .inl (fun _ => 0)))] H locs := hW
  refine r_putF (v := .ref q90) (ty := .array .int) C hW 0 rfl k_Entities i_Entities t_Entities o_Entities n_Entities 7 (by decide) w_307 rfl hin rfl (by decide +kernel) rfl rfl (Nat.le_of_ble_eq_true rfl) d_Entities_init_92 (fun H locs hW => ?_)
  have hW : Wd D A s [(h0, .inr (3, [.ref h1, .ref h2, .ref q26, .ref q33, .ref q40, .int 0, .ref q79, .ref q90, .ref q47, .ref q54, .ref q61, .ref q68, .int 0, .int 0, .int 0, .int 0, .int 0])), (h1, .inr (1, fs)), (qm, .inl (tI, nm, .inl fm)), (q26, .inl (tI, (room / 14 + 2), .inl (fun _ => 0))), (q33, .inl (tI, (room / 14 + 2), .inl (fun _ => 0))), (q40, .inl (tZ, (room / 14 + 2), .inl (fun _ => 0))), (q47, .inl (tI, (room / 14 + 2), .inl (fun _ => 0))), (q54, .inl (tI, (room / 14 + 2), .inl (fun _ => 0))), (q61, .inl (tI, (room / 14 + 2), .inl (fun _ => 0))), (q68, .inl (tI, (room / 14 + 2), .inl (fun _ => 0))), (q79, .inl (tI, nm, .inl (fun _ => 0))), (q90, .inl (tI, nm, .inl (fun _ => 0)))] H locs := hW
  exact r_vret C hr hlk hW (fun k => [q26, q33, q40, q47, q54, q61, q68, q79, q90].getD k 0) trivial [0, 1, 2, 3, 4, 5, 6, 7, 8, 9, 10, 11] (by decide) rfl d_Entities_init_95 (by decide) (by decide)
