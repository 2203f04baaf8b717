def y_J_end : MethodName := ⟨"MarkupJudge", "end", "(I)I"⟩
abbrev b_J_end : ByteArray := prog_1_method_4_code
def y_J_feed : MethodName := ⟨"MarkupJudge", "feed", "(IIIII)V"⟩
abbrev b_J_feed : ByteArray := prog_1_method_2_code
def y_J_take : MethodName := ⟨"MarkupJudge", "take", "(I)V"⟩
abbrev b_J_take : ByteArray := prog_1_method_3_code
def y_K_end : MethodName := ⟨"MarkupJudgeModel", "end", "(I)I"⟩
abbrev b_K_end : ByteArray := prog_14_method_13_code
def y_K_feed : MethodName := ⟨"MarkupJudgeModel", "feed", "(IIIII)V"⟩
abbrev b_K_feed : ByteArray := prog_14_method_12_code
def y_K_take : MethodName := ⟨"MarkupJudgeModel", "take", "(I)V"⟩
abbrev b_K_take : ByteArray := prog_14_method_11_code
theorem w_2050 : (Jvm.Cond.constant "MarkupJudge" (113 : Nat) (65516 : Int32)) ∈ lwG := s_9 (List.mem_of_getElem? (i := 130) rfl) rfl
theorem w_2067 : (Jvm.Cond.methodLink "MarkupJudge" (121 : Nat) ({ cls := "MarkupJudge", name := "take", desc := "(I)V" } : Jvm.MethodName)) ∈ lwG := s_9 (List.mem_of_getElem? (i := 147) rfl) rfl
theorem w_2610 : (Jvm.Cond.methodLink "MarkupJudgeModel" (94 : Nat) ({ cls := "MarkupJudgeModel", name := "take", desc := "(I)V" } : Jvm.MethodName)) ∈ lwG := s_11 (List.mem_of_getElem? (i := 210) rfl) rfl
theorem ok_J_take : okV y_J_take b_J_take 3 none 1 := ⟨s_9 (List.mem_of_getElem? (i := 150) rfl) rfl, s_9 (List.mem_of_getElem? (i := 149) rfl) rfl, List.mem_filter.mpr ⟨List.mem_append_left _ (List.mem_map.mpr ⟨(y_J_take, 15), List.mem_of_getElem? (i := 76) rfl, rfl⟩), rfl⟩, s_1 (List.mem_of_getElem? (i := 1) rfl) rfl, ⟨by decide +kernel, by decide +kernel, by decide +kernel⟩⟩
theorem ok_K_take : okV y_K_take b_K_take 3 none 1 := ⟨s_11 (List.mem_of_getElem? (i := 213) rfl) rfl, s_11 (List.mem_of_getElem? (i := 212) rfl) rfl, List.mem_filter.mpr ⟨List.mem_append_left _ (List.mem_map.mpr ⟨(y_K_take, 14), List.mem_of_getElem? (i := 77) rfl, rfl⟩), rfl⟩, s_1 (List.mem_of_getElem? (i := 19) rfl) rfl, ⟨by decide +kernel, by decide +kernel, by decide +kernel⟩⟩
theorem d_J_end_0 : decode b_J_end 0 = .ok (.iload_n 1, 1) := by decide +kernel
theorem d_J_end_1 : decode b_J_end 1 = .ok (.ifCond .lt 11, 3) := by decide +kernel
theorem d_J_end_4 : decode b_J_end 4 = .ok (.iload_n 1, 1) := by decide +kernel
theorem d_J_end_5 : decode b_J_end 5 = .ok (.aload_n 0, 1) := by decide +kernel
theorem d_J_end_6 : decode b_J_end 6 = .ok (.getfield 110, 3) := by decide +kernel
theorem d_J_end_9 : decode b_J_end 9 = .ok (.if_icmp .le 13, 3) := by decide +kernel
theorem d_J_end_22 : decode b_J_end 22 = .ok (.aload_n 0, 1) := by decide +kernel
theorem d_J_end_23 : decode b_J_end 23 = .ok (.getfield 110, 3) := by decide +kernel
theorem d_J_end_26 : decode b_J_end 26 = .ok (.istore_n 2, 1) := by decide +kernel
theorem d_J_end_27 : decode b_J_end 27 = .ok (.aload_n 0, 1) := by decide +kernel
theorem d_J_end_28 : decode b_J_end 28 = .ok (.iload_n 1, 1) := by decide +kernel
theorem d_J_end_29 : decode b_J_end 29 = .ok (.putfield 110, 3) := by decide +kernel
theorem d_J_end_32 : decode b_J_end 32 = .ok (.iload_n 2, 1) := by decide +kernel
theorem d_J_end_33 : decode b_J_end 33 = .ok (.ireturn, 1) := by decide +kernel
theorem d_J_feed_0 : decode b_J_feed 0 = .ok (.aload_n 0, 1) := by decide +kernel
theorem d_J_feed_1 : decode b_J_feed 1 = .ok (.getfield 110, 3) := by decide +kernel
theorem d_J_feed_4 : decode b_J_feed 4 = .ok (.ldc 113, 2) := by decide +kernel
theorem d_J_feed_6 : decode b_J_feed 6 = .ok (.if_icmp .le 13, 3) := by decide +kernel
theorem d_J_feed_19 : decode b_J_feed 19 = .ok (.aload_n 0, 1) := by decide +kernel
theorem d_J_feed_20 : decode b_J_feed 20 = .ok (.iload_n 1, 1) := by decide +kernel
theorem d_J_feed_21 : decode b_J_feed 21 = .ok (.invokevirtual 121, 3) := by decide +kernel
theorem d_J_feed_24 : decode b_J_feed 24 = .ok (.aload_n 0, 1) := by decide +kernel
theorem d_J_feed_25 : decode b_J_feed 25 = .ok (.iload_n 2, 1) := by decide +kernel
theorem d_J_feed_26 : decode b_J_feed 26 = .ok (.invokevirtual 121, 3) := by decide +kernel
theorem d_J_feed_29 : decode b_J_feed 29 = .ok (.aload_n 0, 1) := by decide +kernel
theorem d_J_feed_30 : decode b_J_feed 30 = .ok (.iload_n 3, 1) := by decide +kernel
theorem d_J_feed_31 : decode b_J_feed 31 = .ok (.invokevirtual 121, 3) := by decide +kernel
theorem d_J_feed_34 : decode b_J_feed 34 = .ok (.aload_n 0, 1) := by decide +kernel
theorem d_J_feed_35 : decode b_J_feed 35 = .ok (.iload 4, 2) := by decide +kernel
theorem d_J_feed_37 : decode b_J_feed 37 = .ok (.invokevirtual 121, 3) := by decide +kernel
theorem d_J_feed_40 : decode b_J_feed 40 = .ok (.aload_n 0, 1) := by decide +kernel
theorem d_J_feed_41 : decode b_J_feed 41 = .ok (.iload 5, 2) := by decide +kernel
theorem d_J_feed_43 : decode b_J_feed 43 = .ok (.invokevirtual 121, 3) := by decide +kernel
theorem d_J_feed_46 : decode b_J_feed 46 = .ok (.return_, 1) := by decide +kernel
theorem d_J_take_0 : decode b_J_take 0 = .ok (.bipush 24, 2) := by decide +kernel
theorem d_J_take_2 : decode b_J_take 2 = .ok (.istore_n 2, 1) := by decide +kernel
theorem d_J_take_3 : decode b_J_take 3 = .ok (.iload_n 2, 1) := by decide +kernel
theorem d_J_take_4 : decode b_J_take 4 = .ok (.ifCond .lt 41, 3) := by decide +kernel
theorem d_J_take_7 : decode b_J_take 7 = .ok (.aload_n 0, 1) := by decide +kernel
theorem d_J_take_8 : decode b_J_take 8 = .ok (.getfield 110, 3) := by decide +kernel
theorem d_J_take_11 : decode b_J_take 11 = .ok (.ldc 10, 2) := by decide +kernel
theorem d_J_take_13 : decode b_J_take 13 = .ok (.if_icmp .ge 32, 3) := by decide +kernel
theorem d_J_take_16 : decode b_J_take 16 = .ok (.aload_n 0, 1) := by decide +kernel
theorem d_J_take_17 : decode b_J_take 17 = .ok (.getfield 11, 3) := by decide +kernel
theorem d_J_take_20 : decode b_J_take 20 = .ok (.aload_n 0, 1) := by decide +kernel
theorem d_J_take_21 : decode b_J_take 21 = .ok (.getfield 110, 3) := by decide +kernel
theorem d_J_take_24 : decode b_J_take 24 = .ok (.iload_n 1, 1) := by decide +kernel
theorem d_J_take_25 : decode b_J_take 25 = .ok (.iload_n 2, 1) := by decide +kernel
theorem d_J_take_26 : decode b_J_take 26 = .ok (.iushr, 1) := by decide +kernel
theorem d_J_take_27 : decode b_J_take 27 = .ok (.i2b, 1) := by decide +kernel
theorem d_J_take_28 : decode b_J_take 28 = .ok (.bastore, 1) := by decide +kernel
theorem d_J_take_29 : decode b_J_take 29 = .ok (.aload_n 0, 1) := by decide +kernel
theorem d_J_take_30 : decode b_J_take 30 = .ok (.dup, 1) := by decide +kernel
theorem d_J_take_31 : decode b_J_take 31 = .ok (.getfield 110, 3) := by decide +kernel
theorem d_J_take_34 : decode b_J_take 34 = .ok (.iconst 1, 1) := by decide +kernel
theorem d_J_take_35 : decode b_J_take 35 = .ok (.iadd, 1) := by decide +kernel
theorem d_J_take_36 : decode b_J_take 36 = .ok (.putfield 110, 3) := by decide +kernel
theorem d_J_take_39 : decode b_J_take 39 = .ok (.iinc 2 (-8), 3) := by decide +kernel
theorem d_J_take_42 : decode b_J_take 42 = .ok (.goto (-39), 3) := by decide +kernel
theorem d_J_take_45 : decode b_J_take 45 = .ok (.return_, 1) := by decide +kernel
theorem d_K_end_0 : decode b_K_end 0 = .ok (.aload_n 0, 1) := by decide +kernel
theorem d_K_end_1 : decode b_K_end 1 = .ok (.iload_n 1, 1) := by decide +kernel
theorem d_K_end_2 : decode b_K_end 2 = .ok (.ifCond .lt 11, 3) := by decide +kernel
theorem d_K_end_5 : decode b_K_end 5 = .ok (.iload_n 1, 1) := by decide +kernel
theorem d_K_end_6 : decode b_K_end 6 = .ok (.aload_n 0, 1) := by decide +kernel
theorem d_K_end_7 : decode b_K_end 7 = .ok (.getfield 91, 3) := by decide +kernel
theorem d_K_end_10 : decode b_K_end 10 = .ok (.if_icmp .le 7, 3) := by decide +kernel
theorem d_K_end_13 : decode b_K_end 13 = .ok (.iconst 1, 1) := by decide +kernel
theorem d_K_end_14 : decode b_K_end 14 = .ok (.goto 4, 3) := by decide +kernel
theorem d_K_end_17 : decode b_K_end 17 = .ok (.iconst 0, 1) := by decide +kernel
theorem d_K_end_18 : decode b_K_end 18 = .ok (.putfield 88, 3) := by decide +kernel
theorem d_K_end_21 : decode b_K_end 21 = .ok (.aload_n 0, 1) := by decide +kernel
theorem d_K_end_22 : decode b_K_end 22 = .ok (.getfield 88, 3) := by decide +kernel
theorem d_K_end_25 : decode b_K_end 25 = .ok (.ifCond .le 5, 3) := by decide +kernel
theorem d_K_end_28 : decode b_K_end 28 = .ok (.iconst 0, 1) := by decide +kernel
theorem d_K_end_29 : decode b_K_end 29 = .ok (.ireturn, 1) := by decide +kernel
theorem d_K_end_30 : decode b_K_end 30 = .ok (.aload_n 0, 1) := by decide +kernel
theorem d_K_end_31 : decode b_K_end 31 = .ok (.getfield 91, 3) := by decide +kernel
theorem d_K_end_34 : decode b_K_end 34 = .ok (.istore_n 2, 1) := by decide +kernel
theorem d_K_end_35 : decode b_K_end 35 = .ok (.aload_n 0, 1) := by decide +kernel
theorem d_K_end_36 : decode b_K_end 36 = .ok (.iload_n 1, 1) := by decide +kernel
theorem d_K_end_37 : decode b_K_end 37 = .ok (.putfield 91, 3) := by decide +kernel
theorem d_K_end_40 : decode b_K_end 40 = .ok (.iload_n 2, 1) := by decide +kernel
theorem d_K_end_41 : decode b_K_end 41 = .ok (.ireturn, 1) := by decide +kernel
theorem d_K_feed_0 : decode b_K_feed 0 = .ok (.aload_n 0, 1) := by decide +kernel
theorem d_K_feed_1 : decode b_K_feed 1 = .ok (.aload_n 0, 1) := by decide +kernel
theorem d_K_feed_2 : decode b_K_feed 2 = .ok (.getfield 91, 3) := by decide +kernel
theorem d_K_feed_5 : decode b_K_feed 5 = .ok (.bipush 20, 2) := by decide +kernel
theorem d_K_feed_7 : decode b_K_feed 7 = .ok (.iadd, 1) := by decide +kernel
theorem d_K_feed_8 : decode b_K_feed 8 = .ok (.ldc 10, 2) := by decide +kernel
theorem d_K_feed_10 : decode b_K_feed 10 = .ok (.if_icmp .le 7, 3) := by decide +kernel
theorem d_K_feed_17 : decode b_K_feed 17 = .ok (.iconst 0, 1) := by decide +kernel
theorem d_K_feed_18 : decode b_K_feed 18 = .ok (.putfield 88, 3) := by decide +kernel
theorem d_K_feed_21 : decode b_K_feed 21 = .ok (.aload_n 0, 1) := by decide +kernel
theorem d_K_feed_22 : decode b_K_feed 22 = .ok (.getfield 88, 3) := by decide +kernel
theorem d_K_feed_25 : decode b_K_feed 25 = .ok (.ifCond .ne 30, 3) := by decide +kernel
theorem d_K_feed_28 : decode b_K_feed 28 = .ok (.aload_n 0, 1) := by decide +kernel
theorem d_K_feed_29 : decode b_K_feed 29 = .ok (.iload_n 1, 1) := by decide +kernel
theorem d_K_feed_30 : decode b_K_feed 30 = .ok (.invokevirtual 94, 3) := by decide +kernel
theorem d_K_feed_33 : decode b_K_feed 33 = .ok (.aload_n 0, 1) := by decide +kernel
theorem d_K_feed_34 : decode b_K_feed 34 = .ok (.iload_n 2, 1) := by decide +kernel
theorem d_K_feed_35 : decode b_K_feed 35 = .ok (.invokevirtual 94, 3) := by decide +kernel
theorem d_K_feed_38 : decode b_K_feed 38 = .ok (.aload_n 0, 1) := by decide +kernel
theorem d_K_feed_39 : decode b_K_feed 39 = .ok (.iload_n 3, 1) := by decide +kernel
theorem d_K_feed_40 : decode b_K_feed 40 = .ok (.invokevirtual 94, 3) := by decide +kernel
theorem d_K_feed_43 : decode b_K_feed 43 = .ok (.aload_n 0, 1) := by decide +kernel
theorem d_K_feed_44 : decode b_K_feed 44 = .ok (.iload 4, 2) := by decide +kernel
theorem d_K_feed_46 : decode b_K_feed 46 = .ok (.invokevirtual 94, 3) := by decide +kernel
theorem d_K_feed_49 : decode b_K_feed 49 = .ok (.aload_n 0, 1) := by decide +kernel
theorem d_K_feed_50 : decode b_K_feed 50 = .ok (.iload 5, 2) := by decide +kernel
theorem d_K_feed_52 : decode b_K_feed 52 = .ok (.invokevirtual 94, 3) := by decide +kernel
theorem d_K_feed_55 : decode b_K_feed 55 = .ok (.return_, 1) := by decide +kernel
theorem d_K_take_0 : decode b_K_take 0 = .ok (.bipush 24, 2) := by decide +kernel
theorem d_K_take_2 : decode b_K_take 2 = .ok (.istore_n 2, 1) := by decide +kernel
theorem d_K_take_3 : decode b_K_take 3 = .ok (.iload_n 2, 1) := by decide +kernel
theorem d_K_take_4 : decode b_K_take 4 = .ok (.ifCond .lt 32, 3) := by decide +kernel
theorem d_K_take_7 : decode b_K_take 7 = .ok (.aload_n 0, 1) := by decide +kernel
theorem d_K_take_8 : decode b_K_take 8 = .ok (.getfield 26, 3) := by decide +kernel
theorem d_K_take_11 : decode b_K_take 11 = .ok (.aload_n 0, 1) := by decide +kernel
theorem d_K_take_12 : decode b_K_take 12 = .ok (.getfield 91, 3) := by decide +kernel
theorem d_K_take_15 : decode b_K_take 15 = .ok (.iload_n 1, 1) := by decide +kernel
theorem d_K_take_16 : decode b_K_take 16 = .ok (.iload_n 2, 1) := by decide +kernel
theorem d_K_take_17 : decode b_K_take 17 = .ok (.ishr, 1) := by decide +kernel
theorem d_K_take_18 : decode b_K_take 18 = .ok (.i2b, 1) := by decide +kernel
theorem d_K_take_19 : decode b_K_take 19 = .ok (.bastore, 1) := by decide +kernel
theorem d_K_take_20 : decode b_K_take 20 = .ok (.aload_n 0, 1) := by decide +kernel
theorem d_K_take_21 : decode b_K_take 21 = .ok (.dup, 1) := by decide +kernel
theorem d_K_take_22 : decode b_K_take 22 = .ok (.getfield 91, 3) := by decide +kernel
theorem d_K_take_25 : decode b_K_take 25 = .ok (.iconst 1, 1) := by decide +kernel
theorem d_K_take_26 : decode b_K_take 26 = .ok (.iadd, 1) := by decide +kernel
theorem d_K_take_27 : decode b_K_take 27 = .ok (.putfield 91, 3) := by decide +kernel
theorem d_K_take_30 : decode b_K_take 30 = .ok (.iinc 2 (-8), 3) := by decide +kernel
theorem d_K_take_33 : decode b_K_take 33 = .ok (.goto (-30), 3) := by decide +kernel
theorem d_K_take_36 : decode b_K_take 36 = .ok (.return_, 1) := by decide +kernel
set_option maxHeartbeats 4000000 in
set_option maxRecDepth 100000 in
/-- take(v): four bytes more -/
theorem c_J_take (l : Launch) (D : va_G) (tI tB tZ tL : ClassId) (X : (Nat → Prop) → State → Prop) (hX : Ro X) (aJ j_bytes aS aR aE aD aO aT aC aV aM aW : Nat) (ja jf jp : Int32) (k : Nat) (f : Nat → Int32) (v : Int32) (hk : k + 4 ≤ 65536) : CtV l D tI tB tZ tL X y_J_take b_J_take 3 ({ frames := 0, cells := 0, slots := 0, locals := 0 }) [.ref aJ, .int v] [(aJ, .inr (0, [.ref j_bytes, .int (nI k), .ref aS, .ref aR, .ref aE, .ref aD, .ref aO, .ref aT, .ref aC, .ref aV, .ref aM, .ref aW, .int ja, .int jf, .int jp])), (j_bytes, .inl (tB, 65536, .inl f))] (S := Nat → Int32) (fun _ => True) (fun g => [(aJ, .inr (0, [.ref j_bytes, .int (nI (k + 1 + 1 + 1 + 1)), .ref aS, .ref aR, .ref aE, .ref aD, .ref aO, .ref aT, .ref aC, .ref aV, .ref aM, .ref aW, .int ja, .int jf, .int jp])), (j_bytes, .inl (tB, 65536, .inl g))]) := by
  refine CtV.start hX (by decide) (Nat.le_of_ble_eq_true rfl) ?_
  intro p e s m args below meth c A ls C hr hlk hin hW hl
  refine W.nameQ (fun Q hQ => ?_)
  have hx := C.1.1
  have hb := C.1.2.1
  have hown := C.1.2.2.2.1
  have hT := C.1.2.2.2.2
  have hl : lv_has ls 3 [(0, .ref aJ), (1, .int v)] := hl
  refine lv_bipush (v := 24) hx hb d_J_take_0 (by decide) ?_
  refine lv_istore_n (lv' := [(2, .int 24), (0, .ref aJ), (1, .int v)]) hx hb d_J_take_2 rfl hl (by decide) rfl (fun ls hl => ?_)
  refine lv_iload_n hx hb d_J_take_3 rfl (lv_at hl 0 rfl) ?_
  refine lv_if_lt (tgt := 45) hx hb d_J_take_4 (by decide) (fun c_4 => absurd c_4 (by decide)) (fun c_4 => ?_)
  refine lv_aload_n hx hb d_J_take_7 rfl (lv_at hl 1 rfl) ?_
  refine r_get C hW 0 rfl k_J i_J 1 (by decide) rfl w_787 d_J_take_8 ?_
  refine lv_ldc (v := 65536) hx hb hown (hT _ w_44) d_J_take_11 ?_
  refine lv_icmp_ge (tgt := 45) hx hb d_J_take_13 (by decide) (fun c_13 => absurd c_13 (nI_ge (a := k) (b := 65536) (by omega) (by decide))) (fun c_13 => ?_)
  refine lv_aload_n hx hb d_J_take_16 rfl (lv_at hl 1 rfl) ?_
  refine r_get C hW 0 rfl k_J i_J 0 (by decide) rfl w_786 d_J_take_17 ?_
  refine lv_aload_n hx hb d_J_take_20 rfl (lv_at hl 1 rfl) ?_
  refine r_get C hW 0 rfl k_J i_J 1 (by decide) rfl w_787 d_J_take_21 ?_
  refine lv_iload_n hx hb d_J_take_24 rfl (lv_at hl 2 rfl) ?_
  refine lv_iload_n hx hb d_J_take_25 rfl (lv_at hl 0 rfl) ?_
  refine lv_iushr hx hb d_J_take_26 rfl ?_
  refine lv_i2b hx hb d_J_take_27 rfl ?_
  refine r_stB C hW 1 rfl k rfl (by omega) (by decide) d_J_take_28 (fun H locs hW => ?_)
  have hW : Wd D A s [(aJ, .inr (0, [.ref j_bytes, .int (nI k), .ref aS, .ref aR, .ref aE, .ref aD, .ref aO, .ref aT, .ref aC, .ref aV, .ref aM, .ref aW, .int ja, .int jf, .int jp])), (j_bytes, .inl (tB, 65536, .inl (upd f k (vp_nar .byte (((v.toUInt32 >>> ((24 : Int32).toUInt32 &&& Int32.toUInt32 31)).toInt32).toInt8.toInt32)))))] H _ := hW
  refine lv_aload_n hx hb d_J_take_29 rfl (lv_at hl 1 rfl) ?_
  refine lv_dup hx hb d_J_take_30 rfl ?_
  refine r_get C hW 0 rfl k_J i_J 1 (by decide) rfl w_787 d_J_take_31 ?_
  refine lv_iconst (v := 1) hx hb d_J_take_34 (by decide) ?_
  refine lv_iadd hx hb d_J_take_35 ?_
  refine W.eq (congrArg (fun z : Int32 => F0 m 36 ls (.int z :: [.ref aJ])) (show ((nI k) + 1) = nI (k + 1) from (nI_1 _))) ?_
  refine r_put (v := .int (nI (k + 1))) (ty := .int) C hW 0 rfl k_J i_J t_J o_J n_J 1 (by decide) w_787 rfl (by decide +kernel) rfl rfl (Nat.le_of_ble_eq_true rfl) d_J_take_36 (fun H locs hW => ?_)
  have hW : Wd D A s [(aJ, .inr (0, [.ref j_bytes, .int (nI (k + 1)), .ref aS, .ref aR, .ref aE, .ref aD, .ref aO, .ref aT, .ref aC, .ref aV, .ref aM, .ref aW, .int ja, .int jf, .int jp])), (j_bytes, .inl (tB, 65536, .inl (upd f k (vp_nar .byte (((v.toUInt32 >>> ((24 : Int32).toUInt32 &&& Int32.toUInt32 31)).toInt32).toInt8.toInt32)))))] H _ := hW
  refine lv_iinc (v := 16) (lv' := [(2, .int 16), (0, .ref aJ), (1, .int v)]) hx hb d_J_take_39 hl (k := 0) rfl (by decide) (by decide) rfl (fun ls hl => ?_)
  refine lv_goto (tgt := 3) hx hb d_J_take_42 (by decide) ?_
  refine lv_iload_n hx hb d_J_take_3 rfl (lv_at hl 0 rfl) ?_
  refine lv_if_lt (tgt := 45) hx hb d_J_take_4 (by decide) (fun c_4 => absurd c_4 (by decide)) (fun c_4 => ?_)
  refine lv_aload_n hx hb d_J_take_7 rfl (lv_at hl 1 rfl) ?_
  refine r_get C hW 0 rfl k_J i_J 1 (by decide) rfl w_787 d_J_take_8 ?_
  refine lv_ldc (v := 65536) hx hb hown (hT _ w_44) d_J_take_11 ?_
  refine lv_icmp_ge (tgt := 45) hx hb d_J_take_13 (by decide) (fun c_13 => absurd c_13 (nI_ge (a := k + 1) (b := 65536) (by omega) (by decide))) (fun c_13 => ?_)
  refine lv_aload_n hx hb d_J_take_16 rfl (lv_at hl 1 rfl) ?_
  refine r_get C hW 0 rfl k_J i_J 0 (by decide) rfl w_786 d_J_take_17 ?_
  refine lv_aload_n hx hb d_J_take_20 rfl (lv_at hl 1 rfl) ?_
  refine r_get C hW 0 rfl k_J i_J 1 (by decide) rfl w_787 d_J_take_21 ?_
  refine lv_iload_n hx hb d_J_take_24 rfl (lv_at hl 2 rfl) ?_
  refine lv_iload_n hx hb d_J_take_25 rfl (lv_at hl 0 rfl) ?_
  refine lv_iushr hx hb d_J_take_26 rfl ?_
  refine lv_i2b hx hb d_J_take_27 rfl ?_
  refine r_stB C hW 1 rfl (k + 1) rfl (by omega) (by decide) d_J_take_28 (fun H locs hW => ?_)
  have hW : Wd D A s [(aJ, .inr (0, [.ref j_bytes, .int (nI (k + 1)), .ref aS, .ref aR, .ref aE, .ref aD, .ref aO, .ref aT, .ref aC, .ref aV, .ref aM, .ref aW, .int ja, .int jf, .int jp])), (j_bytes, .inl (tB, 65536, .inl (upd (upd f k (vp_nar .byte (((v.toUInt32 >>> ((24 : Int32).toUInt32 &&& Int32.toUInt32 31)).toInt32).toInt8.toInt32))) (k + 1) (vp_nar .byte (((v.toUInt32 >>> ((16 : Int32).toUInt32 &&& Int32.toUInt32 31)).toInt32).toInt8.toInt32)))))] H _ := hW
  refine lv_aload_n hx hb d_J_take_29 rfl (lv_at hl 1 rfl) ?_
  refine lv_dup hx hb d_J_take_30 rfl ?_
  refine r_get C hW 0 rfl k_J i_J 1 (by decide) rfl w_787 d_J_take_31 ?_
  refine lv_iconst (v := 1) hx hb d_J_take_34 (by decide) ?_
  refine lv_iadd hx hb d_J_take_35 ?_
  refine W.eq (congrArg (fun z : Int32 => F0 m 36 ls (.int z :: [.ref aJ])) (show ((nI (k + 1)) + 1) = nI (k + 1 + 1) from (nI_1 _))) ?_
  refine r_put (v := .int (nI (k + 1 + 1))) (ty := .int) C hW 0 rfl k_J i_J t_J o_J n_J 1 (by decide) w_787 rfl (by decide +kernel) rfl rfl (Nat.le_of_ble_eq_true rfl) d_J_take_36 (fun H locs hW => ?_)
  have hW : Wd D A s [(aJ, .inr (0, [.ref j_bytes, .int (nI (k + 1 + 1)), .ref aS, .ref aR, .ref aE, .ref aD, .ref aO, .ref aT, .ref aC, .ref aV, .ref aM, .ref aW, .int ja, .int jf, .int jp])), (j_bytes, .inl (tB, 65536, .inl (upd (upd f k (vp_nar .byte (((v.toUInt32 >>> ((24 : Int32).toUInt32 &&& Int32.toUInt32 31)).toInt32).toInt8.toInt32))) (k + 1) (vp_nar .byte (((v.toUInt32 >>> ((16 : Int32).toUInt32 &&& Int32.toUInt32 31)).toInt32).toInt8.toInt32)))))] H _ := hW
  refine lv_iinc (v := 8) (lv' := [(2, .int 8), (0, .ref aJ), (1, .int v)]) hx hb d_J_take_39 hl (k := 0) rfl (by decide) (by decide) rfl (fun ls hl => ?_)
  refine lv_goto (tgt := 3) hx hb d_J_take_42 (by decide) ?_
  refine lv_iload_n hx hb d_J_take_3 rfl (lv_at hl 0 rfl) ?_
  refine lv_if_lt (tgt := 45) hx hb d_J_take_4 (by decide) (fun c_4 => absurd c_4 (by decide)) (fun c_4 => ?_)
  refine lv_aload_n hx hb d_J_take_7 rfl (lv_at hl 1 rfl) ?_
  refine r_get C hW 0 rfl k_J i_J 1 (by decide) rfl w_787 d_J_take_8 ?_
  refine lv_ldc (v := 65536) hx hb hown (hT _ w_44) d_J_take_11 ?_
  refine lv_icmp_ge (tgt := 45) hx hb d_J_take_13 (by decide) (fun c_13 => absurd c_13 (nI_ge (a := k + 1 + 1) (b := 65536) (by omega) (by decide))) (fun c_13 => ?_)
  refine lv_aload_n hx hb d_J_take_16 rfl (lv_at hl 1 rfl) ?_
  refine r_get C hW 0 rfl k_J i_J 0 (by decide) rfl w_786 d_J_take_17 ?_
  refine lv_aload_n hx hb d_J_take_20 rfl (lv_at hl 1 rfl) ?_
  refine r_get C hW 0 rfl k_J i_J 1 (by decide) rfl w_787 d_J_take_21 ?_
  refine lv_iload_n hx hb d_J_take_24 rfl (lv_at hl 2 rfl) ?_
  refine lv_iload_n hx hb d_J_take_25 rfl (lv_at hl 0 rfl) ?_
  refine lv_iushr hx hb d_J_take_26 rfl ?_
  refine lv_i2b hx hb d_J_take_27 rfl ?_
  refine r_stB C hW 1 rfl (k + 1 + 1) rfl (by omega) (by decide) d_J_take_28 (fun H locs hW => ?_)
  have hW : Wd D A s [(aJ, .inr (0, [.ref j_bytes, .int (nI (k + 1 + 1)), .ref aS, .ref aR, .ref aE, .ref aD, .ref aO, .ref aT, .ref aC, .ref aV, .ref aM, .ref aW, .int ja, .int jf, .int jp])), (j_bytes, .inl (tB, 65536, .inl (upd (upd (upd f k (vp_nar .byte (((v.toUInt32 >>> ((24 : Int32).toUInt32 &&& Int32.toUInt32 31)).toInt32).toInt8.toInt32))) (k + 1) (vp_nar .byte (((v.toUInt32 >>> ((16 : Int32).toUInt32 &&& Int32.toUInt32 31)).toInt32).toInt8.toInt32))) (k + 1 + 1) (vp_nar .byte (((v.toUInt32 >>> ((8 : Int32).toUInt32 &&& Int32.toUInt32 31)).toInt32).toInt8.toInt32)))))] H _ := hW
  refine lv_aload_n hx hb d_J_take_29 rfl (lv_at hl 1 rfl) ?_
  refine lv_dup hx hb d_J_take_30 rfl ?_
  refine r_get C hW 0 rfl k_J i_J 1 (by decide) rfl w_787 d_J_take_31 ?_
  refine lv_iconst (v := 1) hx hb d_J_take_34 (by decide) ?_
  refine lv_iadd hx hb d_J_take_35 ?_
  refine W.eq (congrArg (fun z : Int32 => F0 m 36 ls (.int z :: [.ref aJ])) (show ((nI (k + 1 + 1)) + 1) = nI (k + 1 + 1 + 1) from (nI_1 _))) ?_
  refine r_put (v := .int (nI (k + 1 + 1 + 1))) (ty := .int) C hW 0 rfl k_J i_J t_J o_J n_J 1 (by decide) w_787 rfl (by decide +kernel) rfl rfl (Nat.le_of_ble_eq_true rfl) d_J_take_36 (fun H locs hW => ?_)
  have hW : Wd D A s [(aJ, .inr (0, [.ref j_bytes, .int (nI (k + 1 + 1 + 1)), .ref aS, .ref aR, .ref aE, .ref aD, .ref aO, .ref aT, .ref aC, .ref aV, .ref aM, .ref aW, .int ja, .int jf, .int jp])), (j_bytes, .inl (tB, 65536, .inl (upd (upd (upd f k (vp_nar .byte (((v.toUInt32 >>> ((24 : Int32).toUInt32 &&& Int32.toUInt32 31)).toInt32).toInt8.toInt32))) (k + 1) (vp_nar .byte (((v.toUInt32 >>> ((16 : Int32).toUInt32 &&& Int32.toUInt32 31)).toInt32).toInt8.toInt32))) (k + 1 + 1) (vp_nar .byte (((v.toUInt32 >>> ((8 : Int32).toUInt32 &&& Int32.toUInt32 31)).toInt32).toInt8.toInt32)))))] H _ := hW
  refine lv_iinc (v := 0) (lv' := [(2, .int 0), (0, .ref aJ), (1, .int v)]) hx hb d_J_take_39 hl (k := 0) rfl (by decide) (by decide) rfl (fun ls hl => ?_)
  refine lv_goto (tgt := 3) hx hb d_J_take_42 (by decide) ?_
  refine lv_iload_n hx hb d_J_take_3 rfl (lv_at hl 0 rfl) ?_
  refine lv_if_lt (tgt := 45) hx hb d_J_take_4 (by decide) (fun c_4 => absurd c_4 (by decide)) (fun c_4 => ?_)
  refine lv_aload_n hx hb d_J_take_7 rfl (lv_at hl 1 rfl) ?_
  refine r_get C hW 0 rfl k_J i_J 1 (by decide) rfl w_787 d_J_take_8 ?_
  refine lv_ldc (v := 65536) hx hb hown (hT _ w_44) d_J_take_11 ?_
  refine lv_icmp_ge (tgt := 45) hx hb d_J_take_13 (by decide) (fun c_13 => absurd c_13 (nI_ge (a := k + 1 + 1 + 1) (b := 65536) (by omega) (by decide))) (fun c_13 => ?_)
  refine lv_aload_n hx hb d_J_take_16 rfl (lv_at hl 1 rfl) ?_
  refine r_get C hW 0 rfl k_J i_J 0 (by decide) rfl w_786 d_J_take_17 ?_
  refine lv_aload_n hx hb d_J_take_20 rfl (lv_at hl 1 rfl) ?_
  refine r_get C hW 0 rfl k_J i_J 1 (by decide) rfl w_787 d_J_take_21 ?_
  refine lv_iload_n hx hb d_J_take_24 rfl (lv_at hl 2 rfl) ?_
  refine lv_iload_n hx hb d_J_take_25 rfl (lv_at hl 0 rfl) ?_
  refine lv_iushr hx hb d_J_take_26 rfl ?_
  refine lv_i2b hx hb d_J_take_27 rfl ?_
  refine r_stB C hW 1 rfl (k + 1 + 1 + 1) rfl (by omega) (by decide) d_J_take_28 (fun H locs hW => ?_)
  have hW : Wd D A s [(aJ, .inr (0, [.ref j_bytes, .int (nI (k + 1 + 1 + 1)), .ref aS, .ref aR, .ref aE, .ref aD, .ref aO, .ref aT, .ref aC, .ref aV, .ref aM, .ref aW, .int ja, .int jf, .int jp])), (j_bytes, .inl (tB, 65536, .inl (upd (upd (upd (upd f k (vp_nar .byte (((v.toUInt32 >>> ((24 : Int32).toUInt32 &&& Int32.toUInt32 31)).toInt32).toInt8.toInt32))) (k + 1) (vp_nar .byte (((v.toUInt32 >>> ((16 : Int32).toUInt32 &&& Int32.toUInt32 31)).toInt32).toInt8.toInt32))) (k + 1 + 1) (vp_nar .byte (((v.toUInt32 >>> ((8 : Int32).toUInt32 &&& Int32.toUInt32 31)).toInt32).toInt8.toInt32))) (k + 1 + 1 + 1) (vp_nar .byte (((v.toUInt32 >>> ((0 : Int32).toUInt32 &&& Int32.toUInt32 31)).toInt32).toInt8.toInt32)))))] H _ := hW
  refine lv_aload_n hx hb d_J_take_29 rfl (lv_at hl 1 rfl) ?_
  refine lv_dup hx hb d_J_take_30 rfl ?_
  refine r_get C hW 0 rfl k_J i_J 1 (by decide) rfl w_787 d_J_take_31 ?_
  refine lv_iconst (v := 1) hx hb d_J_take_34 (by decide) ?_
  refine lv_iadd hx hb d_J_take_35 ?_
  refine W.eq (congrArg (fun z : Int32 => F0 m 36 ls (.int z :: [.ref aJ])) (show ((nI (k + 1 + 1 + 1)) + 1) = nI (k + 1 + 1 + 1 + 1) from (nI_1 _))) ?_
  refine r_put (v := .int (nI (k + 1 + 1 + 1 + 1))) (ty := .int) C hW 0 rfl k_J i_J t_J o_J n_J 1 (by decide) w_787 rfl (by decide +kernel) rfl rfl (Nat.le_of_ble_eq_true rfl) d_J_take_36 (fun H locs hW => ?_)
  have hW : Wd D A s [(aJ, .inr (0, [.ref j_bytes, .int (nI (k + 1 + 1 + 1 + 1)), .ref aS, .ref aR, .ref aE, .ref aD, .ref aO, .ref aT, .ref aC, .ref aV, .ref aM, .ref aW, .int ja, .int jf, .int jp])), (j_bytes, .inl (tB, 65536, .inl (upd (upd (upd (upd f k (vp_nar .byte (((v.toUInt32 >>> ((24 : Int32).toUInt32 &&& Int32.toUInt32 31)).toInt32).toInt8.toInt32))) (k + 1) (vp_nar .byte (((v.toUInt32 >>> ((16 : Int32).toUInt32 &&& Int32.toUInt32 31)).toInt32).toInt8.toInt32))) (k + 1 + 1) (vp_nar .byte (((v.toUInt32 >>> ((8 : Int32).toUInt32 &&& Int32.toUInt32 31)).toInt32).toInt8.toInt32))) (k + 1 + 1 + 1) (vp_nar .byte (((v.toUInt32 >>> ((0 : Int32).toUInt32 &&& Int32.toUInt32 31)).toInt32).toInt8.toInt32)))))] H _ := hW
  refine lv_iinc (v := (-8)) (lv' := [(2, .int (-8)), (0, .ref aJ), (1, .int v)]) hx hb d_J_take_39 hl (k := 0) rfl (by decide) (by decide) rfl (fun ls hl => ?_)
  refine lv_goto (tgt := 3) hx hb d_J_take_42 (by decide) ?_
  refine lv_iload_n hx hb d_J_take_3 rfl (lv_at hl 0 rfl) ?_
  refine lv_if_lt (tgt := 45) hx hb d_J_take_4 (by decide) (fun c_4 => ?_) (fun c_4 => absurd (by decide) c_4)
  rw [hQ]
  exact r_vret C hr hlk hW (upd (upd (upd (upd f k (vp_nar .byte (((v.toUInt32 >>> ((24 : Int32).toUInt32 &&& Int32.toUInt32 31)).toInt32).toInt8.toInt32))) (k + 1) (vp_nar .byte (((v.toUInt32 >>> ((16 : Int32).toUInt32 &&& Int32.toUInt32 31)).toInt32).toInt8.toInt32))) (k + 1 + 1) (vp_nar .byte (((v.toUInt32 >>> ((8 : Int32).toUInt32 &&& Int32.toUInt32 31)).toInt32).toInt8.toInt32))) (k + 1 + 1 + 1) (vp_nar .byte (((v.toUInt32 >>> ((0 : Int32).toUInt32 &&& Int32.toUInt32 31)).toInt32).toInt8.toInt32))) trivial [0, 1] (by decide) rfl d_J_take_45 (by decide) (by decide)
set_option maxHeartbeats 4000000 in
set_option maxRecDepth 100000 in
/-- feed, where there is room -/
theorem c_J_feed (l : Launch) (D : va_G) (tI tB tZ tL : ClassId) (X : (Nat → Prop) → State → Prop) (hX : Ro X) (aJ j_bytes aS aR aE aD aO aT aC aV aM aW : Nat) (ja jf jp : Int32) (k : Nat) (f : Nat → Int32) (v1 v2 v3 v4 v5 : Int32) (hk : k + 20 ≤ 65536) : CtV l D tI tB tZ tL X y_J_feed b_J_feed 6 ({ frames := 1, cells := 0, slots := 0, locals := 22 }) [.ref aJ, .int v1, .int v2, .int v3, .int v4, .int v5] [(aJ, .inr (0, [.ref j_bytes, .int (nI k), .ref aS, .ref aR, .ref aE, .ref aD, .ref aO, .ref aT, .ref aC, .ref aV, .ref aM, .ref aW, .int ja, .int jf, .int jp])), (j_bytes, .inl (tB, 65536, .inl f))] (S := Nat → Int32) (fun _ => True) (fun g => [(aJ, .inr (0, [.ref j_bytes, .int (nI (k + 1 + 1 + 1 + 1 + 1 + 1 + 1 + 1 + 1 + 1 + 1 + 1 + 1 + 1 + 1 + 1 + 1 + 1 + 1 + 1)), .ref aS, .ref aR, .ref aE, .ref aD, .ref aO, .ref aT, .ref aC, .ref aV, .ref aM, .ref aW, .int ja, .int jf, .int jp])), (j_bytes, .inl (tB, 65536, .inl g))]) := by
  refine CtV.start hX (by decide) (Nat.le_of_ble_eq_true rfl) ?_
  intro p e s m args below meth c A ls C hr hlk hin hW hl
  refine W.nameQ (fun Q hQ => ?_)
  have hx := C.1.1
  have hb := C.1.2.1
  have hown := C.1.2.2.2.1
  have hT := C.1.2.2.2.2
  have hl : lv_has ls 6 [(0, .ref aJ), (1, .int v1), (2, .int v2), (3, .int v3), (4, .int v4), (5, .int v5)] := hl
  refine lv_aload_n hx hb d_J_feed_0 rfl (lv_at hl 0 rfl) ?_
  refine r_get C hW 0 rfl k_J i_J 1 (by decide) rfl w_787 d_J_feed_1 ?_
  refine lv_ldc (v := 65516) hx hb hown (hT _ w_2050) d_J_feed_4 ?_
  refine lv_icmp_le (tgt := 19) hx hb d_J_feed_6 (by decide) (fun c_6 => ?_) (fun c_6 => absurd (nI_le (a := k) (b := 65516) (by omega) (by decide)) c_6)
  refine lv_aload_n hx hb d_J_feed_19 rfl (lv_at hl 0 rfl) ?_
  refine lv_iload_n hx hb d_J_feed_20 rfl (lv_at hl 1 rfl) ?_
  refine r_callV [.int v1] [] C hl.1 hW (c_J_take l D tI tB tZ tL X hX aJ j_bytes aS aR aE aD aO aT aC aV aM aW ja jf jp (k) f v1 (by omega)) ok_J_take w_2067 (wr := []) [0, 1] [] rfl rfl (by decide) (by decide) (by decide) 0 rfl k_J rfl (by decide) (Nat.le_of_ble_eq_true rfl) (by decide) d_J_feed_21 (fun g1 H locs hg hW => ?_)
  have hW : Wd D A s [(aJ, .inr (0, [.ref j_bytes, .int (nI (k + 1 + 1 + 1 + 1)), .ref aS, .ref aR, .ref aE, .ref aD, .ref aO, .ref aT, .ref aC, .ref aV, .ref aM, .ref aW, .int ja, .int jf, .int jp])), (j_bytes, .inl (tB, 65536, .inl g1))] H _ := hW
  refine lv_aload_n hx hb d_J_feed_24 rfl (lv_at hl 0 rfl) ?_
  refine lv_iload_n hx hb d_J_feed_25 rfl (lv_at hl 2 rfl) ?_
  refine r_callV [.int v2] [] C hl.1 hW (c_J_take l D tI tB tZ tL X hX aJ j_bytes aS aR aE aD aO aT aC aV aM aW ja jf jp (k + 1 + 1 + 1 + 1) g1 v2 (by omega)) ok_J_take w_2067 (wr := []) [0, 1] [] rfl rfl (by decide) (by decide) (by decide) 0 rfl k_J rfl (by decide) (Nat.le_of_ble_eq_true rfl) (by decide) d_J_feed_26 (fun g2 H locs hg hW => ?_)
  have hW : Wd D A s [(aJ, .inr (0, [.ref j_bytes, .int (nI (k + 1 + 1 + 1 + 1 + 1 + 1 + 1 + 1)), .ref aS, .ref aR, .ref aE, .ref aD, .ref aO, .ref aT, .ref aC, .ref aV, .ref aM, .ref aW, .int ja, .int jf, .int jp])), (j_bytes, .inl (tB, 65536, .inl g2))] H _ := hW
  refine lv_aload_n hx hb d_J_feed_29 rfl (lv_at hl 0 rfl) ?_
  refine lv_iload_n hx hb d_J_feed_30 rfl (lv_at hl 3 rfl) ?_
  refine r_callV [.int v3] [] C hl.1 hW (c_J_take l D tI tB tZ tL X hX aJ j_bytes aS aR aE aD aO aT aC aV aM aW ja jf jp (k + 1 + 1 + 1 + 1 + 1 + 1 + 1 + 1) g2 v3 (by omega)) ok_J_take w_2067 (wr := []) [0, 1] [] rfl rfl (by decide) (by decide) (by decide) 0 rfl k_J rfl (by decide) (Nat.le_of_ble_eq_true rfl) (by decide) d_J_feed_31 (fun g3 H locs hg hW => ?_)
  have hW : Wd D A s [(aJ, .inr (0, [.ref j_bytes, .int (nI (k + 1 + 1 + 1 + 1 + 1 + 1 + 1 + 1 + 1 + 1 + 1 + 1)), .ref aS, .ref aR, .ref aE, .ref aD, .ref aO, .ref aT, .ref aC, .ref aV, .ref aM, .ref aW, .int ja, .int jf, .int jp])), (j_bytes, .inl (tB, 65536, .inl g3))] H _ := hW
  refine lv_aload_n hx hb d_J_feed_34 rfl (lv_at hl 0 rfl) ?_
  refine lv_iload hx hb d_J_feed_35 (lv_at hl 4 rfl) ?_
  refine r_callV [.int v4] [] C hl.1 hW (c_J_take l D tI tB tZ tL X hX aJ j_bytes aS aR aE aD aO aT aC aV aM aW ja jf jp (k + 1 + 1 + 1 + 1 + 1 + 1 + 1 + 1 + 1 + 1 + 1 + 1) g3 v4 (by omega)) ok_J_take w_2067 (wr := []) [0, 1] [] rfl rfl (by decide) (by decide) (by decide) 0 rfl k_J rfl (by decide) (Nat.le_of_ble_eq_true rfl) (by decide) d_J_feed_37 (fun g4 H locs hg hW => ?_)
  have hW : Wd D A s [(aJ, .inr (0, [.ref j_bytes, .int (nI (k + 1 + 1 + 1 + 1 + 1 + 1 + 1 + 1 + 1 + 1 + 1 + 1 + 1 + 1 + 1 + 1)), .ref aS, .ref aR, .ref aE, .ref aD, .ref aO, .ref aT, .ref aC, .ref aV, .ref aM, .ref aW, .int ja, .int jf, .int jp])), (j_bytes, .inl (tB, 65536, .inl g4))] H _ := hW
  refine lv_aload_n hx hb d_J_feed_40 rfl (lv_at hl 0 rfl) ?_
  refine lv_iload hx hb d_J_feed_41 (lv_at hl 5 rfl) ?_
  refine r_callV [.int v5] [] C hl.1 hW (c_J_take l D tI tB tZ tL X hX aJ j_bytes aS aR aE aD aO aT aC aV aM aW ja jf jp (k + 1 + 1 + 1 + 1 + 1 + 1 + 1 + 1 + 1 + 1 + 1 + 1 + 1 + 1 + 1 + 1) g4 v5 (by omega)) ok_J_take w_2067 (wr := []) [0, 1] [] rfl rfl (by decide) (by decide) (by decide) 0 rfl k_J rfl (by decide) (Nat.le_of_ble_eq_true rfl) (by decide) d_J_feed_43 (fun g5 H locs hg hW => ?_)
  have hW : Wd D A s [(aJ, .inr (0, [.ref j_bytes, .int (nI (k + 1 + 1 + 1 + 1 + 1 + 1 + 1 + 1 + 1 + 1 + 1 + 1 + 1 + 1 + 1 + 1 + 1 + 1 + 1 + 1)), .ref aS, .ref aR, .ref aE, .ref aD, .ref aO, .ref aT, .ref aC, .ref aV, .ref aM, .ref aW, .int ja, .int jf, .int jp])), (j_bytes, .inl (tB, 65536, .inl g5))] H _ := hW
  rw [hQ]
  exact r_vret C hr hlk hW g5 trivial [0, 1] (by decide) rfl d_J_feed_46 (by decide) (by decide)
set_option maxHeartbeats 4000000 in
set_option maxRecDepth 100000 in
theorem c_K_take (l : Launch) (D : va_G) (tI tB tZ tL : ClassId) (X : (Nat → Prop) → State → Prop) (hX : Ro X) (bK k_bytes bR bD bO k_product bW : Nat) (k0 k1 hd kq kf kl : Int32) (kc : Int32) (k : Nat) (f : Nat → Int32) (v : Int32) (hk : k + 4 ≤ 65536) : CtV l D tI tB tZ tL X y_K_take b_K_take 3 ({ frames := 0, cells := 0, slots := 0, locals := 0 }) [.ref bK, .int v] [(bK, .inr (12, [.int k0, .int k1, .ref k_bytes, .int (nI k), .ref bR, .ref bD, .int hd, .ref bO, .ref k_product, .int kq, .ref bW, .int kc, .int kf, .int kl])), (k_bytes, .inl (tB, 65536, .inl f))] (S := Nat → Int32) (fun _ => True) (fun g => [(bK, .inr (12, [.int k0, .int k1, .ref k_bytes, .int (nI (k + 1 + 1 + 1 + 1)), .ref bR, .ref bD, .int hd, .ref bO, .ref k_product, .int kq, .ref bW, .int kc, .int kf, .int kl])), (k_bytes, .inl (tB, 65536, .inl g))]) := by
  refine CtV.start hX (by decide) (Nat.le_of_ble_eq_true rfl) ?_
  intro p e s m args below meth c A ls C hr hlk hin hW hl
  refine W.nameQ (fun Q hQ => ?_)
  have hx := C.1.1
  have hb := C.1.2.1
  have hown := C.1.2.2.2.1
  have hT := C.1.2.2.2.2
  have hl : lv_has ls 3 [(0, .ref bK), (1, .int v)] := hl
  refine lv_bipush (v := 24) hx hb d_K_take_0 (by decide) ?_
  refine lv_istore_n (lv' := [(2, .int 24), (0, .ref bK), (1, .int v)]) hx hb d_K_take_2 rfl hl (by decide) rfl (fun ls hl => ?_)
  refine lv_iload_n hx hb d_K_take_3 rfl (lv_at hl 0 rfl) ?_
  refine lv_if_lt (tgt := 36) hx hb d_K_take_4 (by decide) (fun c_4 => absurd c_4 (by decide)) (fun c_4 => ?_)
  refine lv_aload_n hx hb d_K_take_7 rfl (lv_at hl 1 rfl) ?_
  refine r_get C hW 0 rfl k_K i_K 2 (by decide) rfl w_2561 d_K_take_8 ?_
  refine lv_aload_n hx hb d_K_take_11 rfl (lv_at hl 1 rfl) ?_
  refine r_get C hW 0 rfl k_K i_K 3 (by decide) rfl w_2562 d_K_take_12 ?_
  refine lv_iload_n hx hb d_K_take_15 rfl (lv_at hl 2 rfl) ?_
  refine lv_iload_n hx hb d_K_take_16 rfl (lv_at hl 0 rfl) ?_
  refine lv_ishr hx hb d_K_take_17 ?_
  refine lv_i2b hx hb d_K_take_18 rfl ?_
  refine r_stB C hW 1 rfl k rfl (by omega) (by decide) d_K_take_19 (fun H locs hW => ?_)
  have hW : Wd D A s [(bK, .inr (12, [.int k0, .int k1, .ref k_bytes, .int (nI k), .ref bR, .ref bD, .int hd, .ref bO, .ref k_product, .int kq, .ref bW, .int kc, .int kf, .int kl])), (k_bytes, .inl (tB, 65536, .inl (upd f k (vp_nar .byte ((v >>> (24 &&& 31)).toInt8.toInt32)))))] H _ := hW
  refine lv_aload_n hx hb d_K_take_20 rfl (lv_at hl 1 rfl) ?_
  refine lv_dup hx hb d_K_take_21 rfl ?_
  refine r_get C hW 0 rfl k_K i_K 3 (by decide) rfl w_2562 d_K_take_22 ?_
  refine lv_iconst (v := 1) hx hb d_K_take_25 (by decide) ?_
  refine lv_iadd hx hb d_K_take_26 ?_
  refine W.eq (congrArg (fun z : Int32 => F0 m 27 ls (.int z :: [.ref bK])) (show ((nI k) + 1) = nI (k + 1) from (nI_1 _))) ?_
  refine r_put (v := .int (nI (k + 1))) (ty := .int) C hW 0 rfl k_K i_K t_K o_K n_K 3 (by decide) w_2562 rfl (by decide +kernel) rfl rfl (Nat.le_of_ble_eq_true rfl) d_K_take_27 (fun H locs hW => ?_)
  have hW : Wd D A s [(bK, .inr (12, [.int k0, .int k1, .ref k_bytes, .int (nI (k + 1)), .ref bR, .ref bD, .int hd, .ref bO, .ref k_product, .int kq, .ref bW, .int kc, .int kf, .int kl])), (k_bytes, .inl (tB, 65536, .inl (upd f k (vp_nar .byte ((v >>> (24 &&& 31)).toInt8.toInt32)))))] H _ := hW
  refine lv_iinc (v := 16) (lv' := [(2, .int 16), (0, .ref bK), (1, .int v)]) hx hb d_K_take_30 hl (k := 0) rfl (by decide) (by decide) rfl (fun ls hl => ?_)
  refine lv_goto (tgt := 3) hx hb d_K_take_33 (by decide) ?_
  refine lv_iload_n hx hb d_K_take_3 rfl (lv_at hl 0 rfl) ?_
  refine lv_if_lt (tgt := 36) hx hb d_K_take_4 (by decide) (fun c_4 => absurd c_4 (by decide)) (fun c_4 => ?_)
  refine lv_aload_n hx hb d_K_take_7 rfl (lv_at hl 1 rfl) ?_
  refine r_get C hW 0 rfl k_K i_K 2 (by decide) rfl w_2561 d_K_take_8 ?_
  refine lv_aload_n hx hb d_K_take_11 rfl (lv_at hl 1 rfl) ?_
  refine r_get C hW 0 rfl k_K i_K 3 (by decide) rfl w_2562 d_K_take_12 ?_
  refine lv_iload_n hx hb d_K_take_15 rfl (lv_at hl 2 rfl) ?_
  refine lv_iload_n hx hb d_K_take_16 rfl (lv_at hl 0 rfl) ?_
  refine lv_ishr hx hb d_K_take_17 ?_
  refine lv_i2b hx hb d_K_take_18 rfl ?_
  refine r_stB C hW 1 rfl (k + 1) rfl (by omega) (by decide) d_K_take_19 (fun H locs hW => ?_)
  have hW : Wd D A s [(bK, .inr (12, [.int k0, .int k1, .ref k_bytes, .int (nI (k + 1)), .ref bR, .ref bD, .int hd, .ref bO, .ref k_product, .int kq, .ref bW, .int kc, .int kf, .int kl])), (k_bytes, .inl (tB, 65536, .inl (upd (upd f k (vp_nar .byte ((v >>> (24 &&& 31)).toInt8.toInt32))) (k + 1) (vp_nar .byte ((v >>> (16 &&& 31)).toInt8.toInt32)))))] H _ := hW
  refine lv_aload_n hx hb d_K_take_20 rfl (lv_at hl 1 rfl) ?_
  refine lv_dup hx hb d_K_take_21 rfl ?_
  refine r_get C hW 0 rfl k_K i_K 3 (by decide) rfl w_2562 d_K_take_22 ?_
  refine lv_iconst (v := 1) hx hb d_K_take_25 (by decide) ?_
  refine lv_iadd hx hb d_K_take_26 ?_
  refine W.eq (congrArg (fun z : Int32 => F0 m 27 ls (.int z :: [.ref bK])) (show ((nI (k + 1)) + 1) = nI (k + 1 + 1) from (nI_1 _))) ?_
  refine r_put (v := .int (nI (k + 1 + 1))) (ty := .int) C hW 0 rfl k_K i_K t_K o_K n_K 3 (by decide) w_2562 rfl (by decide +kernel) rfl rfl (Nat.le_of_ble_eq_true rfl) d_K_take_27 (fun H locs hW => ?_)
  have hW : Wd D A s [(bK, .inr (12, [.int k0, .int k1, .ref k_bytes, .int (nI (k + 1 + 1)), .ref bR, .ref bD, .int hd, .ref bO, .ref k_product, .int kq, .ref bW, .int kc, .int kf, .int kl])), (k_bytes, .inl (tB, 65536, .inl (upd (upd f k (vp_nar .byte ((v >>> (24 &&& 31)).toInt8.toInt32))) (k + 1) (vp_nar .byte ((v >>> (16 &&& 31)).toInt8.toInt32)))))] H _ := hW
  refine lv_iinc (v := 8) (lv' := [(2, .int 8), (0, .ref bK), (1, .int v)]) hx hb d_K_take_30 hl (k := 0) rfl (by decide) (by decide) rfl (fun ls hl => ?_)
  refine lv_goto (tgt := 3) hx hb d_K_take_33 (by decide) ?_
  refine lv_iload_n hx hb d_K_take_3 rfl (lv_at hl 0 rfl) ?_
  refine lv_if_lt (tgt := 36) hx hb d_K_take_4 (by decide) (fun c_4 => absurd c_4 (by decide)) (fun c_4 => ?_)
  refine lv_aload_n hx hb d_K_take_7 rfl (lv_at hl 1 rfl) ?_
  refine r_get C hW 0 rfl k_K i_K 2 (by decide) rfl w_2561 d_K_take_8 ?_
  refine lv_aload_n hx hb d_K_take_11 rfl (lv_at hl 1 rfl) ?_
  refine r_get C hW 0 rfl k_K i_K 3 (by decide) rfl w_2562 d_K_take_12 ?_
  refine lv_iload_n hx hb d_K_take_15 rfl (lv_at hl 2 rfl) ?_
  refine lv_iload_n hx hb d_K_take_16 rfl (lv_at hl 0 rfl) ?_
  refine lv_ishr hx hb d_K_take_17 ?_
  refine lv_i2b hx hb d_K_take_18 rfl ?_
  refine r_stB C hW 1 rfl (k + 1 + 1) rfl (by omega) (by decide) d_K_take_19 (fun H locs hW => ?_)
  have hW : Wd D A s [(bK, .inr (12, [.int k0, .int k1, .ref k_bytes, .int (nI (k + 1 + 1)), .ref bR, .ref bD, .int hd, .ref bO, .ref k_product, .int kq, .ref bW, .int kc, .int kf, .int kl])), (k_bytes, .inl (tB, 65536, .inl (upd (upd (upd f k (vp_nar .byte ((v >>> (24 &&& 31)).toInt8.toInt32))) (k + 1) (vp_nar .byte ((v >>> (16 &&& 31)).toInt8.toInt32))) (k + 1 + 1) (vp_nar .byte ((v >>> (8 &&& 31)).toInt8.toInt32)))))] H _ := hW
  refine lv_aload_n hx hb d_K_take_20 rfl (lv_at hl 1 rfl) ?_
  refine lv_dup hx hb d_K_take_21 rfl ?_
  refine r_get C hW 0 rfl k_K i_K 3 (by decide) rfl w_2562 d_K_take_22 ?_
  refine lv_iconst (v := 1) hx hb d_K_take_25 (by decide) ?_
  refine lv_iadd hx hb d_K_take_26 ?_
  refine W.eq (congrArg (fun z : Int32 => F0 m 27 ls (.int z :: [.ref bK])) (show ((nI (k + 1 + 1)) + 1) = nI (k + 1 + 1 + 1) from (nI_1 _))) ?_
  refine r_put (v := .int (nI (k + 1 + 1 + 1))) (ty := .int) C hW 0 rfl k_K i_K t_K o_K n_K 3 (by decide) w_2562 rfl (by decide +kernel) rfl rfl (Nat.le_of_ble_eq_true rfl) d_K_take_27 (fun H locs hW => ?_)
  have hW : Wd D A s [(bK, .inr (12, [.int k0, .int k1, .ref k_bytes, .int (nI (k + 1 + 1 + 1)), .ref bR, .ref bD, .int hd, .ref bO, .ref k_product, .int kq, .ref bW, .int kc, .int kf, .int kl])), (k_bytes, .inl (tB, 65536, .inl (upd (upd (upd f k (vp_nar .byte ((v >>> (24 &&& 31)).toInt8.toInt32))) (k + 1) (vp_nar .byte ((v >>> (16 &&& 31)).toInt8.toInt32))) (k + 1 + 1) (vp_nar .byte ((v >>> (8 &&& 31)).toInt8.toInt32)))))] H _ := hW
  refine lv_iinc (v := 0) (lv' := [(2, .int 0), (0, .ref bK), (1, .int v)]) hx hb d_K_take_30 hl (k := 0) rfl (by decide) (by decide) rfl (fun ls hl => ?_)
  refine lv_goto (tgt := 3) hx hb d_K_take_33 (by decide) ?_
  refine lv_iload_n hx hb d_K_take_3 rfl (lv_at hl 0 rfl) ?_
  refine lv_if_lt (tgt := 36) hx hb d_K_take_4 (by decide) (fun c_4 => absurd c_4 (by decide)) (fun c_4 => ?_)
  refine lv_aload_n hx hb d_K_take_7 rfl (lv_at hl 1 rfl) ?_
  refine r_get C hW 0 rfl k_K i_K 2 (by decide) rfl w_2561 d_K_take_8 ?_
  refine lv_aload_n hx hb d_K_take_11 rfl (lv_at hl 1 rfl) ?_
  refine r_get C hW 0 rfl k_K i_K 3 (by decide) rfl w_2562 d_K_take_12 ?_
  refine lv_iload_n hx hb d_K_take_15 rfl (lv_at hl 2 rfl) ?_
  refine lv_iload_n hx hb d_K_take_16 rfl (lv_at hl 0 rfl) ?_
  refine lv_ishr hx hb d_K_take_17 ?_
  refine lv_i2b hx hb d_K_take_18 rfl ?_
  refine r_stB C hW 1 rfl (k + 1 + 1 + 1) rfl (by omega) (by decide) d_K_take_19 (fun H locs hW => ?_)
  have hW : Wd D A s [(bK, .inr (12, [.int k0, .int k1, .ref k_bytes, .int (nI (k + 1 + 1 + 1)), .ref bR, .ref bD, .int hd, .ref bO, .ref k_product, .int kq, .ref bW, .int kc, .int kf, .int kl])), (k_bytes, .inl (tB, 65536, .inl (upd (upd (upd (upd f k (vp_nar .byte ((v >>> (24 &&& 31)).toInt8.toInt32))) (k + 1) (vp_nar .byte ((v >>> (16 &&& 31)).toInt8.toInt32))) (k + 1 + 1) (vp_nar .byte ((v >>> (8 &&& 31)).toInt8.toInt32))) (k + 1 + 1 + 1) (vp_nar .byte ((v >>> (0 &&& 31)).toInt8.toInt32)))))] H _ := hW
  refine lv_aload_n hx hb d_K_take_20 rfl (lv_at hl 1 rfl) ?_
  refine lv_dup hx hb d_K_take_21 rfl ?_
  refine r_get C hW 0 rfl k_K i_K 3 (by decide) rfl w_2562 d_K_take_22 ?_
  refine lv_iconst (v := 1) hx hb d_K_take_25 (by decide) ?_
  refine lv_iadd hx hb d_K_take_26 ?_
  refine W.eq (congrArg (fun z : Int32 => F0 m 27 ls (.int z :: [.ref bK])) (show ((nI (k + 1 + 1 + 1)) + 1) = nI (k + 1 + 1 + 1 + 1) from (nI_1 _))) ?_
  refine r_put (v := .int (nI (k + 1 + 1 + 1 + 1))) (ty := .int) C hW 0 rfl k_K i_K t_K o_K n_K 3 (by decide) w_2562 rfl (by decide +kernel) rfl rfl (Nat.le_of_ble_eq_true rfl) d_K_take_27 (fun H locs hW => ?_)
  have hW : Wd D A s [(bK, .inr (12, [.int k0, .int k1, .ref k_bytes, .int (nI (k + 1 + 1 + 1 + 1)), .ref bR, .ref bD, .int hd, .ref bO, .ref k_product, .int kq, .ref bW, .int kc, .int kf, .int kl])), (k_bytes, .inl (tB, 65536, .inl (upd (upd (upd (upd f k (vp_nar .byte ((v >>> (24 &&& 31)).toInt8.toInt32))) (k + 1) (vp_nar .byte ((v >>> (16 &&& 31)).toInt8.toInt32))) (k + 1 + 1) (vp_nar .byte ((v >>> (8 &&& 31)).toInt8.toInt32))) (k + 1 + 1 + 1) (vp_nar .byte ((v >>> (0 &&& 31)).toInt8.toInt32)))))] H _ := hW
  refine lv_iinc (v := (-8)) (lv' := [(2, .int (-8)), (0, .ref bK), (1, .int v)]) hx hb d_K_take_30 hl (k := 0) rfl (by decide) (by decide) rfl (fun ls hl => ?_)
  refine lv_goto (tgt := 3) hx hb d_K_take_33 (by decide) ?_
  refine lv_iload_n hx hb d_K_take_3 rfl (lv_at hl 0 rfl) ?_
  refine lv_if_lt (tgt := 36) hx hb d_K_take_4 (by decide) (fun c_4 => ?_) (fun c_4 => absurd (by decide) c_4)
  rw [hQ]
  exact r_vret C hr hlk hW (upd (upd (upd (upd f k (vp_nar .byte ((v >>> (24 &&& 31)).toInt8.toInt32))) (k + 1) (vp_nar .byte ((v >>> (16 &&& 31)).toInt8.toInt32))) (k + 1 + 1) (vp_nar .byte ((v >>> (8 &&& 31)).toInt8.toInt32))) (k + 1 + 1 + 1) (vp_nar .byte ((v >>> (0 &&& 31)).toInt8.toInt32))) trivial [0, 1] (by decide) rfl d_K_take_36 (by decide) (by decide)
set_option maxHeartbeats 4000000 in
set_option maxRecDepth 100000 in
theorem c_K_feed (l : Launch) (D : va_G) (tI tB tZ tL : ClassId) (X : (Nat → Prop) → State → Prop) (hX : Ro X) (bK k_bytes bR bD bO k_product bW : Nat) (k0 k1 hd kq kf kl : Int32) (kc : Int32) (k : Nat) (f : Nat → Int32) (v1 v2 v3 v4 v5 : Int32) (hk : k + 20 ≤ 65536) : CtV l D tI tB tZ tL X y_K_feed b_K_feed 6 ({ frames := 1, cells := 0, slots := 0, locals := 22 }) [.ref bK, .int v1, .int v2, .int v3, .int v4, .int v5] [(bK, .inr (12, [.int k0, .int k1, .ref k_bytes, .int (nI k), .ref bR, .ref bD, .int hd, .ref bO, .ref k_product, .int kq, .ref bW, .int kc, .int kf, .int kl])), (k_bytes, .inl (tB, 65536, .inl f))] (S := Nat → Int32) (fun _ => True) (fun g => [(bK, .inr (12, [.int k0, .int k1, .ref k_bytes, .int (nI (k + 1 + 1 + 1 + 1 + 1 + 1 + 1 + 1 + 1 + 1 + 1 + 1 + 1 + 1 + 1 + 1 + 1 + 1 + 1 + 1)), .ref bR, .ref bD, .int hd, .ref bO, .ref k_product, .int kq, .ref bW, .int 0, .int kf, .int kl])), (k_bytes, .inl (tB, 65536, .inl g))]) := by
  refine CtV.start hX (by decide) (Nat.le_of_ble_eq_true rfl) ?_
  intro p e s m args below meth c A ls C hr hlk hin hW hl
  refine W.nameQ (fun Q hQ => ?_)
  have hx := C.1.1
  have hb := C.1.2.1
  have hown := C.1.2.2.2.1
  have hT := C.1.2.2.2.2
  have hl : lv_has ls 6 [(0, .ref bK), (1, .int v1), (2, .int v2), (3, .int v3), (4, .int v4), (5, .int v5)] := hl
  refine lv_aload_n hx hb d_K_feed_0 rfl (lv_at hl 0 rfl) ?_
  refine lv_aload_n hx hb d_K_feed_1 rfl (lv_at hl 0 rfl) ?_
  refine r_get C hW 0 rfl k_K i_K 3 (by decide) rfl w_2562 d_K_feed_2 ?_
  refine lv_bipush (v := 20) hx hb d_K_feed_5 (by decide) ?_
  refine lv_iadd hx hb d_K_feed_7 ?_
  refine W.eq (congrArg (fun z : Int32 => F0 m 8 ls (.int z :: [.ref bK])) (show ((nI k) + 20) = nI (k + 20) from (nI_add k 20))) ?_
  refine lv_ldc (v := 65536) hx hb hown (hT _ w_2088) d_K_feed_8 ?_
  refine lv_icmp_le (tgt := 17) hx hb d_K_feed_10 (by decide) (fun c_10 => ?_) (fun c_10 => absurd (nI_le (a := k + 20) (b := 65536) hk (by decide)) c_10)
  refine lv_iconst (v := 0) hx hb d_K_feed_17 (by decide) ?_
  refine r_put (v := .int 0) (ty := .int) C hW 0 rfl k_K i_K t_K o_K n_K 11 (by decide) w_2570 rfl (by decide +kernel) rfl rfl (Nat.le_of_ble_eq_true rfl) d_K_feed_18 (fun H locs hW => ?_)
  have hW : Wd D A s [(bK, .inr (12, [.int k0, .int k1, .ref k_bytes, .int (nI k), .ref bR, .ref bD, .int hd, .ref bO, .ref k_product, .int kq, .ref bW, .int 0, .int kf, .int kl])), (k_bytes, .inl (tB, 65536, .inl f))] H _ := hW
  refine lv_aload_n hx hb d_K_feed_21 rfl (lv_at hl 0 rfl) ?_
  refine r_get C hW 0 rfl k_K i_K 11 (by decide) rfl w_2570 d_K_feed_22 ?_
  refine lv_if_ne (tgt := 55) hx hb d_K_feed_25 (by decide) (fun c_25 => absurd rfl c_25) (fun c_25 => ?_)
  refine lv_aload_n hx hb d_K_feed_28 rfl (lv_at hl 0 rfl) ?_
  refine lv_iload_n hx hb d_K_feed_29 rfl (lv_at hl 1 rfl) ?_
  refine r_callV [.int v1] [] C hl.1 hW (c_K_take l D tI tB tZ tL X hX bK k_bytes bR bD bO k_product bW k0 k1 hd kq kf kl 0 (k) f v1 (by omega)) ok_K_take w_2610 (wr := []) [0, 1] [] rfl rfl (by decide) (by decide) (by decide) 0 rfl k_K rfl (by decide) (Nat.le_of_ble_eq_true rfl) (by decide) d_K_feed_30 (fun g1 H locs hg hW => ?_)
  have hW : Wd D A s [(bK, .inr (12, [.int k0, .int k1, .ref k_bytes, .int (nI (k + 1 + 1 + 1 + 1)), .ref bR, .ref bD, .int hd, .ref bO, .ref k_product, .int kq, .ref bW, .int 0, .int kf, .int kl])), (k_bytes, .inl (tB, 65536, .inl g1))] H _ := hW
  refine lv_aload_n hx hb d_K_feed_33 rfl (lv_at hl 0 rfl) ?_
  refine lv_iload_n hx hb d_K_feed_34 rfl (lv_at hl 2 rfl) ?_
  refine r_callV [.int v2] [] C hl.1 hW (c_K_take l D tI tB tZ tL X hX bK k_bytes bR bD bO k_product bW k0 k1 hd kq kf kl 0 (k + 1 + 1 + 1 + 1) g1 v2 (by omega)) ok_K_take w_2610 (wr := []) [0, 1] [] rfl rfl (by decide) (by decide) (by decide) 0 rfl k_K rfl (by decide) (Nat.le_of_ble_eq_true rfl) (by decide) d_K_feed_35 (fun g2 H locs hg hW => ?_)
  have hW : Wd D A s [(bK, .inr (12, [.int k0, .int k1, .ref k_bytes, .int (nI (k + 1 + 1 + 1 + 1 + 1 + 1 + 1 + 1)), .ref bR, .ref bD, .int hd, .ref bO, .ref k_product, .int kq, .ref bW, .int 0, .int kf, .int kl])), (k_bytes, .inl (tB, 65536, .inl g2))] H _ := hW
  refine lv_aload_n hx hb d_K_feed_38 rfl (lv_at hl 0 rfl) ?_
  refine lv_iload_n hx hb d_K_feed_39 rfl (lv_at hl 3 rfl) ?_
  refine r_callV [.int v3] [] C hl.1 hW (c_K_take l D tI tB tZ tL X hX bK k_bytes bR bD bO k_product bW k0 k1 hd kq kf kl 0 (k + 1 + 1 + 1 + 1 + 1 + 1 + 1 + 1) g2 v3 (by omega)) ok_K_take w_2610 (wr := []) [0, 1] [] rfl rfl (by decide) (by decide) (by decide) 0 rfl k_K rfl (by decide) (Nat.le_of_ble_eq_true rfl) (by decide) d_K_feed_40 (fun g3 H locs hg hW => ?_)
  have hW : Wd D A s [(bK, .inr (12, [.int k0, .int k1, .ref k_bytes, .int (nI (k + 1 + 1 + 1 + 1 + 1 + 1 + 1 + 1 + 1 + 1 + 1 + 1)), .ref bR, .ref bD, .int hd, .ref bO, .ref k_product, .int kq, .ref bW, .int 0, .int kf, .int kl])), (k_bytes, .inl (tB, 65536, .inl g3))] H _ := hW
  refine lv_aload_n hx hb d_K_feed_43 rfl (lv_at hl 0 rfl) ?_
  refine lv_iload hx hb d_K_feed_44 (lv_at hl 4 rfl) ?_
  refine r_callV [.int v4] [] C hl.1 hW (c_K_take l D tI tB tZ tL X hX bK k_bytes bR bD bO k_product bW k0 k1 hd kq kf kl 0 (k + 1 + 1 + 1 + 1 + 1 + 1 + 1 + 1 + 1 + 1 + 1 + 1) g3 v4 (by omega)) ok_K_take w_2610 (wr := []) [0, 1] [] rfl rfl (by decide) (by decide) (by decide) 0 rfl k_K rfl (by decide) (Nat.le_of_ble_eq_true rfl) (by decide) d_K_feed_46 (fun g4 H locs hg hW => ?_)
  have hW : Wd D A s [(bK, .inr (12, [.int k0, .int k1, .ref k_bytes, .int (nI (k + 1 + 1 + 1 + 1 + 1 + 1 + 1 + 1 + 1 + 1 + 1 + 1 + 1 + 1 + 1 + 1)), .ref bR, .ref bD, .int hd, .ref bO, .ref k_product, .int kq, .ref bW, .int 0, .int kf, .int kl])), (k_bytes, .inl (tB, 65536, .inl g4))] H _ := hW
  refine lv_aload_n hx hb d_K_feed_49 rfl (lv_at hl 0 rfl) ?_
  refine lv_iload hx hb d_K_feed_50 (lv_at hl 5 rfl) ?_
  refine r_callV [.int v5] [] C hl.1 hW (c_K_take l D tI tB tZ tL X hX bK k_bytes bR bD bO k_product bW k0 k1 hd kq kf kl 0 (k + 1 + 1 + 1 + 1 + 1 + 1 + 1 + 1 + 1 + 1 + 1 + 1 + 1 + 1 + 1 + 1) g4 v5 (by omega)) ok_K_take w_2610 (wr := []) [0, 1] [] rfl rfl (by decide) (by decide) (by decide) 0 rfl k_K rfl (by decide) (Nat.le_of_ble_eq_true rfl) (by decide) d_K_feed_52 (fun g5 H locs hg hW => ?_)
  have hW : Wd D A s [(bK, .inr (12, [.int k0, .int k1, .ref k_bytes, .int (nI (k + 1 + 1 + 1 + 1 + 1 + 1 + 1 + 1 + 1 + 1 + 1 + 1 + 1 + 1 + 1 + 1 + 1 + 1 + 1 + 1)), .ref bR, .ref bD, .int hd, .ref bO, .ref k_product, .int kq, .ref bW, .int 0, .int kf, .int kl])), (k_bytes, .inl (tB, 65536, .inl g5))] H _ := hW
  rw [hQ]
  exact r_vret C hr hlk hW g5 trivial [0, 1] (by decide) rfl d_K_feed_55 (by decide) (by decide)
set_option maxHeartbeats 4000000 in
set_option maxRecDepth 100000 in
/-- end(n), where it answers -/
theorem c_J_end_ok (l : Launch) (D : va_G) (tI tB tZ tL : ClassId) (X : (Nat → Prop) → State → Prop) (hX : Ro X) (aJ j_bytes aS aR aE aD aO aT aC aV aM aW : Nat) (ja jf jp : Int32) (n ct : Int32) (h0 : ¬ n < 0) (h1 : n ≤ ct) : CtI l D tI tB tZ tL X y_J_end b_J_end 3 .int ({ frames := 0, cells := 0, slots := 0, locals := 0 }) [.ref aJ, .int n] [(aJ, .inr (0, [.ref j_bytes, .int ct, .ref aS, .ref aR, .ref aE, .ref aD, .ref aO, .ref aT, .ref aC, .ref aV, .ref aM, .ref aW, .int ja, .int jf, .int jp]))] (S := Unit) (fun (r : Int32) (_ : Unit) => r = ct) (fun _ => [(aJ, .inr (0, [.ref j_bytes, .int n, .ref aS, .ref aR, .ref aE, .ref aD, .ref aO, .ref aT, .ref aC, .ref aV, .ref aM, .ref aW, .int ja, .int jf, .int jp]))]) := by
  refine CtI.start hX (by decide) (Nat.le_of_ble_eq_true rfl) ?_
  intro p e s m args below meth c A ls C hr hlk hW hl
  refine W.nameQ (fun Q hQ => ?_)
  have hx := C.1.1
  have hb := C.1.2.1
  have hown := C.1.2.2.2.1
  have hT := C.1.2.2.2.2
  have hl : lv_has ls 3 [(0, .ref aJ), (1, .int n)] := hl
  refine lv_iload_n hx hb d_J_end_0 rfl (lv_at hl 1 rfl) ?_
  refine lv_if_lt (tgt := 12) hx hb d_J_end_1 (by decide) (fun c_1 => absurd c_1 h0) (fun c_1 => ?_)
  refine lv_iload_n hx hb d_J_end_4 rfl (lv_at hl 1 rfl) ?_
  refine lv_aload_n hx hb d_J_end_5 rfl (lv_at hl 0 rfl) ?_
  refine r_get C hW 0 rfl k_J i_J 1 (by decide) rfl w_787 d_J_end_6 ?_
  refine lv_icmp_le (tgt := 22) hx hb d_J_end_9 (by decide) (fun c_9 => ?_) (fun c_9 => absurd h1 c_9)
  refine lv_aload_n hx hb d_J_end_22 rfl (lv_at hl 0 rfl) ?_
  refine r_get C hW 0 rfl k_J i_J 1 (by decide) rfl w_787 d_J_end_23 ?_
  refine lv_istore_n (lv' := [(2, .int ct), (0, .ref aJ), (1, .int n)]) hx hb d_J_end_26 rfl hl (by decide) rfl (fun ls hl => ?_)
  refine lv_aload_n hx hb d_J_end_27 rfl (lv_at hl 1 rfl) ?_
  refine lv_iload_n hx hb d_J_end_28 rfl (lv_at hl 2 rfl) ?_
  refine r_put (v := .int n) (ty := .int) C hW 0 rfl k_J i_J t_J o_J n_J 1 (by decide) w_787 rfl (by decide +kernel) rfl rfl (Nat.le_of_ble_eq_true rfl) d_J_end_29 (fun H locs hW => ?_)
  have hW : Wd D A s [(aJ, .inr (0, [.ref j_bytes, .int n, .ref aS, .ref aR, .ref aE, .ref aD, .ref aO, .ref aT, .ref aC, .ref aV, .ref aM, .ref aW, .int ja, .int jf, .int jp]))] H _ := hW
  refine lv_iload_n hx hb d_J_end_32 rfl (lv_at hl 0 rfl) ?_
  rw [hQ]
  exact r_iret C hr hlk hW rfl () rfl [0] (by decide) rfl d_J_end_33 (by decide) (by decide)
set_option maxHeartbeats 4000000 in
set_option maxRecDepth 100000 in
/-- end(n) of the reference -/
theorem c_K_end (l : Launch) (D : va_G) (tI tB tZ tL : ClassId) (X : (Nat → Prop) → State → Prop) (hX : Ro X) (bK k_bytes bR bD bO k_product bW : Nat) (k0 k1 hd kq kf kl : Int32) (kc n ks : Int32) : CtI l D tI tB tZ tL X y_K_end b_K_end 3 .int ({ frames := 0, cells := 0, slots := 0, locals := 0 }) [.ref bK, .int n] [(bK, .inr (12, [.int k0, .int k1, .ref k_bytes, .int ks, .ref bR, .ref bD, .int hd, .ref bO, .ref k_product, .int kq, .ref bW, .int kc, .int kf, .int kl]))] (S := Int32 × Int32) (fun (r : Int32) (u : Int32 × Int32) => ((n < 0 ∨ ks < n) ∧ u = (1, ks) ∧ r = 0) ∨ (¬ n < 0 ∧ n ≤ ks ∧ u = (0, n) ∧ r = ks)) (fun u => [(bK, .inr (12, [.int k0, .int k1, .ref k_bytes, .int u.2, .ref bR, .ref bD, .int hd, .ref bO, .ref k_product, .int kq, .ref bW, .int u.1, .int kf, .int kl]))]) := by
  refine CtI.start hX (by decide) (Nat.le_of_ble_eq_true rfl) ?_
  intro p e s m args below meth c A ls C hr hlk hW hl
  refine W.nameQ (fun Q hQ => ?_)
  have hx := C.1.1
  have hb := C.1.2.1
  have hown := C.1.2.2.2.1
  have hT := C.1.2.2.2.2
  have hl : lv_has ls 3 [(0, .ref bK), (1, .int n)] := hl
  refine lv_aload_n hx hb d_K_end_0 rfl (lv_at hl 0 rfl) ?_
  refine lv_iload_n hx hb d_K_end_1 rfl (lv_at hl 1 rfl) ?_
  refine lv_if_lt (tgt := 13) hx hb d_K_end_2 (by decide) (fun c_2 => ?_) (fun c_2 => ?_)
  · refine lv_iconst (v := 1) hx hb d_K_end_13 (by decide) ?_
    refine lv_goto (tgt := 18) hx hb d_K_end_14 (by decide) ?_
    refine r_put (v := .int 1) (ty := .int) C hW 0 rfl k_K i_K t_K o_K n_K 11 (by decide) w_2570 rfl (by decide +kernel) rfl rfl (Nat.le_of_ble_eq_true rfl) d_K_end_18 (fun H locs hW => ?_)
    have hW : Wd D A s [(bK, .inr (12, [.int k0, .int k1, .ref k_bytes, .int ks, .ref bR, .ref bD, .int hd, .ref bO, .ref k_product, .int kq, .ref bW, .int 1, .int kf, .int kl]))] H _ := hW
    refine lv_aload_n hx hb d_K_end_21 rfl (lv_at hl 0 rfl) ?_
    refine r_get C hW 0 rfl k_K i_K 11 (by decide) rfl w_2570 d_K_end_22 ?_
    refine lv_if_le (tgt := 30) hx hb d_K_end_25 (by decide) (fun c_25 => absurd c_25 (by decide)) (fun c_25 => ?_)
    refine lv_iconst (v := 0) hx hb d_K_end_28 (by decide) ?_
    rw [hQ]
    exact r_iret C hr hlk hW rfl (1, ks) (by first | exact Or.inr ⟨c_2, c_10, rfl, rfl⟩ | exact Or.inl ⟨Or.inl c_2, rfl, rfl⟩ | exact Or.inl ⟨Or.inr (Int32.not_le.mp c_10), rfl, rfl⟩) [0] (by decide) rfl d_K_end_29 (by decide) (by decide)
  · refine lv_iload_n hx hb d_K_end_5 rfl (lv_at hl 1 rfl) ?_
    refine lv_aload_n hx hb d_K_end_6 rfl (lv_at hl 0 rfl) ?_
    refine r_get C hW 0 rfl k_K i_K 3 (by decide) rfl w_2562 d_K_end_7 ?_
    refine lv_icmp_le (tgt := 17) hx hb d_K_end_10 (by decide) (fun c_10 => ?_) (fun c_10 => ?_)
    · refine lv_iconst (v := 0) hx hb d_K_end_17 (by decide) ?_
      refine r_put (v := .int 0) (ty := .int) C hW 0 rfl k_K i_K t_K o_K n_K 11 (by decide) w_2570 rfl (by decide +kernel) rfl rfl (Nat.le_of_ble_eq_true rfl) d_K_end_18 (fun H locs hW => ?_)
      have hW : Wd D A s [(bK, .inr (12, [.int k0, .int k1, .ref k_bytes, .int ks, .ref bR, .ref bD, .int hd, .ref bO, .ref k_product, .int kq, .ref bW, .int 0, .int kf, .int kl]))] H _ := hW
      refine lv_aload_n hx hb d_K_end_21 rfl (lv_at hl 0 rfl) ?_
      refine r_get C hW 0 rfl k_K i_K 11 (by decide) rfl w_2570 d_K_end_22 ?_
      refine lv_if_le (tgt := 30) hx hb d_K_end_25 (by decide) (fun c_25 => ?_) (fun c_25 => absurd (by decide) c_25)
      refine lv_aload_n hx hb d_K_end_30 rfl (lv_at hl 0 rfl) ?_
      refine r_get C hW 0 rfl k_K i_K 3 (by decide) rfl w_2562 d_K_end_31 ?_
      refine lv_istore_n (lv' := [(2, .int ks), (0, .ref bK), (1, .int n)]) hx hb d_K_end_34 rfl hl (by decide) rfl (fun ls hl => ?_)
      refine lv_aload_n hx hb d_K_end_35 rfl (lv_at hl 1 rfl) ?_
      refine lv_iload_n hx hb d_K_end_36 rfl (lv_at hl 2 rfl) ?_
      refine r_put (v := .int n) (ty := .int) C hW 0 rfl k_K i_K t_K o_K n_K 3 (by decide) w_2562 rfl (by decide +kernel) rfl rfl (Nat.le_of_ble_eq_true rfl) d_K_end_37 (fun H locs hW => ?_)
      have hW : Wd D A s [(bK, .inr (12, [.int k0, .int k1, .ref k_bytes, .int n, .ref bR, .ref bD, .int hd, .ref bO, .ref k_product, .int kq, .ref bW, .int 0, .int kf, .int kl]))] H _ := hW
      refine lv_iload_n hx hb d_K_end_40 rfl (lv_at hl 0 rfl) ?_
      rw [hQ]
      exact r_iret C hr hlk hW rfl (0, n) (by first | exact Or.inr ⟨c_2, c_10, rfl, rfl⟩ | exact Or.inl ⟨Or.inl c_2, rfl, rfl⟩ | exact Or.inl ⟨Or.inr (Int32.not_le.mp c_10), rfl, rfl⟩) [0] (by decide) rfl d_K_end_41 (by decide) (by decide)
    · refine lv_iconst (v := 1) hx hb d_K_end_13 (by decide) ?_
      refine lv_goto (tgt := 18) hx hb d_K_end_14 (by decide) ?_
      refine r_put (v := .int 1) (ty := .int) C hW 0 rfl k_K i_K t_K o_K n_K 11 (by decide) w_2570 rfl (by decide +kernel) rfl rfl (Nat.le_of_ble_eq_true rfl) d_K_end_18 (fun H locs hW => ?_)
      have hW : Wd D A s [(bK, .inr (12, [.int k0, .int k1, .ref k_bytes, .int ks, .ref bR, .ref bD, .int hd, .ref bO, .ref k_product, .int kq, .ref bW, .int 1, .int kf, .int kl]))] H _ := hW
      refine lv_aload_n hx hb d_K_end_21 rfl (lv_at hl 0 rfl) ?_
      refine r_get C hW 0 rfl k_K i_K 11 (by decide) rfl w_2570 d_K_end_22 ?_
      refine lv_if_le (tgt := 30) hx hb d_K_end_25 (by decide) (fun c_25 => absurd c_25 (by decide)) (fun c_25 => ?_)
      refine lv_iconst (v := 0) hx hb d_K_end_28 (by decide) ?_
      rw [hQ]
      exact r_iret C hr hlk hW rfl (1, ks) (by first | exact Or.inr ⟨c_2, c_10, rfl, rfl⟩ | exact Or.inl ⟨Or.inl c_2, rfl, rfl⟩ | exact Or.inl ⟨Or.inr (Int32.not_le.mp c_10), rfl, rfl⟩) [0] (by decide) rfl d_K_end_29 (by decide) (by decide)
