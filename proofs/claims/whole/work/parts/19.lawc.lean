def y_L_cell : MethodName := ⟨"MarkupJudgeLaw", "cell", "([II)I"⟩
abbrev b_L_cell : ByteArray := method_2_code
def y_L_end : MethodName := ⟨"MarkupJudgeLaw", "end", "(LMarkupJudge;I[J)I"⟩
abbrev b_L_end : ByteArray := method_4_code
def y_L_feed : MethodName := ⟨"MarkupJudgeLaw", "feed", "(LMarkupJudge;IIIII)I"⟩
abbrev b_L_feed : ByteArray := method_3_code
theorem w_28 : (Jvm.Cond.initialized "java/lang/IllegalArgumentException") ∈ lwG := s_1 (List.mem_of_getElem? (i := 28) rfl) rfl
theorem w_855 : (Jvm.Cond.instantiable "java/lang/IllegalArgumentException" (6 : Nat)) ∈ lwG := s_4 (List.mem_of_getElem? (i := 135) rfl) rfl
theorem w_2046 : (Jvm.Cond.methodLink "MarkupJudgeLaw" (7 : Nat) ({ cls := "MarkupJudge", name := "feed", desc := "(IIIII)V" } : Jvm.MethodName)) ∈ lwG := s_9 (List.mem_of_getElem? (i := 126) rfl) rfl
theorem w_2074 : (Jvm.Cond.classLink "MarkupJudgeLaw" (19 : Nat) "java/lang/IllegalArgumentException") ∈ lwG := s_9 (List.mem_of_getElem? (i := 154) rfl) rfl
theorem w_2075 : (Jvm.Cond.methodLink "MarkupJudgeLaw" (15 : Nat) ({ cls := "MarkupJudge", name := "end", desc := "(I)I" } : Jvm.MethodName)) ∈ lwG := s_9 (List.mem_of_getElem? (i := 155) rfl) rfl
theorem w_2079 : (Jvm.Cond.classLink "MarkupJudge" (124 : Nat) "java/lang/IllegalArgumentException") ∈ lwG := s_9 (List.mem_of_getElem? (i := 159) rfl) rfl
theorem ok_J_end : okV y_J_end b_J_end 3 (some .int) 1 := ⟨s_9 (List.mem_of_getElem? (i := 158) rfl) rfl, s_9 (List.mem_of_getElem? (i := 156) rfl) rfl, s_9 (List.mem_of_getElem? (i := 157) rfl) rfl, s_1 (List.mem_of_getElem? (i := 1) rfl) rfl, ⟨by decide +kernel, by decide +kernel, by decide +kernel⟩⟩
theorem ok_J_feed : okV y_J_feed b_J_feed 6 none 5 := ⟨s_9 (List.mem_of_getElem? (i := 129) rfl) rfl, s_9 (List.mem_of_getElem? (i := 127) rfl) rfl, s_9 (List.mem_of_getElem? (i := 128) rfl) rfl, s_1 (List.mem_of_getElem? (i := 1) rfl) rfl, ⟨by decide +kernel, by decide +kernel, by decide +kernel⟩⟩
theorem d_J_end_12 : decode b_J_end 12 = .ok (.new 124, 3) := by decide +kernel
theorem d_J_end_15 : decode b_J_end 15 = .ok (.dup, 1) := by decide +kernel
theorem d_J_end_16 : decode b_J_end 16 = .ok (.ldc 126, 2) := by decide +kernel
theorem d_J_end_18 : decode b_J_end 18 = .ok (.invokespecial 128, 3) := by decide +kernel
theorem d_J_end_21 : decode b_J_end 21 = .ok (.athrow, 1) := by decide +kernel
theorem d_L_cell_0 : decode b_L_cell 0 = .ok (.iload_n 1, 1) := by decide +kernel
theorem d_L_cell_1 : decode b_L_cell 1 = .ok (.aload_n 0, 1) := by decide +kernel
theorem d_L_cell_2 : decode b_L_cell 2 = .ok (.arraylength, 1) := by decide +kernel
theorem d_L_cell_3 : decode b_L_cell 3 = .ok (.if_icmp .ge 9, 3) := by decide +kernel
theorem d_L_cell_6 : decode b_L_cell 6 = .ok (.aload_n 0, 1) := by decide +kernel
theorem d_L_cell_7 : decode b_L_cell 7 = .ok (.iload_n 1, 1) := by decide +kernel
theorem d_L_cell_8 : decode b_L_cell 8 = .ok (.iaload, 1) := by decide +kernel
theorem d_L_cell_9 : decode b_L_cell 9 = .ok (.goto 4, 3) := by decide +kernel
theorem d_L_cell_12 : decode b_L_cell 12 = .ok (.iconst 0, 1) := by decide +kernel
theorem d_L_cell_13 : decode b_L_cell 13 = .ok (.ireturn, 1) := by decide +kernel
theorem d_L_end_0 : decode b_L_end 0 = .ok (.aload_n 2, 1) := by decide +kernel
theorem d_L_end_1 : decode b_L_end 1 = .ok (.iconst 0, 1) := by decide +kernel
theorem d_L_end_2 : decode b_L_end 2 = .ok (.aload_n 0, 1) := by decide +kernel
theorem d_L_end_3 : decode b_L_end 3 = .ok (.iload_n 1, 1) := by decide +kernel
theorem d_L_end_4 : decode b_L_end 4 = .ok (.invokevirtual 15, 3) := by decide +kernel
theorem d_L_end_7 : decode b_L_end 7 = .ok (.i2l, 1) := by decide +kernel
theorem d_L_end_8 : decode b_L_end 8 = .ok (.lastore, 1) := by decide +kernel
theorem d_L_end_9 : decode b_L_end 9 = .ok (.goto 6, 3) := by decide +kernel
theorem d_L_end_12 : decode b_L_end 12 = .ok (.astore_n 3, 1) := by decide +kernel
theorem d_L_end_13 : decode b_L_end 13 = .ok (.iconst 1, 1) := by decide +kernel
theorem d_L_end_14 : decode b_L_end 14 = .ok (.ireturn, 1) := by decide +kernel
theorem d_L_end_15 : decode b_L_end 15 = .ok (.iconst 0, 1) := by decide +kernel
theorem d_L_end_16 : decode b_L_end 16 = .ok (.ireturn, 1) := by decide +kernel
theorem d_L_feed_0 : decode b_L_feed 0 = .ok (.aload_n 0, 1) := by decide +kernel
theorem d_L_feed_1 : decode b_L_feed 1 = .ok (.iload_n 1, 1) := by decide +kernel
theorem d_L_feed_2 : decode b_L_feed 2 = .ok (.iload_n 2, 1) := by decide +kernel
theorem d_L_feed_3 : decode b_L_feed 3 = .ok (.iload_n 3, 1) := by decide +kernel
theorem d_L_feed_4 : decode b_L_feed 4 = .ok (.iload 4, 2) := by decide +kernel
theorem d_L_feed_6 : decode b_L_feed 6 = .ok (.iload 5, 2) := by decide +kernel
theorem d_L_feed_8 : decode b_L_feed 8 = .ok (.invokevirtual 7, 3) := by decide +kernel
theorem d_L_feed_11 : decode b_L_feed 11 = .ok (.goto 7, 3) := by decide +kernel
theorem d_L_feed_18 : decode b_L_feed 18 = .ok (.iconst 0, 1) := by decide +kernel
theorem d_L_feed_19 : decode b_L_feed 19 = .ok (.ireturn, 1) := by decide +kernel
set_option maxHeartbeats 4000000 in
set_option maxRecDepth 100000 in
/-- cell(script, j) -/
theorem c_L_cell (l : Launch) (D : va_G) (tI tB tZ tL : ClassId) (X : (Nat → Prop) → State → Prop) (hX : Ro X) (b L j : Nat) (xs : Nat → Int32) (hsc : ∀ A U, X A U → scAt b L xs A U) (hL : L < 2 ^ 31) (hj31 : j < 2 ^ 31) : CtI l D tI tB tZ tL X y_L_cell b_L_cell 2 .int ({ frames := 0, cells := 0, slots := 0, locals := 0 }) [.ref b, .int (nI j)] [] (S := Unit) (fun (r : Int32) (_ : Unit) => r = if j < L then xs j else 0) (fun _ => []) := by
  refine CtI.start hX (by decide) (Nat.le_of_ble_eq_true rfl) ?_
  intro p e s m args below meth c A ls C hr hlk hW hl
  refine W.nameQ (fun Q hQ => ?_)
  have hx := C.1.1
  have hb := C.1.2.1
  have hown := C.1.2.2.2.1
  have hT := C.1.2.2.2.2
  have hl : lv_has ls 2 [(0, .ref b), (1, .int (nI j))] := hl
  refine lv_iload_n hx hb d_L_cell_0 rfl (lv_at hl 1 rfl) ?_
  refine lv_aload_n hx hb d_L_cell_1 rfl (lv_at hl 0 rfl) ?_
  refine va_slen hx hb (hsc A s C.2.2.2.1).1 (hsc A s C.2.2.2.1).2.1 (hsc A s C.2.2.2.1).2.2 hW.2.2 d_L_cell_2 ?_
  refine lv_icmp_ge (tgt := 12) hx hb d_L_cell_3 (by decide) (fun c_3 => ?_) (fun c_3 => ?_)
  · have hj : ¬ j < L := Nat.not_lt.mpr (k_le c_3 hL hj31)
    refine lv_iconst (v := 0) hx hb d_L_cell_12 (by decide) ?_
    rw [hQ]
    exact r_iret C hr hlk hW rfl () (by first | rw [if_pos hj] | rw [if_neg hj]) [] (by decide) rfl d_L_cell_13 (by decide) (by decide)
  · have hj : j < L := k_nle c_3 hL hj31
    refine lv_aload_n hx hb d_L_cell_6 rfl (lv_at hl 0 rfl) ?_
    refine lv_iload_n hx hb d_L_cell_7 rfl (lv_at hl 1 rfl) ?_
    refine va_sld hx hb (hsc A s C.2.2.2.1).1 (hsc A s C.2.2.2.1).2.1 (hsc A s C.2.2.2.1).2.2 hW.2.2 (vp_in_nI hj hL) d_L_cell_8 ?_
    refine W.eq (congrArg (fun z : Int32 => F0 m 9 ls (.int z :: [])) (show (xs (nI j).toNatClampNeg) = (xs j) from (by rw [nI_clamp hj31]))) ?_
    refine lv_goto (tgt := 13) hx hb d_L_cell_9 (by decide) ?_
    rw [hQ]
    exact r_iret C hr hlk hW rfl () (by first | rw [if_pos hj] | rw [if_neg hj]) [] (by decide) rfl d_L_cell_13 (by decide) (by decide)
set_option maxHeartbeats 4000000 in
set_option maxRecDepth 100000 in
/-- the law's feed, where there is room -/
theorem c_L_feed (l : Launch) (D : va_G) (tI tB tZ tL : ClassId) (X : (Nat → Prop) → State → Prop) (hX : Ro X) (aJ j_bytes aS aR aE aD aO aT aC aV aM aW : Nat) (ja jf jp : Int32) (k : Nat) (f : Nat → Int32) (v1 v2 v3 v4 v5 : Int32) (hk : k + 20 ≤ 65536) : CtIW l D tI tB tZ tL X y_L_feed b_L_feed 7 .int [(0, 11, 14, 13)] ({ frames := 2, cells := 0, slots := 0, locals := 47 }) [.ref aJ, .int v1, .int v2, .int v3, .int v4, .int v5] [(aJ, .inr (0, [.ref j_bytes, .int (nI k), .ref aS, .ref aR, .ref aE, .ref aD, .ref aO, .ref aT, .ref aC, .ref aV, .ref aM, .ref aW, .int ja, .int jf, .int jp])), (j_bytes, .inl (tB, 65536, .inl f))] (S := Nat → Int32) (fun (r : Int32) (_ : Nat → Int32) => r = 0) (fun g => [(aJ, .inr (0, [.ref j_bytes, .int (nI (k + 1 + 1 + 1 + 1 + 1 + 1 + 1 + 1 + 1 + 1 + 1 + 1 + 1 + 1 + 1 + 1 + 1 + 1 + 1 + 1)), .ref aS, .ref aR, .ref aE, .ref aD, .ref aO, .ref aT, .ref aC, .ref aV, .ref aM, .ref aW, .int ja, .int jf, .int jp])), (j_bytes, .inl (tB, 65536, .inl g))]) := by
  refine CtIW.start hX (by decide) (Nat.le_of_ble_eq_true rfl) ?_
  intro p e s m args below meth c A ls C hr hlk htb hW hl
  refine W.nameQ (fun Q hQ => ?_)
  have hx := C.1.1
  have hb := C.1.2.1
  have hown := C.1.2.2.2.1
  have hT := C.1.2.2.2.2
  have hl : lv_has ls 7 [(0, .ref aJ), (1, .int v1), (2, .int v2), (3, .int v3), (4, .int v4), (5, .int v5)] := hl
  refine lv_aload_n hx hb d_L_feed_0 rfl (lv_at hl 0 rfl) ?_
  refine lv_iload_n hx hb d_L_feed_1 rfl (lv_at hl 1 rfl) ?_
  refine lv_iload_n hx hb d_L_feed_2 rfl (lv_at hl 2 rfl) ?_
  refine lv_iload_n hx hb d_L_feed_3 rfl (lv_at hl 3 rfl) ?_
  refine lv_iload hx hb d_L_feed_4 (lv_at hl 4 rfl) ?_
  refine lv_iload hx hb d_L_feed_6 (lv_at hl 5 rfl) ?_
  refine r_callV [.int v1, .int v2, .int v3, .int v4, .int v5] [] C hl.1 hW (c_J_feed l D tI tB tZ tL X hX aJ j_bytes aS aR aE aD aO aT aC aV aM aW ja jf jp k f v1 v2 v3 v4 v5 hk) ok_J_feed w_2046 (wr := []) [0, 1] [] rfl rfl (by decide) (by decide) (by decide) 0 rfl k_J rfl (by decide) (Nat.le_of_ble_eq_true rfl) (by decide) d_L_feed_8 (fun g H locs hg hW => ?_)
  have hW : Wd D A s [(aJ, .inr (0, [.ref j_bytes, .int (nI (k + 1 + 1 + 1 + 1 + 1 + 1 + 1 + 1 + 1 + 1 + 1 + 1 + 1 + 1 + 1 + 1 + 1 + 1 + 1 + 1)), .ref aS, .ref aR, .ref aE, .ref aD, .ref aO, .ref aT, .ref aC, .ref aV, .ref aM, .ref aW, .int ja, .int jf, .int jp])), (j_bytes, .inl (tB, 65536, .inl g))] H _ := hW
  refine lv_goto (tgt := 18) hx hb d_L_feed_11 (by decide) ?_
  refine lv_iconst (v := 0) hx hb d_L_feed_18 (by decide) ?_
  rw [hQ]
  exact r_iret C hr hlk hW rfl g rfl [0, 1] (by decide) rfl d_L_feed_19 (by decide) (by decide)
set_option maxHeartbeats 4000000 in
set_option maxRecDepth 100000 in
/-- the law's end, where it answers -/
theorem c_L_end_ok (l : Launch) (D : va_G) (tI tB tZ tL : ClassId) (X : (Nat → Prop) → State → Prop) (hX : Ro X) (aJ j_bytes aS aR aE aD aO aT aC aV aM aW qo : Nat) (ja jf jp : Int32) (n ct : Int32) (fo : Nat → Int64) (h0 : ¬ n < 0) (h1 : n ≤ ct) : CtIW l D tI tB tZ tL X y_L_end b_L_end 4 .int [(0, 9, 12, 19)] ({ frames := 1, cells := 0, slots := 0, locals := 22 }) [.ref aJ, .int n, .ref qo] [(aJ, .inr (0, [.ref j_bytes, .int ct, .ref aS, .ref aR, .ref aE, .ref aD, .ref aO, .ref aT, .ref aC, .ref aV, .ref aM, .ref aW, .int ja, .int jf, .int jp])), (qo, .inl (tL, 1, .inr (.inl fo)))] (S := Unit) (fun (r : Int32) (_ : Unit) => r = 0) (fun _ => [(aJ, .inr (0, [.ref j_bytes, .int n, .ref aS, .ref aR, .ref aE, .ref aD, .ref aO, .ref aT, .ref aC, .ref aV, .ref aM, .ref aW, .int ja, .int jf, .int jp])), (qo, .inl (tL, 1, .inr (.inl (vp_updL fo 0 ct.toInt64))))]) := by
  refine CtIW.start hX (by decide) (Nat.le_of_ble_eq_true rfl) ?_
  intro p e s m args below meth c A ls C hr hlk htb hW hl
  refine W.nameQ (fun Q hQ => ?_)
  have hx := C.1.1
  have hb := C.1.2.1
  have hown := C.1.2.2.2.1
  have hT := C.1.2.2.2.2
  have hl : lv_has ls 4 [(0, .ref aJ), (1, .int n), (2, .ref qo)] := hl
  refine lv_aload_n hx hb d_L_end_0 rfl (lv_at hl 2 rfl) ?_
  refine lv_iconst (v := 0) hx hb d_L_end_1 (by decide) ?_
  refine lv_aload_n hx hb d_L_end_2 rfl (lv_at hl 0 rfl) ?_
  refine lv_iload_n hx hb d_L_end_3 rfl (lv_at hl 1 rfl) ?_
  refine r_callVi [.int n] [.int 0, .ref qo] C hl.1 hW (c_J_end_ok l D tI tB tZ tL X hX aJ j_bytes aS aR aE aD aO aT aC aV aM aW ja jf jp n ct h0 h1) ok_J_end w_2075 (wr := [(qo, .inl (tL, 1, .inr (.inl fo)))]) [0] [1] rfl rfl (by decide) (by decide) (by decide) 0 rfl k_J rfl (by decide) (Nat.le_of_ble_eq_true rfl) (by decide) d_L_end_4 (fun r4 u_ H locs hu hW => ?_)
  rw [hu]
  have hW : Wd D A s [(qo, .inl (tL, 1, .inr (.inl fo))), (aJ, .inr (0, [.ref j_bytes, .int n, .ref aS, .ref aR, .ref aE, .ref aD, .ref aO, .ref aT, .ref aC, .ref aV, .ref aM, .ref aW, .int ja, .int jf, .int jp]))] H _ := hW
  refine lv_i2l hx hb d_L_end_7 rfl ?_
  refine r_stL C hW 0 rfl 0 rfl (by decide) (by decide) d_L_end_8 (fun H locs hW => ?_)
  have hW : Wd D A s [(qo, .inl (tL, 1, .inr (.inl (vp_updL fo 0 ct.toInt64)))), (aJ, .inr (0, [.ref j_bytes, .int n, .ref aS, .ref aR, .ref aE, .ref aD, .ref aO, .ref aT, .ref aC, .ref aV, .ref aM, .ref aW, .int ja, .int jf, .int jp]))] H _ := hW
  refine lv_goto (tgt := 15) hx hb d_L_end_9 (by decide) ?_
  refine lv_iconst (v := 0) hx hb d_L_end_15 (by decide) ?_
  rw [hQ]
  exact r_iret C hr hlk hW rfl () rfl [1, 0] (by decide) rfl d_L_end_16 (by decide) (by decide)
set_option maxHeartbeats 4000000 in
set_option maxRecDepth 100000 in
/-- end(n), where it throws -/
theorem c_J_end_thr (l : Launch) (D : va_G) (tI tB tZ tL : ClassId) (X : (Nat → Prop) → State → Prop) (hX : Ro X) (aJ j_bytes aS aR aE aD aO aT aC aV aM aW : Nat) (ja jf jp : Int32) (n ct : Int32) (hbad : n < 0 ∨ ct < n) (htr : l.stackTraces = false) (sq : Nat) (hk : ∀ A U, X A U → vk_R "MarkupJudge" 126 "not so many bytes" sq U) (hex : ∀ A U, X A U → exOk A U) : CtT l D tI tB tZ tL X y_J_end b_J_end 3 (some .int) ({ frames := 6, cells := 1, slots := 6, locals := 90 }) [.ref aJ, .int n] [(aJ, .inr (0, [.ref j_bytes, .int ct, .ref aS, .ref aR, .ref aE, .ref aD, .ref aO, .ref aT, .ref aC, .ref aV, .ref aM, .ref aW, .int ja, .int jf, .int jp]))] xIAE := by
  refine CtT.start hX (by decide) (Nat.le_of_ble_eq_true rfl) ?_
  intro p e s m args below meth c A ls C hlk hnh hW hl
  have hx := C.1.1
  have hb := C.1.2.1
  have hl : lv_has ls 3 [(0, .ref aJ), (1, .int n)] := hl
  refine lv_iload_n hx hb d_J_end_0 rfl (lv_at hl 1 rfl) ?_
  refine lv_if_lt (tgt := 12) hx hb d_J_end_1 (by decide) (fun c_1 => ?_) (fun c_1 => ?_)
  · exact r_throw C hl.1 hlk hnh htr w_2079 w_855 w_28 (hk A s C.2.2.2.1) (ex_all C.1.2.2.2.2 (hex A s C.2.2.2.1)) d_J_end_12 d_J_end_15 d_J_end_16 d_J_end_18 d_J_end_21 (by decide) (by decide) (by decide) (by decide)
  · refine lv_iload_n hx hb d_J_end_4 rfl (lv_at hl 1 rfl) ?_
    refine lv_aload_n hx hb d_J_end_5 rfl (lv_at hl 0 rfl) ?_
    refine r_get C hW 0 rfl k_J i_J 1 (by decide) rfl w_787 d_J_end_6 ?_
    refine lv_icmp_le (tgt := 22) hx hb d_J_end_9 (by decide) (fun c_9 => absurd c_9 (by rcases hbad with q | q; exact absurd q c_1; exact Int32.not_le.mpr q)) (fun c_9 => ?_)
    exact r_throw C hl.1 hlk hnh htr w_2079 w_855 w_28 (hk A s C.2.2.2.1) (ex_all C.1.2.2.2.2 (hex A s C.2.2.2.1)) d_J_end_12 d_J_end_15 d_J_end_16 d_J_end_18 d_J_end_21 (by decide) (by decide) (by decide) (by decide)
set_option maxHeartbeats 4000000 in
set_option maxRecDepth 100000 in
/-- the law's end, where it throws -/
theorem c_L_end_thr (l : Launch) (D : va_G) (tI tB tZ tL : ClassId) (X : (Nat → Prop) → State → Prop) (hX : Ro X) (aJ j_bytes aS aR aE aD aO aT aC aV aM aW qo : Nat) (ja jf jp : Int32) (fo : Nat → Int64) (n ct : Int32) (hbad : n < 0 ∨ ct < n) (htr : l.stackTraces = false) (sq : Nat) (hk : ∀ A U, X A U → vk_R "MarkupJudge" 126 "not so many bytes" sq U) (hex : ∀ A U, X A U → exOk A U) : CtIW l D tI tB tZ tL X y_L_end b_L_end 4 .int [(0, 9, 12, 19)] ({ frames := 7, cells := 1, slots := 6, locals := 112 }) [.ref aJ, .int n, .ref qo] [(aJ, .inr (0, [.ref j_bytes, .int ct, .ref aS, .ref aR, .ref aE, .ref aD, .ref aO, .ref aT, .ref aC, .ref aV, .ref aM, .ref aW, .int ja, .int jf, .int jp])), (qo, .inl (tL, 1, .inr (.inl fo)))] (S := Unit) (fun (r : Int32) (_ : Unit) => r = 1) (fun _ => [(aJ, .inr (0, [.ref j_bytes, .int ct, .ref aS, .ref aR, .ref aE, .ref aD, .ref aO, .ref aT, .ref aC, .ref aV, .ref aM, .ref aW, .int ja, .int jf, .int jp])), (qo, .inl (tL, 1, .inr (.inl fo)))]) := by
  refine CtIW.start hX (by decide) (Nat.le_of_ble_eq_true rfl) ?_
  intro p e s m args below meth c A ls C hr hlk htb hW hl
  refine W.nameQ (fun Q hQ => ?_)
  have hx := C.1.1
  have hb := C.1.2.1
  have hown := C.1.2.2.2.1
  have hT := C.1.2.2.2.2
  have hl : lv_has ls 4 [(0, .ref aJ), (1, .int n), (2, .ref qo)] := hl
  refine lv_aload_n hx hb d_L_end_0 rfl (lv_at hl 2 rfl) ?_
  refine lv_iconst (v := 0) hx hb d_L_end_1 (by decide) ?_
  refine lv_aload_n hx hb d_L_end_2 rfl (lv_at hl 0 rfl) ?_
  refine lv_iload_n hx hb d_L_end_3 rfl (lv_at hl 1 rfl) ?_
  obtain ⟨x, hxt, hx1⟩ := List.map_eq_singleton_iff.mp htb
  have e1 : x.startPc = 0 := congrArg Prod.fst hx1
  have e2 : x.endPc = 9 := congrArg (fun z => z.2.1) hx1
  have e3 : x.handlerPc = 12 := congrArg (fun z => z.2.2.1) hx1
  have e4 : x.catchType = 19 := congrArg (fun z => z.2.2.2) hx1
  refine r_callVt [.int n] [.int 0, .ref qo] C hl.1 hW (c_J_end_thr l D tI tB tZ tL X hX aJ j_bytes aS aR aE aD aO aT aC aV aM aW ja jf jp n ct hbad htr sq hk hex) ok_J_end w_2075 [0] rfl (by decide) 0 rfl k_J rfl (by decide) (Nat.le_of_ble_eq_true rfl) (by decide) d_L_end_4 x hxt (by simp [covers, e1, e2]) (by rw [e4]; decide) (by rw [e4]; exact w_2074) (fun q H hW => ?_)
  rw [e3]
  refine lv_astore_n (lv' := [(3, .ref q), (0, .ref aJ), (1, .int n), (2, .ref qo)]) hx hb d_L_end_12 rfl hl (by decide) rfl (fun ls hl => ?_)
  refine lv_iconst (v := 1) hx hb d_L_end_13 (by decide) ?_
  rw [hQ]
  exact r_iret C hr hlk hW rfl () rfl [0, 1] (by decide) rfl d_L_end_14 (by decide) (by decide)
