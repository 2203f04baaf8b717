def y_KBook_init : MethodName := ⟨"MarkupJudgeModel$Book", "<init>", "(II)V"⟩
abbrev b_KBook_init : ByteArray := prog_15_method_1_code
def y_KBook_clear : MethodName := ⟨"MarkupJudgeModel$Book", "clear", "()V"⟩
abbrev b_KBook_clear : ByteArray := prog_15_method_2_code
def y_Arrays_fill0 : MethodName := ⟨"java/util/Arrays", "fill", "([II)V"⟩
abbrev b_Arrays_fill0 : ByteArray := prog_34_method_103_code
theorem w_2357 : (Jvm.Cond.methodLink "MarkupJudgeModel$Book" (3 : Nat) ({ cls := "java/lang/Object", name := "<init>", desc := "()V" } : Jvm.MethodName)) ∈ lwG := s_10 (List.mem_of_getElem? (i := 197) rfl) rfl
theorem w_2358 : (Jvm.Cond.methodLink "MarkupJudgeModel$Book" (27 : Nat) ({ cls := "MarkupJudgeModel$Book", name := "clear", desc := "()V" } : Jvm.MethodName)) ∈ lwG := s_10 (List.mem_of_getElem? (i := 198) rfl) rfl
theorem w_2362 : (Jvm.Cond.fieldLink "MarkupJudgeModel$Book" (15 : Nat) "MarkupJudgeModel$Book" "pool" "[I") ∈ lwG := s_10 (List.mem_of_getElem? (i := 202) rfl) rfl
theorem w_2364 : (Jvm.Cond.fieldLink "MarkupJudgeModel$Book" (30 : Nat) "MarkupJudgeModel$Book" "used" "I") ∈ lwG := s_10 (List.mem_of_getElem? (i := 204) rfl) rfl
theorem w_2365 : (Jvm.Cond.fieldLink "MarkupJudgeModel$Book" (18 : Nat) "MarkupJudgeModel$Book" "starts" "[I") ∈ lwG := s_10 (List.mem_of_getElem? (i := 205) rfl) rfl
theorem w_2366 : (Jvm.Cond.fieldLink "MarkupJudgeModel$Book" (21 : Nat) "MarkupJudgeModel$Book" "lengths" "[I") ∈ lwG := s_10 (List.mem_of_getElem? (i := 206) rfl) rfl
theorem w_2367 : (Jvm.Cond.fieldLink "MarkupJudgeModel$Book" (24 : Nat) "MarkupJudgeModel$Book" "nexts" "[I") ∈ lwG := s_10 (List.mem_of_getElem? (i := 207) rfl) rfl
theorem w_2368 : (Jvm.Cond.fieldLink "MarkupJudgeModel$Book" (9 : Nat) "MarkupJudgeModel$Book" "buckets" "[I") ∈ lwG := s_10 (List.mem_of_getElem? (i := 208) rfl) rfl
theorem w_2369 : (Jvm.Cond.fieldLink "MarkupJudgeModel$Book" (34 : Nat) "MarkupJudgeModel$Book" "count" "I") ∈ lwG := s_10 (List.mem_of_getElem? (i := 209) rfl) rfl
theorem ok_KBook_clear : okV y_KBook_clear b_KBook_clear 2 none 0 := ⟨s_10 (List.mem_of_getElem? (i := 201) rfl) rfl, s_10 (List.mem_of_getElem? (i := 199) rfl) rfl, s_10 (List.mem_of_getElem? (i := 200) rfl) rfl, s_1 (List.mem_of_getElem? (i := 22) rfl) rfl, ⟨by decide +kernel, by decide +kernel, by decide +kernel⟩⟩
theorem d_KBook_init_0 : decode b_KBook_init 0 = .ok (.aload_n 0, 1) := by decide +kernel
theorem d_KBook_init_1 : decode b_KBook_init 1 = .ok (.invokespecial 3, 3) := by decide +kernel
theorem d_KBook_init_4 : decode b_KBook_init 4 = .ok (.aload_n 0, 1) := by decide +kernel
theorem d_KBook_init_5 : decode b_KBook_init 5 = .ok (.sipush 8192, 3) := by decide +kernel
theorem d_KBook_init_8 : decode b_KBook_init 8 = .ok (.newarray .int, 2) := by decide +kernel
theorem d_KBook_init_10 : decode b_KBook_init 10 = .ok (.putfield 9, 3) := by decide +kernel
theorem d_KBook_init_13 : decode b_KBook_init 13 = .ok (.aload_n 0, 1) := by decide +kernel
theorem d_KBook_init_14 : decode b_KBook_init 14 = .ok (.iload_n 1, 1) := by decide +kernel
theorem d_KBook_init_15 : decode b_KBook_init 15 = .ok (.newarray .int, 2) := by decide +kernel
theorem d_KBook_init_17 : decode b_KBook_init 17 = .ok (.putfield 15, 3) := by decide +kernel
theorem d_KBook_init_20 : decode b_KBook_init 20 = .ok (.aload_n 0, 1) := by decide +kernel
theorem d_KBook_init_21 : decode b_KBook_init 21 = .ok (.iload_n 2, 1) := by decide +kernel
theorem d_KBook_init_22 : decode b_KBook_init 22 = .ok (.newarray .int, 2) := by decide +kernel
theorem d_KBook_init_24 : decode b_KBook_init 24 = .ok (.putfield 18, 3) := by decide +kernel
theorem d_KBook_init_27 : decode b_KBook_init 27 = .ok (.aload_n 0, 1) := by decide +kernel
theorem d_KBook_init_28 : decode b_KBook_init 28 = .ok (.iload_n 2, 1) := by decide +kernel
theorem d_KBook_init_29 : decode b_KBook_init 29 = .ok (.newarray .int, 2) := by decide +kernel
theorem d_KBook_init_31 : decode b_KBook_init 31 = .ok (.putfield 21, 3) := by decide +kernel
theorem d_KBook_init_34 : decode b_KBook_init 34 = .ok (.aload_n 0, 1) := by decide +kernel
theorem d_KBook_init_35 : decode b_KBook_init 35 = .ok (.iload_n 2, 1) := by decide +kernel
theorem d_KBook_init_36 : decode b_KBook_init 36 = .ok (.newarray .int, 2) := by decide +kernel
theorem d_KBook_init_38 : decode b_KBook_init 38 = .ok (.putfield 24, 3) := by decide +kernel
theorem d_KBook_init_41 : decode b_KBook_init 41 = .ok (.aload_n 0, 1) := by decide +kernel
theorem d_KBook_init_42 : decode b_KBook_init 42 = .ok (.invokevirtual 27, 3) := by decide +kernel
theorem d_KBook_init_45 : decode b_KBook_init 45 = .ok (.return_, 1) := by decide +kernel
theorem d_KBook_clear_0 : decode b_KBook_clear 0 = .ok (.aload_n 0, 1) := by decide +kernel
theorem d_KBook_clear_1 : decode b_KBook_clear 1 = .ok (.iconst 0, 1) := by decide +kernel
theorem d_KBook_clear_2 : decode b_KBook_clear 2 = .ok (.putfield 30, 3) := by decide +kernel
theorem d_KBook_clear_5 : decode b_KBook_clear 5 = .ok (.aload_n 0, 1) := by decide +kernel
theorem d_KBook_clear_6 : decode b_KBook_clear 6 = .ok (.iconst 0, 1) := by decide +kernel
theorem d_KBook_clear_7 : decode b_KBook_clear 7 = .ok (.putfield 34, 3) := by decide +kernel
theorem d_KBook_clear_10 : decode b_KBook_clear 10 = .ok (.iconst 0, 1) := by decide +kernel
theorem d_KBook_clear_11 : decode b_KBook_clear 11 = .ok (.istore_n 1, 1) := by decide +kernel
theorem d_KBook_clear_12 : decode b_KBook_clear 12 = .ok (.iload_n 1, 1) := by decide +kernel
theorem d_KBook_clear_13 : decode b_KBook_clear 13 = .ok (.sipush 8192, 3) := by decide +kernel
theorem d_KBook_clear_16 : decode b_KBook_clear 16 = .ok (.if_icmp .ge 16, 3) := by decide +kernel
theorem d_KBook_clear_19 : decode b_KBook_clear 19 = .ok (.aload_n 0, 1) := by decide +kernel
theorem d_KBook_clear_20 : decode b_KBook_clear 20 = .ok (.getfield 9, 3) := by decide +kernel
theorem d_KBook_clear_23 : decode b_KBook_clear 23 = .ok (.iload_n 1, 1) := by decide +kernel
theorem d_KBook_clear_24 : decode b_KBook_clear 24 = .ok (.iconst (-1), 1) := by decide +kernel
theorem d_KBook_clear_25 : decode b_KBook_clear 25 = .ok (.iastore, 1) := by decide +kernel
theorem d_KBook_clear_26 : decode b_KBook_clear 26 = .ok (.iinc 1 1, 3) := by decide +kernel
theorem d_KBook_clear_29 : decode b_KBook_clear 29 = .ok (.goto (-17), 3) := by decide +kernel
theorem d_KBook_clear_32 : decode b_KBook_clear 32 = .ok (.return_, 1) := by decide +kernel
theorem d_Arrays_fill0_0 : decode b_Arrays_fill0 0 = .ok (.iconst 0, 1) := by decide +kernel
theorem d_Arrays_fill0_1 : decode b_Arrays_fill0 1 = .ok (.istore_n 2, 1) := by decide +kernel
theorem d_Arrays_fill0_2 : decode b_Arrays_fill0 2 = .ok (.aload_n 0, 1) := by decide +kernel
theorem d_Arrays_fill0_3 : decode b_Arrays_fill0 3 = .ok (.arraylength, 1) := by decide +kernel
theorem d_Arrays_fill0_4 : decode b_Arrays_fill0 4 = .ok (.istore_n 3, 1) := by decide +kernel
theorem d_Arrays_fill0_5 : decode b_Arrays_fill0 5 = .ok (.iload_n 2, 1) := by decide +kernel
theorem d_Arrays_fill0_6 : decode b_Arrays_fill0 6 = .ok (.iload_n 3, 1) := by decide +kernel
theorem d_Arrays_fill0_7 : decode b_Arrays_fill0 7 = .ok (.if_icmp .ge 13, 3) := by decide +kernel
theorem d_Arrays_fill0_10 : decode b_Arrays_fill0 10 = .ok (.aload_n 0, 1) := by decide +kernel
theorem d_Arrays_fill0_11 : decode b_Arrays_fill0 11 = .ok (.iload_n 2, 1) := by decide +kernel
theorem d_Arrays_fill0_12 : decode b_Arrays_fill0 12 = .ok (.iload_n 1, 1) := by decide +kernel
theorem d_Arrays_fill0_13 : decode b_Arrays_fill0 13 = .ok (.iastore, 1) := by decide +kernel
theorem d_Arrays_fill0_14 : decode b_Arrays_fill0 14 = .ok (.iinc 2 1, 3) := by decide +kernel
theorem d_Arrays_fill0_17 : decode b_Arrays_fill0 17 = .ok (.goto (-12), 3) := by decide +kernel
theorem d_Arrays_fill0_20 : decode b_Arrays_fill0 20 = .ok (.return_, 1) := by decide +kernel
set_option maxHeartbeats 4000000 in
set_option maxRecDepth 100000 in
/-- Book.clear(): nothing is used, every bucket is empty -/
theorem c_KBook_clear (l : Launch) (D : va_G) (tI tB tZ tL : ClassId) (X : (Nat → Prop) → State → Prop) (hX : Ro X) (h0 a0 a2 a3 a4 a5 : Nat) (us co : Int32) (f : Nat → Int32) : CtV l D tI tB tZ tL X y_KBook_clear b_KBook_clear 2 ({ frames := 0, cells := 0, slots := 0, locals := 0 }) [.ref h0] [(h0, .inr (13, [.ref a0, .int us, .ref a2, .ref a3, .ref a4, .ref a5, .int co])), (a5, .inl (tI, 8192, .inl f))] (S := Nat → Int32) (fun g => ∀ j, j < 8192 → g j = -1) (fun g => [(h0, .inr (13, [.ref a0, .int 0, .ref a2, .ref a3, .ref a4, .ref a5, .int 0])), (a5, .inl (tI, 8192, .inl g))]) := by
  refine CtV.start hX (by decide) (Nat.le_of_ble_eq_true rfl) ?_
  intro p e s m args below meth c A ls C hr hlk hin hW hl
  refine W.nameQ (fun Q hQ => ?_)
  have hx := C.1.1
  have hb := C.1.2.1
  have hown := C.1.2.2.2.1
  have hT := C.1.2.2.2.2
  have hl : lv_has ls 2 [(0, .ref h0)] := hl
  refine lv_aload_n hx hb d_KBook_clear_0 rfl (lv_at hl 0 rfl) ?_
  refine lv_iconst (v := 0) hx hb d_KBook_clear_1 (by decide) ?_
  refine r_put (v := .int 0) (ty := .int) C hW 0 rfl k_KBook i_KBook t_KBook o_KBook n_KBook 1 (by decide) w_2364 rfl (by decide +kernel) rfl rfl (Nat.le_of_ble_eq_true rfl) d_KBook_clear_2 (fun H locs hW => ?_)
  have hW : Wd D A s [(h0, .inr (13, [.ref a0, .int 0, .ref a2, .ref a3, .ref a4, .ref a5, .int co])), (a5, .inl (tI, 8192, .inl f))] H _ := hW
  refine lv_aload_n hx hb d_KBook_clear_5 rfl (lv_at hl 0 rfl) ?_
  refine lv_iconst (v := 0) hx hb d_KBook_clear_6 (by decide) ?_
  refine r_put (v := .int 0) (ty := .int) C hW 0 rfl k_KBook i_KBook t_KBook o_KBook n_KBook 6 (by decide) w_2369 rfl (by decide +kernel) rfl rfl (Nat.le_of_ble_eq_true rfl) d_KBook_clear_7 (fun H locs hW => ?_)
  have hW : Wd D A s [(h0, .inr (13, [.ref a0, .int 0, .ref a2, .ref a3, .ref a4, .ref a5, .int 0])), (a5, .inl (tI, 8192, .inl f))] H _ := hW
  refine lv_iconst (v := 0) hx hb d_KBook_clear_10 (by decide) ?_
  refine lv_istore_n (lv' := [(1, .int 0), (0, .ref h0)]) hx hb d_KBook_clear_11 rfl hl (by decide) rfl (fun ls hl => ?_)
  have loop : ∀ (n : Nat) (k : Nat) (g : Nat → Int32) (H : Heap) (locs : List Loc) (ls : Array Slot), 8193 ≤ k + n → (k ≤ 8192) → (∀ j, j < k → g j = -1) → Wd D A s [(h0, .inr (13, [.ref a0, .int 0, .ref a2, .ref a3, .ref a4, .ref a5, .int 0])), (a5, .inl (tI, 8192, .inl g))] H locs → lv_has ls 2 [(1, .int (nI k)), (0, .ref h0)] → W p l e ({ frames := 0, cells := 0, slots := 0, locals := 0 }) s m args below meth c H locs 0 0 Q (F0 m 12 ls []) := by
    intro n
    induction n with
    | zero => intro k g H locs ls hn hk hf hW hl; exact absurd hn (by omega)
    | succ n ih =>
      intro k g H locs ls hn hk hf hW hl
      refine lv_iload_n hx hb d_KBook_clear_12 rfl (lv_at hl 0 rfl) ?_
      refine lv_sipush (v := 8192) hx hb d_KBook_clear_13 (by decide) ?_
      refine lv_icmp_ge (tgt := 32) hx hb d_KBook_clear_16 (by decide) (fun c_16 => ?_) (fun c_16 => ?_)
      · rw [hQ]
        exact r_vret C hr hlk hW g (fun j hj => hf j (Nat.lt_of_lt_of_le hj (k_le (a := 8192) c_16 (by decide) (by omega)))) [0, 1] (by decide) rfl d_KBook_clear_32 (by decide) (by decide)
      · have hk2 : k < 8192 := k_nle (a := 8192) c_16 (by decide) (by omega)
        refine lv_aload_n hx hb d_KBook_clear_19 rfl (lv_at hl 1 rfl) ?_
        refine r_get C hW 0 rfl k_KBook i_KBook 5 (by decide) rfl w_2368 d_KBook_clear_20 ?_
        refine lv_iload_n hx hb d_KBook_clear_23 rfl (lv_at hl 0 rfl) ?_
        refine lv_iconst (v := (-1)) hx hb d_KBook_clear_24 (by decide) ?_
        refine r_stI C hW 1 rfl k rfl (by omega) (by decide) d_KBook_clear_25 (fun H locs hW => ?_)
        have hW : Wd D A s [(h0, .inr (13, [.ref a0, .int 0, .ref a2, .ref a3, .ref a4, .ref a5, .int 0])), (a5, .inl (tI, 8192, .inl (upd g k (-1))))] H _ := hW
        refine lv_iinc (v := (nI (k + 1))) (lv' := [(1, .int (nI (k + 1))), (0, .ref h0)]) hx hb d_KBook_clear_26 hl (k := 0) rfl (nI_1 k) (by decide) rfl (fun ls hl => ?_)
        refine lv_goto (tgt := 12) hx hb d_KBook_clear_29 (by decide) ?_
        exact ih (k + 1) (upd g k (-1)) H locs ls (by omega) (by omega) (upd_lt (P := fun _ v => v = -1) hf rfl) (hW.sub [0, 1] (by decide) rfl) (lv_sub hl [0, 1] rfl)
  exact loop 8193 0 f _ _ _ (by decide) (by omega) (fun _ h => absurd h (Nat.not_lt_zero _)) (hW.sub [0, 1] (by decide) rfl) (lv_sub hl [0, 1] rfl)
set_option maxHeartbeats 4000000 in
set_option maxRecDepth 100000 in
/-- Arrays.fill(a, v) -/
theorem c_fill (l : Launch) (D : va_G) (tI tB tZ tL : ClassId) (X : (Nat → Prop) → State → Prop) (hX : Ro X) (h0 nn : Nat) (v : Int32) (f : Nat → Int32) (hnn : nn < 2 ^ 30) : CtV l D tI tB tZ tL X y_Arrays_fill0 b_Arrays_fill0 4 ({ frames := 0, cells := 0, slots := 0, locals := 0 }) [.ref h0, .int v] [(h0, .inl (tI, nn, .inl f))] (S := Nat → Int32) (fun g => ∀ j, j < nn → g j = v) (fun g => [(h0, .inl (tI, nn, .inl g))]) := by
  refine CtV.start hX (by decide) (Nat.le_of_ble_eq_true rfl) ?_
  intro p e s m args below meth c A ls C hr hlk hin hW hl
  refine W.nameQ (fun Q hQ => ?_)
  have hx := C.1.1
  have hb := C.1.2.1
  have hown := C.1.2.2.2.1
  have hT := C.1.2.2.2.2
  have hl : lv_has ls 4 [(0, .ref h0), (1, .int v)] := hl
  refine lv_iconst (v := 0) hx hb d_Arrays_fill0_0 (by decide) ?_
  refine lv_istore_n (lv' := [(2, .int 0), (0, .ref h0), (1, .int v)]) hx hb d_Arrays_fill0_1 rfl hl (by decide) rfl (fun ls hl => ?_)
  refine lv_aload_n hx hb d_Arrays_fill0_2 rfl (lv_at hl 1 rfl) ?_
  refine r_len C hW 0 0 rfl rfl d_Arrays_fill0_3 ?_
  refine lv_istore_n (lv' := [(3, .int (nI nn)), (2, .int 0), (0, .ref h0), (1, .int v)]) hx hb d_Arrays_fill0_4 rfl hl (by decide) rfl (fun ls hl => ?_)
  have loop : ∀ (n : Nat) (k : Nat) (g : Nat → Int32) (H : Heap) (locs : List Loc) (ls : Array Slot), nn + 1 ≤ k + n → (k ≤ nn) → (∀ j, j < k → g j = v) → Wd D A s [(h0, .inl (tI, nn, .inl g))] H locs → lv_has ls 4 [(2, .int (nI k)), (3, .int (nI nn)), (0, .ref h0), (1, .int v)] → W p l e ({ frames := 0, cells := 0, slots := 0, locals := 0 }) s m args below meth c H locs 0 0 Q (F0 m 5 ls []) := by
    intro n
    induction n with
    | zero => intro k g H locs ls hn hk hf hW hl; exact absurd hn (by omega)
    | succ n ih =>
      intro k g H locs ls hn hk hf hW hl
      refine lv_iload_n hx hb d_Arrays_fill0_5 rfl (lv_at hl 0 rfl) ?_
      refine lv_iload_n hx hb d_Arrays_fill0_6 rfl (lv_at hl 1 rfl) ?_
      refine lv_icmp_ge (tgt := 20) hx hb d_Arrays_fill0_7 (by decide) (fun c_7 => ?_) (fun c_7 => ?_)
      · rw [hQ]
        exact r_vret C hr hlk hW g (fun j hj => hf j (Nat.lt_of_lt_of_le hj (k_le c_7 (by omega) (by omega)))) [0] (by decide) rfl d_Arrays_fill0_20 (by decide) (by decide)
      · have hk2 : k < nn := k_nle c_7 (by omega) (by omega)
        refine lv_aload_n hx hb d_Arrays_fill0_10 rfl (lv_at hl 2 rfl) ?_
        refine lv_iload_n hx hb d_Arrays_fill0_11 rfl (lv_at hl 0 rfl) ?_
        refine lv_iload_n hx hb d_Arrays_fill0_12 rfl (lv_at hl 3 rfl) ?_
        refine r_stI C hW 0 rfl k rfl (by omega) (by omega) d_Arrays_fill0_13 (fun H locs hW => ?_)
        have hW : Wd D A s [(h0, .inl (tI, nn, .inl (upd g k v)))] H _ := hW
        refine lv_iinc (v := (nI (k + 1))) (lv' := [(2, .int (nI (k + 1))), (3, .int (nI nn)), (0, .ref h0), (1, .int v)]) hx hb d_Arrays_fill0_14 hl (k := 0) rfl (nI_1 k) (by decide) rfl (fun ls hl => ?_)
        refine lv_goto (tgt := 5) hx hb d_Arrays_fill0_17 (by decide) ?_
        exact ih (k + 1) (upd g k v) H locs ls (by omega) (by omega) (upd_lt (P := fun _ z => z = v) hf rfl) (hW.sub [0] (by decide) rfl) (lv_sub hl [0, 1, 2, 3] rfl)
  exact loop (nn + 1) 0 f _ _ _ (by omega) (by omega) (fun _ h => absurd h (Nat.not_lt_zero _)) (hW.sub [0] (by decide) rfl) (lv_sub hl [1, 0, 2, 3] rfl)
set_option maxHeartbeats 4000000 in
set_option maxRecDepth 100000 in
/-- Book(characters, strings): nothing is used, every bucket is empty -/
theorem c_KBook_init (l : Launch) (D : va_G) (tI tB tZ tL : ClassId) (X : (Nat → Prop) → State → Prop) (hX : Ro X) (h0 nc nq : Nat) (hnc : nc ≤ 170000) (hnq : nq ≤ 50000) : CtV l D tI tB tZ tL X y_KBook_init b_KBook_init 3 ({ frames := 1, cells := 5, slots := 328192, locals := 21 }) [.ref h0, .int (nI nc), .int (nI nq)] [(h0, .inr (13, [.null, .int 0, .null, .null, .null, .null, .int 0]))] (S := (Nat → Nat) × (Nat → Int32)) (fun u => ∀ j, j < 8192 → u.2 j = -1) (fun u => [(h0, .inr (13, [.ref (u.1 1), .int 0, .ref (u.1 2), .ref (u.1 3), .ref (u.1 4), .ref (u.1 0), .int 0])), ((u.1 0), .inl (tI, 8192, .inl u.2)), ((u.1 1), .inl (tI, nc, .inl (fun _ => 0))), ((u.1 2), .inl (tI, nq, .inl (fun _ => 0))), ((u.1 3), .inl (tI, nq, .inl (fun _ => 0))), ((u.1 4), .inl (tI, nq, .inl (fun _ => 0)))]) := by
  refine CtV.start hX (by decide) (Nat.le_of_ble_eq_true rfl) ?_
  intro p e s m args below meth c A ls C hr hlk hin hW hl
  refine W.nameQ (fun Q hQ => ?_)
  have hx := C.1.1
  have hb := C.1.2.1
  have hown := C.1.2.2.2.1
  have hT := C.1.2.2.2.2
  have hin : meth.name = "<init>" := hin
  have hl : lv_has ls 3 [(0, .ref h0), (1, .int (nI nc)), (2, .int (nI nq))] := hl
  refine lv_aload_n hx hb d_KBook_init_0 rfl (lv_at hl 0 rfl) ?_
  refine r_objInit C hl.1 w_2357 (by decide) (Nat.le_of_ble_eq_true rfl) d_KBook_init_1 ?_
  refine lv_aload_n hx hb d_KBook_init_4 rfl (lv_at hl 0 rfl) ?_
  refine lv_sipush (v := 8192) hx hb d_KBook_init_5 (by decide) ?_
  refine r_newI C hW 8192 (by decide) (by decide) (K := 1) (M := 8192) rfl (by decide) (by decide) (by decide) d_KBook_init_8 (fun q8 H hW => ?_)
  have hW : Wd D A s [(h0, .inr (13, [.null, .int 0, .null, .null, .null, .null, .int 0])), (q8, .inl (tI, 8192, .inl (fun _ => 0)))] H _ := hW
  refine r_putF (v := .ref q8) (ty := .array .int) C hW 0 rfl k_KBook i_KBook t_KBook o_KBook n_KBook 5 (by decide) w_2368 rfl hin rfl (by decide +kernel) rfl rfl (Nat.le_of_ble_eq_true rfl) d_KBook_init_10 (fun H locs hW => ?_)
  have hW : Wd D A s [(h0, .inr (13, [.null, .int 0, .null, .null, .null, .ref q8, .int 0])), (q8, .inl (tI, 8192, .inl (fun _ => 0)))] H _ := hW
  refine lv_aload_n hx hb d_KBook_init_13 rfl (lv_at hl 0 rfl) ?_
  refine lv_iload_n hx hb d_KBook_init_14 rfl (lv_at hl 1 rfl) ?_
  refine r_newI C hW nc rfl (by omega) (K := 2) (M := 178192) rfl (by decide) (by omega) (by decide) d_KBook_init_15 (fun q15 H hW => ?_)
  have hW : Wd D A s [(h0, .inr (13, [.null, .int 0, .null, .null, .null, .ref q8, .int 0])), (q8, .inl (tI, 8192, .inl (fun _ => 0))), (q15, .inl (tI, nc, .inl (fun _ => 0)))] H _ := hW
  refine r_putF (v := .ref q15) (ty := .array .int) C hW 0 rfl k_KBook i_KBook t_KBook o_KBook n_KBook 0 (by decide) w_2362 rfl hin rfl (by decide +kernel) rfl rfl (Nat.le_of_ble_eq_true rfl) d_KBook_init_17 (fun H locs hW => ?_)
  have hW : Wd D A s [(h0, .inr (13, [.ref q15, .int 0, .null, .null, .null, .ref q8, .int 0])), (q8, .inl (tI, 8192, .inl (fun _ => 0))), (q15, .inl (tI, nc, .inl (fun _ => 0)))] H _ := hW
  refine lv_aload_n hx hb d_KBook_init_20 rfl (lv_at hl 0 rfl) ?_
  refine lv_iload_n hx hb d_KBook_init_21 rfl (lv_at hl 2 rfl) ?_
  refine r_newI C hW nq rfl (by omega) (K := 3) (M := 228192) rfl (by decide) (by omega) (by decide) d_KBook_init_22 (fun q22 H hW => ?_)
  have hW : Wd D A s [(h0, .inr (13, [.ref q15, .int 0, .null, .null, .null, .ref q8, .int 0])), (q8, .inl (tI, 8192, .inl (fun _ => 0))), (q15, .inl (tI, nc, .inl (fun _ => 0))), (q22, .inl (tI, nq, .inl (fun _ => 0)))] H _ := hW
  refine r_putF (v := .ref q22) (ty := .array .int) C hW 0 rfl k_KBook i_KBook t_KBook o_KBook n_KBook 2 (by decide) w_2365 rfl hin rfl (by decide +kernel) rfl rfl (Nat.le_of_ble_eq_true rfl) d_KBook_init_24 (fun H locs hW => ?_)
  have hW : Wd D A s [(h0, .inr (13, [.ref q15, .int 0, .ref q22, .null, .null, .ref q8, .int 0])), (q8, .inl (tI, 8192, .inl (fun _ => 0))), (q15, .inl (tI, nc, .inl (fun _ => 0))), (q22, .inl (tI, nq, .inl (fun _ => 0)))] H _ := hW
  refine lv_aload_n hx hb d_KBook_init_27 rfl (lv_at hl 0 rfl) ?_
  refine lv_iload_n hx hb d_KBook_init_28 rfl (lv_at hl 2 rfl) ?_
  refine r_newI C hW nq rfl (by omega) (K := 4) (M := 278192) rfl (by decide) (by omega) (by decide) d_KBook_init_29 (fun q29 H hW => ?_)
  have hW : Wd D A s [(h0, .inr (13, [.ref q15, .int 0, .ref q22, .null, .null, .ref q8, .int 0])), (q8, .inl (tI, 8192, .inl (fun _ => 0))), (q15, .inl (tI, nc, .inl (fun _ => 0))), (q22, .inl (tI, nq, .inl (fun _ => 0))), (q29, .inl (tI, nq, .inl (fun _ => 0)))] H _ := hW
  refine r_putF (v := .ref q29) (ty := .array .int) C hW 0 rfl k_KBook i_KBook t_KBook o_KBook n_KBook 3 (by decide) w_2366 rfl hin rfl (by decide +kernel) rfl rfl (Nat.le_of_ble_eq_true rfl) d_KBook_init_31 (fun H locs hW => ?_)
  have hW : Wd D A s [(h0, .inr (13, [.ref q15, .int 0, .ref q22, .ref q29, .null, .ref q8, .int 0])), (q8, .inl (tI, 8192, .inl (fun _ => 0))), (q15, .inl (tI, nc, .inl (fun _ => 0))), (q22, .inl (tI, nq, .inl (fun _ => 0))), (q29, .inl (tI, nq, .inl (fun _ => 0)))] H _ := hW
  refine lv_aload_n hx hb d_KBook_init_34 rfl (lv_at hl 0 rfl) ?_
  refine lv_iload_n hx hb d_KBook_init_35 rfl (lv_at hl 2 rfl) ?_
  refine r_newI C hW nq rfl (by omega) (K := 5) (M := 328192) rfl (by decide) (by omega) (by decide) d_KBook_init_36 (fun q36 H hW => ?_)
  have hW : Wd D A s [(h0, .inr (13, [.ref q15, .int 0, .ref q22, .ref q29, .null, .ref q8, .int 0])), (q8, .inl (tI, 8192, .inl (fun _ => 0))), (q15, .inl (tI, nc, .inl (fun _ => 0))), (q22, .inl (tI, nq, .inl (fun _ => 0))), (q29, .inl (tI, nq, .inl (fun _ => 0))), (q36, .inl (tI, nq, .inl (fun _ => 0)))] H _ := hW
  refine r_putF (v := .ref q36) (ty := .array .int) C hW 0 rfl k_KBook i_KBook t_KBook o_KBook n_KBook 4 (by decide) w_2367 rfl hin rfl (by decide +kernel) rfl rfl (Nat.le_of_ble_eq_true rfl) d_KBook_init_38 (fun H locs hW => ?_)
  have hW : Wd D A s [(h0, .inr (13, [.ref q15, .int 0, .ref q22, .ref q29, .ref q36, .ref q8, .int 0])), (q8, .inl (tI, 8192, .inl (fun _ => 0))), (q15, .inl (tI, nc, .inl (fun _ => 0))), (q22, .inl (tI, nq, .inl (fun _ => 0))), (q29, .inl (tI, nq, .inl (fun _ => 0))), (q36, .inl (tI, nq, .inl (fun _ => 0)))] H _ := hW
  refine lv_aload_n hx hb d_KBook_init_41 rfl (lv_at hl 0 rfl) ?_
  refine r_callV [] [] C hl.1 hW (c_KBook_clear l D tI tB tZ tL X hX h0 q15 q22 q29 q36 q8 0 0 (fun _ => 0)) ok_KBook_clear w_2358 (wr := [(q15, .inl (tI, nc, .inl (fun _ => 0))), (q22, .inl (tI, nq, .inl (fun _ => 0))), (q29, .inl (tI, nq, .inl (fun _ => 0))), (q36, .inl (tI, nq, .inl (fun _ => 0)))]) [0, 1] [2, 3, 4, 5] rfl rfl (by decide) (by decide) (by decide) 0 rfl k_KBook rfl (by decide) (Nat.le_of_ble_eq_true rfl) (by decide) d_KBook_init_42 (fun g H locs hg hW => ?_)
  have hW : Wd D A s [(q15, .inl (tI, nc, .inl (fun _ => 0))), (q22, .inl (tI, nq, .inl (fun _ => 0))), (q29, .inl (tI, nq, .inl (fun _ => 0))), (q36, .inl (tI, nq, .inl (fun _ => 0))), (h0, .inr (13, [.ref q15, .int 0, .ref q22, .ref q29, .ref q36, .ref q8, .int 0])), (q8, .inl (tI, 8192, .inl g))] H _ := hW
  rw [hQ]
  exact r_vret C hr hlk hW ((fun k => [q8, q15, q22, q29, q36].getD k 0), g) hg [4, 5, 0, 1, 2, 3] (by decide) rfl d_KBook_init_45 (by decide) (by decide)
