def y_Str_indexOf0 : MethodName := ⟨"java/lang/String", "indexOf", "(I)I"⟩
abbrev b_Str_indexOf0 : ByteArray := prog_28_method_79_code
def y_Str_indexOf1 : MethodName := ⟨"java/lang/String", "indexOf", "(II)I"⟩
abbrev b_Str_indexOf1 : ByteArray := prog_28_method_80_code
def y_java_lang_StringLatin1_canEncode : MethodName := ⟨"java/lang/StringLatin1", "canEncode", "(I)Z"⟩
abbrev b_java_lang_StringLatin1_canEncode : ByteArray := prog_30_method_4_code
def y_java_lang_StringLatin1_indexOf1 : MethodName := ⟨"java/lang/StringLatin1", "indexOf", "([BIII)I"⟩
abbrev b_java_lang_StringLatin1_indexOf1 : ByteArray := prog_30_method_22_code
def y_java_lang_StringLatin1_indexOfChar : MethodName := ⟨"java/lang/StringLatin1", "indexOfChar", "([BIII)I"⟩
abbrev b_java_lang_StringLatin1_indexOfChar : ByteArray := prog_30_method_23_code
theorem w_1509 : (Jvm.Cond.methodLink "java/lang/String" (633 : Nat) ({ cls := "java/lang/String", name := "indexOf", desc := "(II)I" } : Jvm.MethodName)) ∈ lwG := s_7 (List.mem_of_getElem? (i := 69) rfl) rfl
theorem w_1513 : (Jvm.Cond.methodLink "java/lang/String" (505 : Nat) ({ cls := "java/lang/String", name := "length", desc := "()I" } : Jvm.MethodName)) ∈ lwG := s_7 (List.mem_of_getElem? (i := 73) rfl) rfl
theorem w_1514 : (Jvm.Cond.methodLink "java/lang/String" (637 : Nat) ({ cls := "java/lang/StringLatin1", name := "indexOf", desc := "([BIII)I" } : Jvm.MethodName)) ∈ lwG := s_7 (List.mem_of_getElem? (i := 74) rfl) rfl
theorem w_1517 : (Jvm.Cond.methodLink "java/lang/StringLatin1" (88 : Nat) ({ cls := "java/lang/StringLatin1", name := "canEncode", desc := "(I)Z" } : Jvm.MethodName)) ∈ lwG := s_7 (List.mem_of_getElem? (i := 77) rfl) rfl
theorem w_1520 : (Jvm.Cond.methodLink "java/lang/StringLatin1" (92 : Nat) ({ cls := "java/lang/Math", name := "max", desc := "(II)I" } : Jvm.MethodName)) ∈ lwG := s_7 (List.mem_of_getElem? (i := 80) rfl) rfl
theorem w_1521 : (Jvm.Cond.methodLink "java/lang/StringLatin1" (38 : Nat) ({ cls := "java/lang/Math", name := "min", desc := "(II)I" } : Jvm.MethodName)) ∈ lwG := s_7 (List.mem_of_getElem? (i := 81) rfl) rfl
theorem w_1522 : (Jvm.Cond.methodLink "java/lang/StringLatin1" (95 : Nat) ({ cls := "java/lang/StringLatin1", name := "indexOfChar", desc := "([BIII)I" } : Jvm.MethodName)) ∈ lwG := s_7 (List.mem_of_getElem? (i := 82) rfl) rfl
theorem ok_Str_indexOf1 : okV y_Str_indexOf1 b_Str_indexOf1 3 (some .int) 2 := ⟨s_7 (List.mem_of_getElem? (i := 72) rfl) rfl, s_7 (List.mem_of_getElem? (i := 70) rfl) rfl, s_7 (List.mem_of_getElem? (i := 71) rfl) rfl, s_1 (List.mem_of_getElem? (i := 5) rfl) rfl, ⟨by decide +kernel, by decide +kernel, by decide +kernel⟩⟩
theorem ok_java_lang_StringLatin1_canEncode : okS y_java_lang_StringLatin1_canEncode b_java_lang_StringLatin1_canEncode 1 (some .boolean) 1 := ⟨s_7 (List.mem_of_getElem? (i := 79) rfl) rfl, s_7 (List.mem_of_getElem? (i := 78) rfl) rfl, s_1 (List.mem_of_getElem? (i := 6) rfl) rfl, ⟨by decide +kernel, by decide +kernel, by decide +kernel⟩⟩
theorem ok_java_lang_StringLatin1_indexOf1 : okS y_java_lang_StringLatin1_indexOf1 b_java_lang_StringLatin1_indexOf1 4 (some .int) 4 := ⟨s_7 (List.mem_of_getElem? (i := 76) rfl) rfl, s_7 (List.mem_of_getElem? (i := 75) rfl) rfl, s_1 (List.mem_of_getElem? (i := 6) rfl) rfl, ⟨by decide +kernel, by decide +kernel, by decide +kernel⟩⟩
theorem ok_java_lang_StringLatin1_indexOfChar : okS y_java_lang_StringLatin1_indexOfChar b_java_lang_StringLatin1_indexOfChar 6 (some .int) 4 := ⟨s_7 (List.mem_of_getElem? (i := 84) rfl) rfl, s_7 (List.mem_of_getElem? (i := 83) rfl) rfl, s_1 (List.mem_of_getElem? (i := 6) rfl) rfl, ⟨by decide +kernel, by decide +kernel, by decide +kernel⟩⟩
theorem d_Str_indexOf0_0 : decode b_Str_indexOf0 0 = .ok (.aload_n 0, 1) := by decide +kernel
theorem d_Str_indexOf0_1 : decode b_Str_indexOf0 1 = .ok (.iload_n 1, 1) := by decide +kernel
theorem d_Str_indexOf0_2 : decode b_Str_indexOf0 2 = .ok (.iconst 0, 1) := by decide +kernel
theorem d_Str_indexOf0_3 : decode b_Str_indexOf0 3 = .ok (.invokevirtual 633, 3) := by decide +kernel
theorem d_Str_indexOf0_6 : decode b_Str_indexOf0 6 = .ok (.ireturn, 1) := by decide +kernel
theorem d_Str_indexOf1_0 : decode b_Str_indexOf1 0 = .ok (.aload_n 0, 1) := by decide +kernel
theorem d_Str_indexOf1_1 : decode b_Str_indexOf1 1 = .ok (.invokevirtual 492, 3) := by decide +kernel
theorem d_Str_indexOf1_4 : decode b_Str_indexOf1 4 = .ok (.ifCond .eq 19, 3) := by decide +kernel
theorem d_Str_indexOf1_7 : decode b_Str_indexOf1 7 = .ok (.aload_n 0, 1) := by decide +kernel
theorem d_Str_indexOf1_8 : decode b_Str_indexOf1 8 = .ok (.getfield 9, 3) := by decide +kernel
theorem d_Str_indexOf1_11 : decode b_Str_indexOf1 11 = .ok (.iload_n 1, 1) := by decide +kernel
theorem d_Str_indexOf1_12 : decode b_Str_indexOf1 12 = .ok (.iload_n 2, 1) := by decide +kernel
theorem d_Str_indexOf1_13 : decode b_Str_indexOf1 13 = .ok (.aload_n 0, 1) := by decide +kernel
theorem d_Str_indexOf1_14 : decode b_Str_indexOf1 14 = .ok (.invokevirtual 505, 3) := by decide +kernel
theorem d_Str_indexOf1_17 : decode b_Str_indexOf1 17 = .ok (.invokestatic 637, 3) := by decide +kernel
theorem d_Str_indexOf1_20 : decode b_Str_indexOf1 20 = .ok (.goto 16, 3) := by decide +kernel
theorem d_Str_indexOf1_36 : decode b_Str_indexOf1 36 = .ok (.ireturn, 1) := by decide +kernel
theorem d_java_lang_StringLatin1_canEncode_0 : decode b_java_lang_StringLatin1_canEncode 0 = .ok (.iload_n 0, 1) := by decide +kernel
theorem d_java_lang_StringLatin1_canEncode_1 : decode b_java_lang_StringLatin1_canEncode 1 = .ok (.ifCond .lt 14, 3) := by decide +kernel
theorem d_java_lang_StringLatin1_canEncode_4 : decode b_java_lang_StringLatin1_canEncode 4 = .ok (.iload_n 0, 1) := by decide +kernel
theorem d_java_lang_StringLatin1_canEncode_5 : decode b_java_lang_StringLatin1_canEncode 5 = .ok (.sipush 255, 3) := by decide +kernel
theorem d_java_lang_StringLatin1_canEncode_8 : decode b_java_lang_StringLatin1_canEncode 8 = .ok (.if_icmp .gt 7, 3) := by decide +kernel
theorem d_java_lang_StringLatin1_canEncode_11 : decode b_java_lang_StringLatin1_canEncode 11 = .ok (.iconst 1, 1) := by decide +kernel
theorem d_java_lang_StringLatin1_canEncode_12 : decode b_java_lang_StringLatin1_canEncode 12 = .ok (.goto 4, 3) := by decide +kernel
theorem d_java_lang_StringLatin1_canEncode_15 : decode b_java_lang_StringLatin1_canEncode 15 = .ok (.iconst 0, 1) := by decide +kernel
theorem d_java_lang_StringLatin1_canEncode_16 : decode b_java_lang_StringLatin1_canEncode 16 = .ok (.ireturn, 1) := by decide +kernel
theorem d_java_lang_StringLatin1_indexOf1_0 : decode b_java_lang_StringLatin1_indexOf1 0 = .ok (.iload_n 1, 1) := by decide +kernel
theorem d_java_lang_StringLatin1_indexOf1_1 : decode b_java_lang_StringLatin1_indexOf1 1 = .ok (.invokestatic 88, 3) := by decide +kernel
theorem d_java_lang_StringLatin1_indexOf1_4 : decode b_java_lang_StringLatin1_indexOf1 4 = .ok (.ifCond .ne 5, 3) := by decide +kernel
theorem d_java_lang_StringLatin1_indexOf1_7 : decode b_java_lang_StringLatin1_indexOf1 7 = .ok (.iconst (-1), 1) := by decide +kernel
theorem d_java_lang_StringLatin1_indexOf1_8 : decode b_java_lang_StringLatin1_indexOf1 8 = .ok (.ireturn, 1) := by decide +kernel
theorem d_java_lang_StringLatin1_indexOf1_9 : decode b_java_lang_StringLatin1_indexOf1 9 = .ok (.iload_n 2, 1) := by decide +kernel
theorem d_java_lang_StringLatin1_indexOf1_10 : decode b_java_lang_StringLatin1_indexOf1 10 = .ok (.iconst 0, 1) := by decide +kernel
theorem d_java_lang_StringLatin1_indexOf1_11 : decode b_java_lang_StringLatin1_indexOf1 11 = .ok (.invokestatic 92, 3) := by decide +kernel
theorem d_java_lang_StringLatin1_indexOf1_14 : decode b_java_lang_StringLatin1_indexOf1 14 = .ok (.istore_n 2, 1) := by decide +kernel
theorem d_java_lang_StringLatin1_indexOf1_15 : decode b_java_lang_StringLatin1_indexOf1 15 = .ok (.iload_n 3, 1) := by decide +kernel
theorem d_java_lang_StringLatin1_indexOf1_16 : decode b_java_lang_StringLatin1_indexOf1 16 = .ok (.aload_n 0, 1) := by decide +kernel
theorem d_java_lang_StringLatin1_indexOf1_17 : decode b_java_lang_StringLatin1_indexOf1 17 = .ok (.arraylength, 1) := by decide +kernel
theorem d_java_lang_StringLatin1_indexOf1_18 : decode b_java_lang_StringLatin1_indexOf1 18 = .ok (.invokestatic 38, 3) := by decide +kernel
theorem d_java_lang_StringLatin1_indexOf1_21 : decode b_java_lang_StringLatin1_indexOf1 21 = .ok (.istore_n 3, 1) := by decide +kernel
theorem d_java_lang_StringLatin1_indexOf1_22 : decode b_java_lang_StringLatin1_indexOf1 22 = .ok (.iload_n 2, 1) := by decide +kernel
theorem d_java_lang_StringLatin1_indexOf1_23 : decode b_java_lang_StringLatin1_indexOf1 23 = .ok (.iload_n 3, 1) := by decide +kernel
theorem d_java_lang_StringLatin1_indexOf1_24 : decode b_java_lang_StringLatin1_indexOf1 24 = .ok (.if_icmp .lt 5, 3) := by decide +kernel
theorem d_java_lang_StringLatin1_indexOf1_27 : decode b_java_lang_StringLatin1_indexOf1 27 = .ok (.iconst (-1), 1) := by decide +kernel
theorem d_java_lang_StringLatin1_indexOf1_28 : decode b_java_lang_StringLatin1_indexOf1 28 = .ok (.ireturn, 1) := by decide +kernel
theorem d_java_lang_StringLatin1_indexOf1_29 : decode b_java_lang_StringLatin1_indexOf1 29 = .ok (.aload_n 0, 1) := by decide +kernel
theorem d_java_lang_StringLatin1_indexOf1_30 : decode b_java_lang_StringLatin1_indexOf1 30 = .ok (.iload_n 1, 1) := by decide +kernel
theorem d_java_lang_StringLatin1_indexOf1_31 : decode b_java_lang_StringLatin1_indexOf1 31 = .ok (.iload_n 2, 1) := by decide +kernel
theorem d_java_lang_StringLatin1_indexOf1_32 : decode b_java_lang_StringLatin1_indexOf1 32 = .ok (.iload_n 3, 1) := by decide +kernel
theorem d_java_lang_StringLatin1_indexOf1_33 : decode b_java_lang_StringLatin1_indexOf1 33 = .ok (.invokestatic 95, 3) := by decide +kernel
theorem d_java_lang_StringLatin1_indexOf1_36 : decode b_java_lang_StringLatin1_indexOf1 36 = .ok (.ireturn, 1) := by decide +kernel
theorem d_java_lang_StringLatin1_indexOfChar_0 : decode b_java_lang_StringLatin1_indexOfChar 0 = .ok (.iload_n 1, 1) := by decide +kernel
theorem d_java_lang_StringLatin1_indexOfChar_1 : decode b_java_lang_StringLatin1_indexOfChar 1 = .ok (.i2b, 1) := by decide +kernel
theorem d_java_lang_StringLatin1_indexOfChar_2 : decode b_java_lang_StringLatin1_indexOfChar 2 = .ok (.istore 4, 2) := by decide +kernel
theorem d_java_lang_StringLatin1_indexOfChar_4 : decode b_java_lang_StringLatin1_indexOfChar 4 = .ok (.iload_n 2, 1) := by decide +kernel
theorem d_java_lang_StringLatin1_indexOfChar_5 : decode b_java_lang_StringLatin1_indexOfChar 5 = .ok (.istore 5, 2) := by decide +kernel
theorem d_java_lang_StringLatin1_indexOfChar_7 : decode b_java_lang_StringLatin1_indexOfChar 7 = .ok (.iload 5, 2) := by decide +kernel
theorem d_java_lang_StringLatin1_indexOfChar_9 : decode b_java_lang_StringLatin1_indexOfChar 9 = .ok (.iload_n 3, 1) := by decide +kernel
theorem d_java_lang_StringLatin1_indexOfChar_10 : decode b_java_lang_StringLatin1_indexOfChar 10 = .ok (.if_icmp .ge 21, 3) := by decide +kernel
theorem d_java_lang_StringLatin1_indexOfChar_13 : decode b_java_lang_StringLatin1_indexOfChar 13 = .ok (.aload_n 0, 1) := by decide +kernel
theorem d_java_lang_StringLatin1_indexOfChar_14 : decode b_java_lang_StringLatin1_indexOfChar 14 = .ok (.iload 5, 2) := by decide +kernel
theorem d_java_lang_StringLatin1_indexOfChar_16 : decode b_java_lang_StringLatin1_indexOfChar 16 = .ok (.baload, 1) := by decide +kernel
theorem d_java_lang_StringLatin1_indexOfChar_17 : decode b_java_lang_StringLatin1_indexOfChar 17 = .ok (.iload 4, 2) := by decide +kernel
theorem d_java_lang_StringLatin1_indexOfChar_19 : decode b_java_lang_StringLatin1_indexOfChar 19 = .ok (.if_icmp .ne 6, 3) := by decide +kernel
theorem d_java_lang_StringLatin1_indexOfChar_22 : decode b_java_lang_StringLatin1_indexOfChar 22 = .ok (.iload 5, 2) := by decide +kernel
theorem d_java_lang_StringLatin1_indexOfChar_24 : decode b_java_lang_StringLatin1_indexOfChar 24 = .ok (.ireturn, 1) := by decide +kernel
theorem d_java_lang_StringLatin1_indexOfChar_25 : decode b_java_lang_StringLatin1_indexOfChar 25 = .ok (.iinc 5 1, 3) := by decide +kernel
theorem d_java_lang_StringLatin1_indexOfChar_28 : decode b_java_lang_StringLatin1_indexOfChar 28 = .ok (.goto (-21), 3) := by decide +kernel
theorem d_java_lang_StringLatin1_indexOfChar_31 : decode b_java_lang_StringLatin1_indexOfChar 31 = .ok (.iconst (-1), 1) := by decide +kernel
theorem d_java_lang_StringLatin1_indexOfChar_32 : decode b_java_lang_StringLatin1_indexOfChar 32 = .ok (.ireturn, 1) := by decide +kernel
theorem w_maxC : Cond.code Lib.Math.max.name Lib.Math.max.code 2 (some .int) ∈ lwG := s_4 (List.mem_of_getElem? (i := 229) (by decide +kernel)) rfl
theorem w_maxS : Cond.static Lib.Math.max.name ∈ lwG := s_4 (List.mem_of_getElem? (i := 228) rfl) rfl
theorem nI_max {a b : Nat} (ha : a < 2 ^ 31) (hb : b < 2 ^ 31) : (if nI a < nI b then nI b else nI a) = nI (max a b) := by
  by_cases h : a < b
  · rw [if_pos (nI_lt h hb), Nat.max_eq_right (Nat.le_of_lt h)]
  · rw [if_neg (nI_nlt (Nat.le_of_not_lt h) ha), Nat.max_eq_left (Nat.le_of_not_lt h)]
section OwnRows8
variable {p : Program} {l : Launch} {e : Env} {R : Room} {s : State} {m : MethodId} {args : Array Value} {below : List Frame} {meth : Method} {c : Code} {H : Heap} {locs : List Loc} {cells slots : Nat} {Q : State → Prop} {cc : ByteArray} {nL : Nat} {own : String} {D : va_G} {tI tB tZ tL : ClassId} {X : (Nat → Prop) → State → Prop} {A : Nat → Prop} {ls : Array Slot} {rest : List Value} {pc : Nat}
theorem r_maxx (C : Cx p m c cc nL s args own D tI tB tZ tL X A) (hsz : ls.size = nL) {index : Nat} (hl : Cond.methodLink own index Lib.Math.max.name ∈ lwG) (hfr : 1 ≤ R.frames) (hlo : (rest.map fun v => v.category).sum + 13 ≤ R.locals) (hc : cells ≤ R.cells) (hs : slots ≤ R.slots) {x y : Int32} (hdg : decode cc pc = .ok (.invokestatic index, 3))
    (kk : W p l e R s m args below meth c H locs cells slots Q (F0 m (pc + 3) ls (.int (if x < y then y else x) :: rest))) : W p l e R s m args below meth c H locs cells slots Q (F0 m pc ls (.int y :: .int x :: rest)) :=
  va_mmax C.1.1 C.1.2.1 (by rw [C.1.2.2.1, hsz]) C.1.2.2.2.1 (C.1.2.2.2.2 _ hl) (C.1.2.2.2.2 _ w_maxS) (C.1.2.2.2.2 _ w_minI) (C.1.2.2.2.2 _ w_maxC) hfr hlo hc hs hdg kk
theorem r_minx (C : Cx p m c cc nL s args own D tI tB tZ tL X A) (hsz : ls.size = nL) {index : Nat} (hl : Cond.methodLink own index Lib.Math.min.name ∈ lwG) (hfr : 1 ≤ R.frames) (hlo : (rest.map fun v => v.category).sum + 13 ≤ R.locals) (hc : cells ≤ R.cells) (hs : slots ≤ R.slots) {x y : Int32} (hdg : decode cc pc = .ok (.invokestatic index, 3))
    (kk : W p l e R s m args below meth c H locs cells slots Q (F0 m (pc + 3) ls (.int (if y < x then y else x) :: rest))) : W p l e R s m args below meth c H locs cells slots Q (F0 m pc ls (.int y :: .int x :: rest)) :=
  va_mmin C.1.1 C.1.2.1 (by rw [C.1.2.2.1, hsz]) C.1.2.2.2.1 (C.1.2.2.2.2 _ hl) (C.1.2.2.2.2 _ w_minS) (C.1.2.2.2.2 _ w_minI) (C.1.2.2.2.2 _ w_minC) hfr hlo hc hs hdg kk
end OwnRows8
/-- where a number first stands in a text -/
def fi (bs : List Int32) (c : Int32) : Int32 := match bs.findIdx? (fun b => b == c) with
  | some k => nI k
  | none => -1
theorem fi_some {bs : List Int32} {c : Int32} {k : Nat} (hk : k < bs.length) (he : bs.getD k 0 = c) (hn : ∀ j, j < k → ¬ bs.getD j 0 = c) : fi bs c = nI k := by
  have e : bs.findIdx? (fun b => b == c) = some k := by
    rw [List.findIdx?_eq_some_iff_getElem]
    refine ⟨hk, ?_, fun j hj => ?_⟩
    · rw [List.getD_eq_getElem?_getD, List.getElem?_eq_getElem hk] at he
      simpa using he
    · have h := hn j hj
      rw [List.getD_eq_getElem?_getD, List.getElem?_eq_getElem (Nat.lt_trans hj hk)] at h
      simpa using h
  unfold fi
  rw [e]
theorem fi_none {bs : List Int32} {c : Int32} (hn : ∀ j, j < bs.length → ¬ bs.getD j 0 = c) : fi bs c = -1 := by
  have e : bs.findIdx? (fun b => b == c) = none := by
    rw [List.findIdx?_eq_none_iff]
    intro x hx
    obtain ⟨j, hj, rfl⟩ := List.mem_iff_getElem.mp hx
    have h := hn j hj
    rw [List.getD_eq_getElem?_getD, List.getElem?_eq_getElem hj] at h
    simpa using h
  unfold fi
  rw [e]
theorem i2b_all : ∀ n : Fin 256, (nI n.val).toInt8.toInt32 = if n.val < 128 then nI n.val else nI n.val - 256 := by decide +kernel
theorem i2b_of {c : Int32} (h0 : 0 ≤ c) (h1 : c ≤ 255) {b : Int32} (hb : 0 ≤ b) (h : b = c.toInt8.toInt32) : b = c := by
  have hc : c = nI c.toNatClampNeg := by
    apply Int32.toInt_inj.mp
    have z := Int32.le_iff_toInt_le.mp h0
    have z1 := Int32.le_iff_toInt_le.mp h1
    have e0 : (0 : Int32).toInt = 0 := by decide
    have e1 : (255 : Int32).toInt = 255 := by decide
    have e2 : c.toNatClampNeg = c.toInt.toNat := rfl
    rw [nI_toInt (by omega)]
    omega
  have z := Int32.le_iff_toInt_le.mp h0
  have z1 := Int32.le_iff_toInt_le.mp h1
  have e0 : (0 : Int32).toInt = 0 := by decide
  have e1 : (255 : Int32).toInt = 255 := by decide
  have e2 : c.toNatClampNeg = c.toInt.toNat := rfl
  have hn : c.toNatClampNeg < 256 := by omega
  have hi := i2b_all ⟨c.toNatClampNeg, hn⟩
  dsimp only at hi
  rw [← hc] at hi
  rw [hi] at h
  split at h
  · exact h
  · exfalso
    rename_i h128
    have hbz := Int32.le_iff_toInt_le.mp hb
    rw [h] at hbz
    have : ∀ n : Fin 256, ¬ n.val < 128 → (nI n.val - 256).toInt < 0 := by decide +kernel
    have hz := this ⟨c.toNatClampNeg, hn⟩ h128
    dsimp only at hz
    rw [← hc] at hz
    omega
theorem i2b_self {c : Int32} (h0 : 0 ≤ c) (h1 : c ≤ 127) : c.toInt8.toInt32 = c := by
  have z := Int32.le_iff_toInt_le.mp h0
  have z1 := Int32.le_iff_toInt_le.mp h1
  have e0 : (0 : Int32).toInt = 0 := by decide
  have e1 : (127 : Int32).toInt = 127 := by decide
  have e2 : c.toNatClampNeg = c.toInt.toNat := rfl
  have hc : c = nI c.toNatClampNeg := by
    apply Int32.toInt_inj.mp
    rw [nI_toInt (by omega)]
    omega
  have hn : c.toNatClampNeg < 256 := by omega
  have hi := i2b_all ⟨c.toNatClampNeg, hn⟩
  dsimp only at hi
  rw [← hc, if_pos (by omega)] at hi
  exact hi
set_option maxHeartbeats 4000000 in
set_option maxRecDepth 100000 in
theorem c_rangeCheck2 (l : Launch) (D : va_G) (tI tB tZ tL : ClassId) (X : (Nat → Prop) → State → Prop) (hX : Ro X) (n f t : Nat) (h1 : f ≤ t) (h2 : t ≤ n) (hn : n < 2 ^ 31) : CtV l D tI tB tZ tL X y_Arrays_rangeCheck b_Arrays_rangeCheck 3 ({ frames := 0, cells := 0, slots := 0, locals := 0 }) [.int (nI n), .int (nI f), .int (nI t)] [] (S := Unit) (fun _ => True) (fun _ => []) := by
  refine CtV.start hX (by decide) (Nat.le_of_ble_eq_true rfl) ?_
  intro p e s m args below meth c A ls C hr hlk hin hW hl
  refine W.nameQ (fun Q hQ => ?_)
  have hx := C.1.1
  have hb := C.1.2.1
  have hown := C.1.2.2.2.1
  have hT := C.1.2.2.2.2
  have hl : lv_has ls 3 [(0, .int (nI n)), (1, .int (nI f)), (2, .int (nI t))] := hl
  refine lv_iload_n hx hb d_Arrays_rangeCheck_0 rfl (lv_at hl 1 rfl) ?_
  refine lv_iload_n hx hb d_Arrays_rangeCheck_1 rfl (lv_at hl 2 rfl) ?_
  refine lv_icmp_le (tgt := 46) hx hb d_Arrays_rangeCheck_2 (by decide) (fun c_2 => ?_) (fun c_2 => absurd ((nI_leI (by omega) (by omega)).mpr h1) c_2)
  refine lv_iload_n hx hb d_Arrays_rangeCheck_46 rfl (lv_at hl 1 rfl) ?_
  refine lv_if_ge (tgt := 59) hx hb d_Arrays_rangeCheck_47 (by decide) (fun c_47 => ?_) (fun c_47 => absurd (nI_pos' (by omega)) c_47)
  refine lv_iload_n hx hb d_Arrays_rangeCheck_59 rfl (lv_at hl 2 rfl) ?_
  refine lv_iload_n hx hb d_Arrays_rangeCheck_60 rfl (lv_at hl 0 rfl) ?_
  refine lv_icmp_le (tgt := 73) hx hb d_Arrays_rangeCheck_61 (by decide) (fun c_61 => ?_) (fun c_61 => absurd ((nI_leI (by omega) hn).mpr h2) c_61)
  rw [hQ]
  exact r_vret C hr hlk hW () trivial [] (by decide) rfl d_Arrays_rangeCheck_73 (by decide) (by decide)
set_option maxHeartbeats 4000000 in
set_option maxRecDepth 100000 in
/-- Arrays.fill(a, f, t, v) -/
theorem c_fillr (l : Launch) (D : va_G) (tI tB tZ tL : ClassId) (X : (Nat → Prop) → State → Prop) (hX : Ro X) (h0 nn f t : Nat) (v : Int32) (g0 : Nat → Int32) (h1 : f ≤ t) (h2 : t ≤ nn) (hnn : nn < 2 ^ 30) : CtV l D tI tB tZ tL X y_Arrays_fill1 b_Arrays_fill1 5 ({ frames := 1, cells := 0, slots := 0, locals := 22 }) [.ref h0, .int (nI f), .int (nI t), .int v] [(h0, .inl (tI, nn, .inl g0))] (S := Nat → Int32) (fun g => ∀ j, g j = if f ≤ j ∧ j < t then v else g0 j) (fun g => [(h0, .inl (tI, nn, .inl g))]) := by
  refine CtV.start hX (by decide) (Nat.le_of_ble_eq_true rfl) ?_
  intro p e s m args below meth c A ls C hr hlk hin hW hl
  refine W.nameQ (fun Q hQ => ?_)
  have hx := C.1.1
  have hb := C.1.2.1
  have hown := C.1.2.2.2.1
  have hT := C.1.2.2.2.2
  have hl : lv_has ls 5 [(0, .ref h0), (1, .int (nI f)), (2, .int (nI t)), (3, .int v)] := hl
  refine lv_aload_n hx hb d_Arrays_fill1_0 rfl (lv_at hl 0 rfl) ?_
  refine r_len C hW 0 0 rfl rfl d_Arrays_fill1_1 ?_
  refine lv_iload_n hx hb d_Arrays_fill1_2 rfl (lv_at hl 1 rfl) ?_
  refine lv_iload_n hx hb d_Arrays_fill1_3 rfl (lv_at hl 2 rfl) ?_
  refine r_callS [.int (nI nn), .int (nI f), .int (nI t)] [] C hl.1 hW (c_rangeCheck2 l D tI tB tZ tL X hX nn f t h1 h2 (by omega)) ok_Arrays_rangeCheck w_851 (wr := [(h0, .inl (tI, nn, .inl g0))]) [] [0] rfl rfl (by decide) (by decide) (by decide) rfl (by decide) (Nat.le_of_ble_eq_true rfl) (by decide) d_Arrays_fill1_4 (fun u_ H locs hu hW => ?_)
  have hW : Wd D A s [(h0, .inl (tI, nn, .inl g0))] H _ := hW
  refine lv_iload_n hx hb d_Arrays_fill1_7 rfl (lv_at hl 1 rfl) ?_
  refine lv_istore (lv' := [(4, .int (nI f)), (0, .ref h0), (1, .int (nI f)), (2, .int (nI t)), (3, .int v)]) hx hb d_Arrays_fill1_8 hl (by decide) rfl (fun ls hl => ?_)
  have loop : ∀ (fu_loop : Nat) (k : Nat) (g : Nat → Int32) (H : Heap) (locs : List Loc) (ls : Array Slot), t + 1 ≤ k + fu_loop → (f ≤ k) → (k ≤ t) → (∀ j, g j = if f ≤ j ∧ j < k then v else g0 j) → Wd D A s [(h0, .inl (tI, nn, .inl g))] H locs → lv_has ls 5 [(4, .int (nI k)), (0, .ref h0), (2, .int (nI t)), (3, .int v)] → W p l e ({ frames := 1, cells := 0, slots := 0, locals := 22 }) s m args below meth c H locs 0 0 Q (F0 m 10 ls []) := by
    intro fu_loop
    induction fu_loop with
    | zero => intro k g H locs ls hn hf hk hg hW hl; exact absurd hn (by omega)
    | succ fu_loop ih_loop =>
      intro k g H locs ls hn hf hk hg hW hl
      refine lv_iload hx hb d_Arrays_fill1_10 (lv_at hl 0 rfl) ?_
      refine lv_iload_n hx hb d_Arrays_fill1_12 rfl (lv_at hl 2 rfl) ?_
      refine lv_icmp_ge (tgt := 27) hx hb d_Arrays_fill1_13 (by decide) (fun c_13 => ?_) (fun c_13 => ?_)
      · rw [hQ]
        exact r_vret C hr hlk hW g (fun j => by rw [hg j, show k = t from Nat.le_antisymm hk (k_le c_13 (by omega) (by omega))]) [0] (by decide) rfl d_Arrays_fill1_27 (by decide) (by decide)
      · have hk2 : k < t := k_nle c_13 (by omega) (by omega)
        refine lv_aload_n hx hb d_Arrays_fill1_16 rfl (lv_at hl 1 rfl) ?_
        refine lv_iload hx hb d_Arrays_fill1_17 (lv_at hl 0 rfl) ?_
        refine lv_iload_n hx hb d_Arrays_fill1_19 rfl (lv_at hl 3 rfl) ?_
        refine r_stI C hW 0 rfl k rfl (by omega) (by omega) d_Arrays_fill1_20 (fun H locs hW => ?_)
        have hW : Wd D A s [(h0, .inl (tI, nn, .inl (upd g k v)))] H _ := hW
        refine lv_iinc (v := (nI (k + 1))) (lv' := [(4, .int (nI (k + 1))), (0, .ref h0), (2, .int (nI t)), (3, .int v)]) hx hb d_Arrays_fill1_21 hl (k := 0) rfl (nI_1 k) (by decide) rfl (fun ls hl => ?_)
        refine lv_goto (tgt := 10) hx hb d_Arrays_fill1_24 (by decide) ?_
        exact ih_loop (k + 1) (upd g k v) H locs ls (by omega) (by omega) (by omega) (fun j => by
        by_cases e : j = k
        · subst e; rw [pk_us, if_pos ⟨hf, by omega⟩]
        · rw [pk_un e, hg j]; congr 1; apply propext; omega) (hW.sub [0] (by decide) rfl) (lv_sub hl [0, 1, 2, 3] rfl)
  exact loop (t + 1) f g0 _ _ _ (by omega) (Nat.le_refl _) h1 (fun j => by rw [if_neg (by omega)]) (hW.sub [0] (by decide) rfl) (lv_sub hl [0, 1, 3, 4] rfl)
set_option maxHeartbeats 4000000 in
set_option maxRecDepth 100000 in
theorem c_Lat_canEncode (l : Launch) (D : va_G) (tI tB tZ tL : ClassId) (X : (Nat → Prop) → State → Prop) (hX : Ro X) (ch : Int32) : CtI l D tI tB tZ tL X y_java_lang_StringLatin1_canEncode b_java_lang_StringLatin1_canEncode 1 .boolean ({ frames := 0, cells := 0, slots := 0, locals := 0 }) [.int ch] [] (S := Unit) (fun (r : Int32) (_ : Unit) => r = if 0 ≤ ch ∧ ch ≤ 255 then 1 else 0) (fun _ => []) := by
  refine CtI.start hX (by decide) (Nat.le_of_ble_eq_true rfl) ?_
  intro p e s m args below meth c A ls C hr hlk hW hl
  refine W.nameQ (fun Q hQ => ?_)
  have hx := C.1.1
  have hb := C.1.2.1
  have hown := C.1.2.2.2.1
  have hT := C.1.2.2.2.2
  have hl : lv_has ls 1 [(0, .int ch)] := hl
  refine lv_iload_n hx hb d_java_lang_StringLatin1_canEncode_0 rfl (lv_at hl 0 rfl) ?_
  refine lv_if_lt (tgt := 15) hx hb d_java_lang_StringLatin1_canEncode_1 (by decide) (fun c_1 => ?_) (fun c_1 => ?_)
  · have hz : ¬ (0 ≤ ch ∧ ch ≤ 255) := fun z => absurd c_1 (Int32.not_lt.mpr z.1)
    refine lv_iconst (v := 0) hx hb d_java_lang_StringLatin1_canEncode_15 (by decide) ?_
    rw [hQ]
    exact r_iret C hr hlk hW rfl () (by first | rw [if_neg hz] | rw [if_pos hz]) [] (by decide) rfl d_java_lang_StringLatin1_canEncode_16 (by decide) (by decide)
  · refine lv_iload_n hx hb d_java_lang_StringLatin1_canEncode_4 rfl (lv_at hl 0 rfl) ?_
    refine lv_sipush (v := 255) hx hb d_java_lang_StringLatin1_canEncode_5 (by decide) ?_
    refine lv_icmp_gt (tgt := 15) hx hb d_java_lang_StringLatin1_canEncode_8 (by decide) (fun c_8 => ?_) (fun c_8 => ?_)
    · have hz : ¬ (0 ≤ ch ∧ ch ≤ 255) := fun z => absurd c_8 (Int32.not_lt.mpr z.2)
      refine lv_iconst (v := 0) hx hb d_java_lang_StringLatin1_canEncode_15 (by decide) ?_
      rw [hQ]
      exact r_iret C hr hlk hW rfl () (by first | rw [if_neg hz] | rw [if_pos hz]) [] (by decide) rfl d_java_lang_StringLatin1_canEncode_16 (by decide) (by decide)
    · have hz : 0 ≤ ch ∧ ch ≤ 255 := ⟨Int32.not_lt.mp c_1, Int32.not_lt.mp c_8⟩
      refine lv_iconst (v := 1) hx hb d_java_lang_StringLatin1_canEncode_11 (by decide) ?_
      refine lv_goto (tgt := 16) hx hb d_java_lang_StringLatin1_canEncode_12 (by decide) ?_
      rw [hQ]
      exact r_iret C hr hlk hW rfl () (by first | rw [if_neg hz] | rw [if_pos hz]) [] (by decide) rfl d_java_lang_StringLatin1_canEncode_16 (by decide) (by decide)
set_option maxHeartbeats 4000000 in
set_option maxRecDepth 100000 in
theorem c_Lat_indexOfChar (l : Launch) (D : va_G) (tI tB tZ tL : ClassId) (X : (Nat → Prop) → State → Prop) (hX : Ro X) (q v : Nat) (bs : List Int32) (hJ : ∀ A U, X A U → sJ A U) (hs : ∀ A U, X A U → sAt q v bs A U) (hb31 : bs.length < 2 ^ 31) (hasc : ∀ j, j < bs.length → 0 ≤ bs.getD j 0 ∧ bs.getD j 0 ≤ 127) (ch : Int32) (hc0 : 0 ≤ ch) (hc1 : ch ≤ 255) : CtI l D tI tB tZ tL X y_java_lang_StringLatin1_indexOfChar b_java_lang_StringLatin1_indexOfChar 6 .int ({ frames := 0, cells := 0, slots := 0, locals := 0 }) [.ref v, .int ch, .int 0, .int (nI bs.length)] [] (S := Unit) (fun (r : Int32) (_ : Unit) => r = fi bs ch) (fun _ => []) := by
  refine CtI.start hX (by decide) (Nat.le_of_ble_eq_true rfl) ?_
  intro p e s m args below meth c A ls C hr hlk hW hl
  refine W.nameQ (fun Q hQ => ?_)
  have hx := C.1.1
  have hb := C.1.2.1
  have hown := C.1.2.2.2.1
  have hT := C.1.2.2.2.2
  have hl : lv_has ls 6 [(0, .ref v), (1, .int ch), (2, .int 0), (3, .int (nI bs.length))] := hl
  refine lv_iload_n hx hb d_java_lang_StringLatin1_indexOfChar_0 rfl (lv_at hl 1 rfl) ?_
  refine lv_i2b hx hb d_java_lang_StringLatin1_indexOfChar_1 rfl ?_
  refine lv_istore (lv' := [(4, .int ch.toInt8.toInt32), (0, .ref v), (1, .int ch), (2, .int 0), (3, .int (nI bs.length))]) hx hb d_java_lang_StringLatin1_indexOfChar_2 hl (by decide) rfl (fun ls hl => ?_)
  refine lv_iload_n hx hb d_java_lang_StringLatin1_indexOfChar_4 rfl (lv_at hl 3 rfl) ?_
  refine lv_istore (lv' := [(5, .int 0), (4, .int ch.toInt8.toInt32), (0, .ref v), (1, .int ch), (2, .int 0), (3, .int (nI bs.length))]) hx hb d_java_lang_StringLatin1_indexOfChar_5 hl (by decide) rfl (fun ls hl => ?_)
  have loop : ∀ (fu_loop : Nat) (k : Nat) (H : Heap) (locs : List Loc) (ls : Array Slot), bs.length + 1 ≤ k + fu_loop → (k ≤ bs.length) → (∀ j, j < k → ¬ bs.getD j 0 = ch) → Wd D A s [] H locs → lv_has ls 6 [(5, .int (nI k)), (4, .int ch.toInt8.toInt32), (0, .ref v), (3, .int (nI bs.length))] → W p l e ({ frames := 0, cells := 0, slots := 0, locals := 0 }) s m args below meth c H locs 0 0 Q (F0 m 7 ls []) := by
    intro fu_loop
    induction fu_loop with
    | zero => intro k H locs ls hn hk hne hW hl; exact absurd hn (by omega)
    | succ fu_loop ih_loop =>
      intro k H locs ls hn hk hne hW hl
      refine lv_iload hx hb d_java_lang_StringLatin1_indexOfChar_7 (lv_at hl 0 rfl) ?_
      refine lv_iload_n hx hb d_java_lang_StringLatin1_indexOfChar_9 rfl (lv_at hl 3 rfl) ?_
      refine lv_icmp_ge (tgt := 31) hx hb d_java_lang_StringLatin1_indexOfChar_10 (by decide) (fun c_10 => ?_) (fun c_10 => ?_)
      · refine lv_iconst (v := (-1)) hx hb d_java_lang_StringLatin1_indexOfChar_31 (by decide) ?_
        rw [hQ]
        exact r_iret C hr hlk hW rfl () (fi_none (fun j hj => hne j (Nat.lt_of_lt_of_le hj (k_le c_10 (by omega) (by omega))))).symm [] (by decide) rfl d_java_lang_StringLatin1_indexOfChar_32 (by decide) (by decide)
      · have hk2 : k < bs.length := k_nle c_10 (by omega) (by omega)
        refine lv_aload_n hx hb d_java_lang_StringLatin1_indexOfChar_13 rfl (lv_at hl 2 rfl) ?_
        refine lv_iload hx hb d_java_lang_StringLatin1_indexOfChar_14 (lv_at hl 0 rfl) ?_
        refine va_tb hx hb (hs A s C.2.2.2.1).2.2.2 hW.2.2 (vp_in_nI hk2 hb31) (v := .int (bs.getD k 0)) (by show Value.int (bs.getD (nI k).toNatClampNeg 0) = _; rw [nI_clamp (Nat.lt_trans hk2 hb31)]) d_java_lang_StringLatin1_indexOfChar_16 ?_
        refine lv_iload hx hb d_java_lang_StringLatin1_indexOfChar_17 (lv_at hl 1 rfl) ?_
        refine lv_icmp_ne (tgt := 25) hx hb d_java_lang_StringLatin1_indexOfChar_19 (by decide) (fun c_19 => ?_) (fun c_19 => ?_)
        · have hnk : ¬ bs.getD k 0 = ch := fun z => c_19 (by rw [z, i2b_self hc0 (by rw [← z]; exact (hasc k hk2).2)])
          refine lv_iinc (v := (nI (k + 1))) (lv' := [(5, .int (nI (k + 1))), (4, .int ch.toInt8.toInt32), (0, .ref v), (3, .int (nI bs.length))]) hx hb d_java_lang_StringLatin1_indexOfChar_25 hl (k := 0) rfl (nI_1 k) (by decide) rfl (fun ls hl => ?_)
          refine lv_goto (tgt := 7) hx hb d_java_lang_StringLatin1_indexOfChar_28 (by decide) ?_
          exact ih_loop (k + 1) H locs ls (by omega) (by omega) (fun j hj => by
        by_cases e : j = k
        · subst e; exact hnk
        · exact hne j (by omega)) (hW.sub [] (by decide) rfl) (lv_sub hl [0, 1, 2, 3] rfl)
        · have hek : bs.getD k 0 = ch := i2b_of hc0 hc1 (hasc k hk2).1 c_19
          refine lv_iload hx hb d_java_lang_StringLatin1_indexOfChar_22 (lv_at hl 0 rfl) ?_
          rw [hQ]
          exact r_iret C hr hlk hW rfl () (fi_some hk2 hek hne).symm [] (by decide) rfl d_java_lang_StringLatin1_indexOfChar_24 (by decide) (by decide)
  exact loop (bs.length + 1) 0 _ _ _ (by omega) (Nat.zero_le _) (fun j h => absurd h (Nat.not_lt_zero _)) (hW.sub [] (by decide) rfl) (lv_sub hl [0, 1, 2, 5] rfl)
set_option maxHeartbeats 4000000 in
set_option maxRecDepth 100000 in
theorem c_Lat_indexOf (l : Launch) (D : va_G) (tI tB tZ tL : ClassId) (X : (Nat → Prop) → State → Prop) (hX : Ro X) (q v : Nat) (bs : List Int32) (hJ : ∀ A U, X A U → sJ A U) (hs : ∀ A U, X A U → sAt q v bs A U) (hb31 : bs.length < 2 ^ 31) (hasc : ∀ j, j < bs.length → 0 ≤ bs.getD j 0 ∧ bs.getD j 0 ≤ 127) (ch : Int32) : CtI l D tI tB tZ tL X y_java_lang_StringLatin1_indexOf1 b_java_lang_StringLatin1_indexOf1 4 .int ({ frames := 2, cells := 0, slots := 0, locals := 60 }) [.ref v, .int ch, .int 0, .int (nI bs.length)] [] (S := Unit) (fun (r : Int32) (_ : Unit) => r = fi bs ch) (fun _ => []) := by
  refine CtI.start hX (by decide) (Nat.le_of_ble_eq_true rfl) ?_
  intro p e s m args below meth c A ls C hr hlk hW hl
  refine W.nameQ (fun Q hQ => ?_)
  have hx := C.1.1
  have hb := C.1.2.1
  have hown := C.1.2.2.2.1
  have hT := C.1.2.2.2.2
  have hl : lv_has ls 4 [(0, .ref v), (1, .int ch), (2, .int 0), (3, .int (nI bs.length))] := hl
  refine lv_iload_n hx hb d_java_lang_StringLatin1_indexOf1_0 rfl (lv_at hl 1 rfl) ?_
  refine r_callSi [.int ch] [] C hl.1 hW (c_Lat_canEncode l D tI tB tZ tL X hX ch) ok_java_lang_StringLatin1_canEncode w_1517 (wr := []) [] [] rfl rfl (by decide) (by decide) (by decide) rfl (by decide) (Nat.le_of_ble_eq_true rfl) (by decide) d_java_lang_StringLatin1_indexOf1_1 (fun r1 u_ H locs hu hW => ?_)
  subst hu
  have hW : Wd D A s [] H _ := hW
  refine lv_if_ne (tgt := 9) hx hb d_java_lang_StringLatin1_indexOf1_4 (by decide) (fun c_4 => ?_) (fun c_4 => ?_)
  · have hz : 0 ≤ ch ∧ ch ≤ 255 := by
      by_cases z : 0 ≤ ch ∧ ch ≤ 255
      · exact z
      · exact absurd (if_neg z) c_4
    refine lv_iload_n hx hb d_java_lang_StringLatin1_indexOf1_9 rfl (lv_at hl 2 rfl) ?_
    refine lv_iconst (v := 0) hx hb d_java_lang_StringLatin1_indexOf1_10 (by decide) ?_
    refine r_maxx C hl.1 w_1520 (by decide) (Nat.le_of_ble_eq_true rfl) (Nat.le_refl _) (Nat.le_refl _) d_java_lang_StringLatin1_indexOf1_11 ?_
    refine W.eq (congrArg (fun z : Int32 => F0 m 14 ls (.int z :: [])) (show (if (0 : Int32) < 0 then 0 else 0) = 0 from (by decide))) ?_
    refine lv_istore_n (lv' := [(2, .int 0), (0, .ref v), (1, .int ch), (3, .int (nI bs.length))]) hx hb d_java_lang_StringLatin1_indexOf1_14 rfl hl (by decide) rfl (fun ls hl => ?_)
    refine lv_iload_n hx hb d_java_lang_StringLatin1_indexOf1_15 rfl (lv_at hl 3 rfl) ?_
    refine lv_aload_n hx hb d_java_lang_StringLatin1_indexOf1_16 rfl (lv_at hl 1 rfl) ?_
    refine va_tlen hx hb (hs A s C.2.2.2.1).2.2.2 hW.2.2 rfl d_java_lang_StringLatin1_indexOf1_17 ?_
    refine r_min C hl.1 w_1521 (by decide) (Nat.le_of_ble_eq_true rfl) (Nat.le_refl _) (Nat.le_refl _) bs.length bs.length rfl rfl hb31 hb31 d_java_lang_StringLatin1_indexOf1_18 ?_
    refine W.eq (congrArg (fun z : Int32 => F0 m 21 ls (.int z :: [])) (show (nI (min bs.length bs.length)) = (nI bs.length) from (by rw [Nat.min_self]))) ?_
    refine lv_istore_n (lv' := [(3, .int (nI bs.length)), (2, .int 0), (0, .ref v), (1, .int ch)]) hx hb d_java_lang_StringLatin1_indexOf1_21 rfl hl (by decide) rfl (fun ls hl => ?_)
    refine lv_iload_n hx hb d_java_lang_StringLatin1_indexOf1_22 rfl (lv_at hl 1 rfl) ?_
    refine lv_iload_n hx hb d_java_lang_StringLatin1_indexOf1_23 rfl (lv_at hl 0 rfl) ?_
    refine lv_icmp_lt (tgt := 29) hx hb d_java_lang_StringLatin1_indexOf1_24 (by decide) (fun c_24 => ?_) (fun c_24 => ?_)
    · have hpos : 0 < bs.length := k_lt (a := 0) c_24 (by decide) hb31
      refine lv_aload_n hx hb d_java_lang_StringLatin1_indexOf1_29 rfl (lv_at hl 2 rfl) ?_
      refine lv_iload_n hx hb d_java_lang_StringLatin1_indexOf1_30 rfl (lv_at hl 3 rfl) ?_
      refine lv_iload_n hx hb d_java_lang_StringLatin1_indexOf1_31 rfl (lv_at hl 1 rfl) ?_
      refine lv_iload_n hx hb d_java_lang_StringLatin1_indexOf1_32 rfl (lv_at hl 0 rfl) ?_
      refine r_callSi [.ref v, .int ch, .int 0, .int (nI bs.length)] [] C hl.1 hW (c_Lat_indexOfChar l D tI tB tZ tL X hX q v bs hJ hs hb31 hasc ch hz.1 hz.2) ok_java_lang_StringLatin1_indexOfChar w_1522 (wr := []) [] [] rfl rfl (by decide) (by decide) (by decide) rfl (by decide) (Nat.le_of_ble_eq_true rfl) (by decide) d_java_lang_StringLatin1_indexOf1_33 (fun r33 u_ H locs hu hW => ?_)
      subst hu
      have hW : Wd D A s [] H _ := hW
      rw [hQ]
      exact r_iret C hr hlk hW rfl () rfl [] (by decide) rfl d_java_lang_StringLatin1_indexOf1_36 (by decide) (by decide)
    · have hz0 : bs.length ≤ 0 := k_nlt (a := 0) c_24 (by decide) hb31
      refine lv_iconst (v := (-1)) hx hb d_java_lang_StringLatin1_indexOf1_27 (by decide) ?_
      rw [hQ]
      exact r_iret C hr hlk hW rfl () (fi_none (fun j hj => absurd hj (by omega))).symm [] (by decide) rfl d_java_lang_StringLatin1_indexOf1_28 (by decide) (by decide)
  · have hz : ¬ (0 ≤ ch ∧ ch ≤ 255) := fun z => by rw [if_pos z] at c_4; exact absurd c_4 (by decide)
    refine lv_iconst (v := (-1)) hx hb d_java_lang_StringLatin1_indexOf1_7 (by decide) ?_
    rw [hQ]
    exact r_iret C hr hlk hW rfl () (fi_none (bs := bs) (c := ch) (fun j hj z => hz ⟨by have h := (hasc j hj).1; rw [z] at h; exact h, by have h := (hasc j hj).2; rw [z] at h; exact Int32.le_trans h (by decide)⟩)).symm [] (by decide) rfl d_java_lang_StringLatin1_indexOf1_8 (by decide) (by decide)
set_option maxHeartbeats 4000000 in
set_option maxRecDepth 100000 in
theorem c_Str_indexOf2 (l : Launch) (D : va_G) (tI tB tZ tL : ClassId) (X : (Nat → Prop) → State → Prop) (hX : Ro X) (q v : Nat) (bs : List Int32) (hJ : ∀ A U, X A U → sJ A U) (hs : ∀ A U, X A U → sAt q v bs A U) (hb31 : bs.length < 2 ^ 31) (hasc : ∀ j, j < bs.length → 0 ≤ bs.getD j 0 ∧ bs.getD j 0 ≤ 127) (ch : Int32) : CtI l D tI tB tZ tL X y_Str_indexOf1 b_Str_indexOf1 3 .int ({ frames := 3, cells := 0, slots := 0, locals := 90 }) [.ref q, .int ch, .int 0] [] (S := Unit) (fun (r : Int32) (_ : Unit) => r = fi bs ch) (fun _ => []) := by
  refine CtI.start hX (by decide) (Nat.le_of_ble_eq_true rfl) ?_
  intro p e s m args below meth c A ls C hr hlk hW hl
  refine W.nameQ (fun Q hQ => ?_)
  have hx := C.1.1
  have hb := C.1.2.1
  have hown := C.1.2.2.2.1
  have hT := C.1.2.2.2.2
  have hl : lv_has ls 3 [(0, .ref q), (1, .int ch), (2, .int 0)] := hl
  refine lv_aload_n hx hb d_Str_indexOf1_0 rfl (lv_at hl 0 rfl) ?_
  refine r_callXi [] [] C hl.1 hW (c_Str_isLatin1 l D tI tB tZ tL X hX q v bs hJ hs) ok_Str_isLatin1 w_77 (wr := []) [] [] rfl rfl (by decide) (by decide) (by decide) (r_recv C hW (hs A s C.2.2.2.1).1) rfl (by decide) (Nat.le_of_ble_eq_true rfl) (by decide) d_Str_indexOf1_1 (fun r1 u_ H locs hu hW => ?_)
  subst hu
  have hW : Wd D A s [] H _ := hW
  refine lv_if_eq (tgt := 23) hx hb d_Str_indexOf1_4 (by decide) (fun c_4 => absurd c_4 (by decide)) (fun c_4 => ?_)
  refine lv_aload_n hx hb d_Str_indexOf1_7 rfl (lv_at hl 0 rfl) ?_
  refine vk_getf hx hb (hs A s C.2.2.2.1).2.2.1 hW.2.2 hown (hT _ w_1123) (fun _ h => h) d_Str_indexOf1_8 ?_
  refine lv_iload_n hx hb d_Str_indexOf1_11 rfl (lv_at hl 1 rfl) ?_
  refine lv_iload_n hx hb d_Str_indexOf1_12 rfl (lv_at hl 2 rfl) ?_
  refine lv_aload_n hx hb d_Str_indexOf1_13 rfl (lv_at hl 0 rfl) ?_
  refine r_callXi [] [.int 0, .int ch, .ref v] C hl.1 hW (c_Str_length l D tI tB tZ tL X hX q v bs hJ hs hb31) ok_Str_length w_1513 (wr := []) [] [] rfl rfl (by decide) (by decide) (by decide) (r_recv C hW (hs A s C.2.2.2.1).1) rfl (by decide) (Nat.le_of_ble_eq_true rfl) (by decide) d_Str_indexOf1_14 (fun r14 u_ H locs hu hW => ?_)
  subst hu
  have hW : Wd D A s [] H _ := hW
  refine r_callSi [.ref v, .int ch, .int 0, .int (nI bs.length)] [] C hl.1 hW (c_Lat_indexOf l D tI tB tZ tL X hX q v bs hJ hs hb31 hasc ch) ok_java_lang_StringLatin1_indexOf1 w_1514 (wr := []) [] [] rfl rfl (by decide) (by decide) (by decide) rfl (by decide) (Nat.le_of_ble_eq_true rfl) (by decide) d_Str_indexOf1_17 (fun r17 u_ H locs hu hW => ?_)
  subst hu
  have hW : Wd D A s [] H _ := hW
  refine lv_goto (tgt := 36) hx hb d_Str_indexOf1_20 (by decide) ?_
  rw [hQ]
  exact r_iret C hr hlk hW rfl () rfl [] (by decide) rfl d_Str_indexOf1_36 (by decide) (by decide)
set_option maxHeartbeats 4000000 in
set_option maxRecDepth 100000 in
/-- indexOf(c) -/
theorem c_Str_indexOf1 (l : Launch) (D : va_G) (tI tB tZ tL : ClassId) (X : (Nat → Prop) → State → Prop) (hX : Ro X) (q v : Nat) (bs : List Int32) (hJ : ∀ A U, X A U → sJ A U) (hs : ∀ A U, X A U → sAt q v bs A U) (hb31 : bs.length < 2 ^ 31) (hasc : ∀ j, j < bs.length → 0 ≤ bs.getD j 0 ∧ bs.getD j 0 ≤ 127) (ch : Int32) : CtI l D tI tB tZ tL X y_Str_indexOf0 b_Str_indexOf0 2 .int ({ frames := 4, cells := 0, slots := 0, locals := 115 }) [.ref q, .int ch] [] (S := Unit) (fun (r : Int32) (_ : Unit) => r = fi bs ch) (fun _ => []) := by
  refine CtI.start hX (by decide) (Nat.le_of_ble_eq_true rfl) ?_
  intro p e s m args below meth c A ls C hr hlk hW hl
  refine W.nameQ (fun Q hQ => ?_)
  have hx := C.1.1
  have hb := C.1.2.1
  have hown := C.1.2.2.2.1
  have hT := C.1.2.2.2.2
  have hl : lv_has ls 2 [(0, .ref q), (1, .int ch)] := hl
  refine lv_aload_n hx hb d_Str_indexOf0_0 rfl (lv_at hl 0 rfl) ?_
  refine lv_iload_n hx hb d_Str_indexOf0_1 rfl (lv_at hl 1 rfl) ?_
  refine lv_iconst (v := 0) hx hb d_Str_indexOf0_2 (by decide) ?_
  refine r_callXi [.int ch, .int 0] [] C hl.1 hW (c_Str_indexOf2 l D tI tB tZ tL X hX q v bs hJ hs hb31 hasc ch) ok_Str_indexOf1 w_1509 (wr := []) [] [] rfl rfl (by decide) (by decide) (by decide) (r_recv C hW (hs A s C.2.2.2.1).1) rfl (by decide) (Nat.le_of_ble_eq_true rfl) (by decide) d_Str_indexOf0_3 (fun r3 u_ H locs hu hW => ?_)
  subst hu
  have hW : Wd D A s [] H _ := hW
  rw [hQ]
  exact r_iret C hr hlk hW rfl () rfl [] (by decide) rfl d_Str_indexOf0_6 (by decide) (by decide)
