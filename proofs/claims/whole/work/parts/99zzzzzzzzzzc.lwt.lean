/-! THE CLAIM OUT OF ONE WALK OF THE LAW'S BODY. Your part is whole_start (and what it stands on); all else here is the same for every law, but numbers. -/
def R_law : String := "MarkupJudgeLaw"
def lw_P (b : Addr) (xs : List Int32) (args : Array Value) (s : State) : Prop := args = #[.ref b] ∧ s.IntsAt b xs ∧ xs.length ≤ 3074 ∧ (Jvm.Cond.and given_1 narrow_1).before args s = true
def lw_Q (_ : Array Value) (s : State) (o : Outcome) (t : State) : Prop := o = .returned (some (.int 1)) ∧ Framed s o t [] 123806 8724654
def lw_Z (below : List Frame) (a : Array Value) (s : State) : State → Prop := fun t => ∃ o, t.status = .running ∧ Ended t below o ∧ lw_Q a s o t
/-- the law's own end, with 1 on the stack, nothing written that was there before, its room as the claim has it -/
theorem lw_ret {p : Program} {l : Launch} {e : Env} {s : State} {m : MethodId} {below : List Frame} {meth : Method} {c : Code} {b : Nat} (hx : p.tables.exec = Jvm.exec) (hb : c.code = code) (hr : meth.sig.returnType = ret) (hlocks : meth.locks = false) {pc : Nat} {H : Heap} {ls : Array Slot} (hdg : decode code pc = .ok (.ireturn, 1)) : W p l e room_1 s m #[Value.ref b] below meth c H [] 123806 8724654 (lw_Z below #[Value.ref b] s) (F0 m pc ls [.int 1]) := by
  intro T hT X
  obtain ⟨fs, hret, hrun, hended, hW, hframe⟩ := X.leave (v := some (.int 1)) (hlocks := hlocks) (fun h => by rw [hr] at h; cases h)
  have hmeth' : T.vm.method? m = some meth := X.method'
  refine ⟨T.setFrames fs, ?_, .returned (some (.int 1)), hrun, hended, rfl, ⟨_, rfl⟩, hW, hframe⟩
  jvm_step X.here [X.here.top, hx, hb, hdg, hmeth', hr, ret, narrow_b1]
  (try refine ⟨rfl, ?_⟩); (try refine ⟨rfl, ?_⟩)
  first | (intro acts; rw [hret _ acts rfl rfl rfl]) | rw [hret _ _ rfl rfl rfl]
  exact Steps.refl _
/-- what holds at the law's entry: the machine, the code, the tables' words (any of lw_tbl by 'hts w (by decide +kernel)'), the script of L ints xs at the cell b, what the Statement gives of the start (any of its parts by flat_of_before) -/
def lw_At (p : Program) (s : State) (m : MethodId) (meth : Method) (c : Code) (b L : Nat) (xs : Nat → Int32) : Prop :=
  p.tables.exec = Jvm.exec ∧ c.code = code ∧ meth.sig.returnType = ret ∧ c.maxLocals = 7 ∧ s.vm.findClass R_law = some m.cls ∧ (∀ w ∈ lw_tbl, w.before #[Value.ref b] s = true) ∧ va_X b L xs s s.heap ∧ b < s.heap.size ∧ meth.locks = false ∧ (Jvm.Cond.and given_1 narrow_1).before #[Value.ref b] s = true
def y_L_law : MethodName := ⟨"MarkupJudgeLaw", "law", "([I)Z"⟩
abbrev b_L_law : ByteArray := code
theorem w_1 : (Jvm.Cond.initialized "MarkupJudge") ∈ lwG := s_1 (List.mem_of_getElem? (i := 1) rfl) rfl
theorem w_19 : (Jvm.Cond.initialized "MarkupJudgeModel") ∈ lwG := s_1 (List.mem_of_getElem? (i := 19) rfl) rfl
theorem w_35 : (Jvm.Cond.classLink "MarkupJudgeLaw" (8 : Nat) "MarkupJudge") ∈ lwG := s_1 (List.mem_of_getElem? (i := 35) rfl) rfl
theorem w_36 : (Jvm.Cond.instantiable "MarkupJudge" (15 : Nat)) ∈ lwG := s_1 (List.mem_of_getElem? (i := 36) rfl) rfl
theorem w_37 : (Jvm.Cond.methodLink "MarkupJudgeLaw" (27 : Nat) ({ cls := "MarkupJudge", name := "<init>", desc := "(II)V" } : Jvm.MethodName)) ∈ lwG := s_1 (List.mem_of_getElem? (i := 37) rfl) rfl
theorem w_832 : (Jvm.Cond.methodLink "MarkupJudgeLaw" (45 : Nat) ({ cls := "MarkupJudge", name := "change", desc := "(II)I" } : Jvm.MethodName)) ∈ lwG := s_4 (List.mem_of_getElem? (i := 112) rfl) rfl
theorem w_836 : (Jvm.Cond.methodLink "MarkupJudgeLaw" (50 : Nat) ({ cls := "MarkupJudge", name := "judge", desc := "()I" } : Jvm.MethodName)) ∈ lwG := s_4 (List.mem_of_getElem? (i := 116) rfl) rfl
theorem w_1885 : (Jvm.Cond.methodLink "MarkupJudgeLaw" (54 : Nat) ({ cls := "MarkupJudge", name := "fault", desc := "()I" } : Jvm.MethodName)) ∈ lwG := s_8 (List.mem_of_getElem? (i := 205) rfl) rfl
theorem w_1889 : (Jvm.Cond.methodLink "MarkupJudgeLaw" (58 : Nat) ({ cls := "MarkupJudge", name := "place", desc := "()I" } : Jvm.MethodName)) ∈ lwG := s_8 (List.mem_of_getElem? (i := 209) rfl) rfl
theorem w_1893 : (Jvm.Cond.methodLink "MarkupJudgeLaw" (62 : Nat) ({ cls := "MarkupJudge", name := "violations", desc := "(I)I" } : Jvm.MethodName)) ∈ lwG := s_8 (List.mem_of_getElem? (i := 213) rfl) rfl
theorem w_1897 : (Jvm.Cond.methodLink "MarkupJudgeLaw" (66 : Nat) ({ cls := "MarkupJudge", name := "spaces", desc := "(I)I" } : Jvm.MethodName)) ∈ lwG := s_8 (List.mem_of_getElem? (i := 217) rfl) rfl
theorem w_1901 : (Jvm.Cond.methodLink "MarkupJudgeLaw" (70 : Nat) ({ cls := "MarkupJudge", name := "elements", desc := "()I" } : Jvm.MethodName)) ∈ lwG := s_8 (List.mem_of_getElem? (i := 221) rfl) rfl
theorem w_1905 : (Jvm.Cond.methodLink "MarkupJudgeLaw" (74 : Nat) ({ cls := "MarkupJudge", name := "attributes", desc := "(I)I" } : Jvm.MethodName)) ∈ lwG := s_8 (List.mem_of_getElem? (i := 225) rfl) rfl
theorem w_1913 : (Jvm.Cond.methodLink "MarkupJudgeLaw" (78 : Nat) ({ cls := "MarkupJudge", name := "parent", desc := "(I)I" } : Jvm.MethodName)) ∈ lwG := s_8 (List.mem_of_getElem? (i := 233) rfl) rfl
theorem w_1917 : (Jvm.Cond.methodLink "MarkupJudgeLaw" (82 : Nat) ({ cls := "MarkupJudge", name := "name", desc := "(II)I" } : Jvm.MethodName)) ∈ lwG := s_8 (List.mem_of_getElem? (i := 237) rfl) rfl
theorem w_1922 : (Jvm.Cond.methodLink "MarkupJudgeLaw" (86 : Nat) ({ cls := "MarkupJudge", name := "attribute", desc := "(IIII)I" } : Jvm.MethodName)) ∈ lwG := s_9 (List.mem_of_getElem? (i := 2) rfl) rfl
theorem w_1926 : (Jvm.Cond.methodLink "MarkupJudgeLaw" (91 : Nat) ({ cls := "MarkupJudge", name := "characters", desc := "()I" } : Jvm.MethodName)) ∈ lwG := s_9 (List.mem_of_getElem? (i := 6) rfl) rfl
theorem w_1930 : (Jvm.Cond.methodLink "MarkupJudgeLaw" (95 : Nat) ({ cls := "MarkupJudge", name := "counted", desc := "()I" } : Jvm.MethodName)) ∈ lwG := s_9 (List.mem_of_getElem? (i := 10) rfl) rfl
theorem w_1934 : (Jvm.Cond.methodLink "MarkupJudgeLaw" (99 : Nat) ({ cls := "MarkupJudge", name := "canonical", desc := "()I" } : Jvm.MethodName)) ∈ lwG := s_9 (List.mem_of_getElem? (i := 14) rfl) rfl
theorem w_2026 : (Jvm.Cond.methodLink "MarkupJudgeLaw" (103 : Nat) ({ cls := "MarkupJudge", name := "out", desc := "(I)I" } : Jvm.MethodName)) ∈ lwG := s_9 (List.mem_of_getElem? (i := 106) rfl) rfl
theorem w_2030 : (Jvm.Cond.methodLink "MarkupJudgeLaw" (107 : Nat) ({ cls := "MarkupJudge", name := "back", desc := "()I" } : Jvm.MethodName)) ∈ lwG := s_9 (List.mem_of_getElem? (i := 110) rfl) rfl
theorem w_2035 : (Jvm.Cond.methodLink "MarkupJudgeLaw" (111 : Nat) ({ cls := "MarkupJudge", name := "steady", desc := "()Z" } : Jvm.MethodName)) ∈ lwG := s_9 (List.mem_of_getElem? (i := 115) rfl) rfl
theorem w_2039 : (Jvm.Cond.methodLink "MarkupJudgeLaw" (21 : Nat) ({ cls := "MarkupJudgeLaw", name := "cell", desc := "([II)I" } : Jvm.MethodName)) ∈ lwG := s_9 (List.mem_of_getElem? (i := 119) rfl) rfl
theorem w_2042 : (Jvm.Cond.methodLink "MarkupJudgeLaw" (33 : Nat) ({ cls := "MarkupJudgeLaw", name := "feed", desc := "(LMarkupJudge;IIIII)I" } : Jvm.MethodName)) ∈ lwG := s_9 (List.mem_of_getElem? (i := 122) rfl) rfl
theorem w_2071 : (Jvm.Cond.methodLink "MarkupJudgeLaw" (41 : Nat) ({ cls := "MarkupJudgeLaw", name := "end", desc := "(LMarkupJudge;I[J)I" } : Jvm.MethodName)) ∈ lwG := s_9 (List.mem_of_getElem? (i := 151) rfl) rfl
theorem w_2082 : (Jvm.Cond.classLink "MarkupJudgeLaw" (30 : Nat) "MarkupJudgeModel") ∈ lwG := s_9 (List.mem_of_getElem? (i := 162) rfl) rfl
theorem w_2083 : (Jvm.Cond.instantiable "MarkupJudgeModel" (14 : Nat)) ∈ lwG := s_9 (List.mem_of_getElem? (i := 163) rfl) rfl
theorem w_2084 : (Jvm.Cond.methodLink "MarkupJudgeLaw" (32 : Nat) ({ cls := "MarkupJudgeModel", name := "<init>", desc := "(II)V" } : Jvm.MethodName)) ∈ lwG := s_9 (List.mem_of_getElem? (i := 164) rfl) rfl
theorem w_2602 : (Jvm.Cond.methodLink "MarkupJudgeLaw" (37 : Nat) ({ cls := "MarkupJudgeModel", name := "thrown", desc := "()I" } : Jvm.MethodName)) ∈ lwG := s_11 (List.mem_of_getElem? (i := 202) rfl) rfl
theorem w_2606 : (Jvm.Cond.methodLink "MarkupJudgeLaw" (36 : Nat) ({ cls := "MarkupJudgeModel", name := "feed", desc := "(IIIII)V" } : Jvm.MethodName)) ∈ lwG := s_11 (List.mem_of_getElem? (i := 206) rfl) rfl
theorem w_2614 : (Jvm.Cond.methodLink "MarkupJudgeLaw" (44 : Nat) ({ cls := "MarkupJudgeModel", name := "end", desc := "(I)I" } : Jvm.MethodName)) ∈ lwG := s_11 (List.mem_of_getElem? (i := 214) rfl) rfl
theorem w_2618 : (Jvm.Cond.methodLink "MarkupJudgeLaw" (49 : Nat) ({ cls := "MarkupJudgeModel", name := "change", desc := "(II)I" } : Jvm.MethodName)) ∈ lwG := s_11 (List.mem_of_getElem? (i := 218) rfl) rfl
theorem w_2622 : (Jvm.Cond.methodLink "MarkupJudgeLaw" (53 : Nat) ({ cls := "MarkupJudgeModel", name := "judge", desc := "()I" } : Jvm.MethodName)) ∈ lwG := s_11 (List.mem_of_getElem? (i := 222) rfl) rfl
theorem w_3236 : (Jvm.Cond.methodLink "MarkupJudgeLaw" (57 : Nat) ({ cls := "MarkupJudgeModel", name := "fault", desc := "()I" } : Jvm.MethodName)) ∈ lwG := s_14 (List.mem_of_getElem? (i := 116) rfl) rfl
theorem w_3240 : (Jvm.Cond.methodLink "MarkupJudgeLaw" (61 : Nat) ({ cls := "MarkupJudgeModel", name := "place", desc := "()I" } : Jvm.MethodName)) ∈ lwG := s_14 (List.mem_of_getElem? (i := 120) rfl) rfl
theorem w_3244 : (Jvm.Cond.methodLink "MarkupJudgeLaw" (65 : Nat) ({ cls := "MarkupJudgeModel", name := "violations", desc := "(I)I" } : Jvm.MethodName)) ∈ lwG := s_14 (List.mem_of_getElem? (i := 124) rfl) rfl
theorem w_3248 : (Jvm.Cond.methodLink "MarkupJudgeLaw" (69 : Nat) ({ cls := "MarkupJudgeModel", name := "spaces", desc := "(I)I" } : Jvm.MethodName)) ∈ lwG := s_14 (List.mem_of_getElem? (i := 128) rfl) rfl
theorem w_3252 : (Jvm.Cond.methodLink "MarkupJudgeLaw" (73 : Nat) ({ cls := "MarkupJudgeModel", name := "elements", desc := "()I" } : Jvm.MethodName)) ∈ lwG := s_14 (List.mem_of_getElem? (i := 132) rfl) rfl
theorem w_3256 : (Jvm.Cond.methodLink "MarkupJudgeLaw" (77 : Nat) ({ cls := "MarkupJudgeModel", name := "attributes", desc := "(I)I" } : Jvm.MethodName)) ∈ lwG := s_14 (List.mem_of_getElem? (i := 136) rfl) rfl
theorem w_3264 : (Jvm.Cond.methodLink "MarkupJudgeLaw" (81 : Nat) ({ cls := "MarkupJudgeModel", name := "parent", desc := "(I)I" } : Jvm.MethodName)) ∈ lwG := s_14 (List.mem_of_getElem? (i := 144) rfl) rfl
theorem w_3268 : (Jvm.Cond.methodLink "MarkupJudgeLaw" (85 : Nat) ({ cls := "MarkupJudgeModel", name := "name", desc := "(II)I" } : Jvm.MethodName)) ∈ lwG := s_14 (List.mem_of_getElem? (i := 148) rfl) rfl
theorem w_3278 : (Jvm.Cond.methodLink "MarkupJudgeLaw" (90 : Nat) ({ cls := "MarkupJudgeModel", name := "attribute", desc := "(IIII)I" } : Jvm.MethodName)) ∈ lwG := s_14 (List.mem_of_getElem? (i := 158) rfl) rfl
theorem w_3282 : (Jvm.Cond.methodLink "MarkupJudgeLaw" (94 : Nat) ({ cls := "MarkupJudgeModel", name := "characters", desc := "()I" } : Jvm.MethodName)) ∈ lwG := s_14 (List.mem_of_getElem? (i := 162) rfl) rfl
theorem w_3286 : (Jvm.Cond.methodLink "MarkupJudgeLaw" (98 : Nat) ({ cls := "MarkupJudgeModel", name := "counted", desc := "()I" } : Jvm.MethodName)) ∈ lwG := s_14 (List.mem_of_getElem? (i := 166) rfl) rfl
theorem w_3290 : (Jvm.Cond.methodLink "MarkupJudgeLaw" (102 : Nat) ({ cls := "MarkupJudgeModel", name := "canonical", desc := "()I" } : Jvm.MethodName)) ∈ lwG := s_14 (List.mem_of_getElem? (i := 170) rfl) rfl
theorem w_3414 : (Jvm.Cond.methodLink "MarkupJudgeLaw" (106 : Nat) ({ cls := "MarkupJudgeModel", name := "out", desc := "(I)I" } : Jvm.MethodName)) ∈ lwG := s_15 (List.mem_of_getElem? (i := 54) rfl) rfl
theorem w_3418 : (Jvm.Cond.methodLink "MarkupJudgeLaw" (110 : Nat) ({ cls := "MarkupJudgeModel", name := "back", desc := "()I" } : Jvm.MethodName)) ∈ lwG := s_15 (List.mem_of_getElem? (i := 58) rfl) rfl
theorem w_3422 : (Jvm.Cond.methodLink "MarkupJudgeLaw" (115 : Nat) ({ cls := "MarkupJudgeModel", name := "steady", desc := "()Z" } : Jvm.MethodName)) ∈ lwG := s_15 (List.mem_of_getElem? (i := 62) rfl) rfl
theorem ok_J_init : okN y_J_init b_J_init 5 2 := ⟨s_1 (List.mem_of_getElem? (i := 39) rfl) rfl, s_1 (List.mem_of_getElem? (i := 38) rfl) rfl, s_1 (List.mem_of_getElem? (i := 1) rfl) rfl, rfl, ⟨by decide +kernel, by decide +kernel, by decide +kernel⟩⟩
theorem ok_J_attribute : okV y_J_attribute b_J_attribute 6 (some .int) 4 := ⟨s_9 (List.mem_of_getElem? (i := 5) rfl) rfl, s_9 (List.mem_of_getElem? (i := 3) rfl) rfl, s_9 (List.mem_of_getElem? (i := 4) rfl) rfl, s_1 (List.mem_of_getElem? (i := 1) rfl) rfl, ⟨by decide +kernel, by decide +kernel, by decide +kernel⟩⟩
theorem ok_J_attributes : okV y_J_attributes b_J_attributes 2 (some .int) 1 := ⟨s_8 (List.mem_of_getElem? (i := 228) rfl) rfl, s_8 (List.mem_of_getElem? (i := 226) rfl) rfl, s_8 (List.mem_of_getElem? (i := 227) rfl) rfl, s_1 (List.mem_of_getElem? (i := 1) rfl) rfl, ⟨by decide +kernel, by decide +kernel, by decide +kernel⟩⟩
theorem ok_J_back : okV y_J_back b_J_back 2 (some .int) 0 := ⟨s_9 (List.mem_of_getElem? (i := 113) rfl) rfl, s_9 (List.mem_of_getElem? (i := 111) rfl) rfl, s_9 (List.mem_of_getElem? (i := 112) rfl) rfl, s_1 (List.mem_of_getElem? (i := 1) rfl) rfl, ⟨by decide +kernel, by decide +kernel, by decide +kernel⟩⟩
theorem ok_J_canonical : okV y_J_canonical b_J_canonical 1 (some .int) 0 := ⟨s_9 (List.mem_of_getElem? (i := 17) rfl) rfl, s_9 (List.mem_of_getElem? (i := 15) rfl) rfl, s_9 (List.mem_of_getElem? (i := 16) rfl) rfl, s_1 (List.mem_of_getElem? (i := 1) rfl) rfl, ⟨by decide +kernel, by decide +kernel, by decide +kernel⟩⟩
theorem ok_J_change : okV y_J_change b_J_change 4 (some .int) 2 := ⟨s_4 (List.mem_of_getElem? (i := 115) rfl) rfl, s_4 (List.mem_of_getElem? (i := 113) rfl) rfl, s_4 (List.mem_of_getElem? (i := 114) rfl) rfl, s_1 (List.mem_of_getElem? (i := 1) rfl) rfl, ⟨by decide +kernel, by decide +kernel, by decide +kernel⟩⟩
theorem ok_J_characters : okV y_J_characters b_J_characters 1 (some .int) 0 := ⟨s_9 (List.mem_of_getElem? (i := 9) rfl) rfl, s_9 (List.mem_of_getElem? (i := 7) rfl) rfl, s_9 (List.mem_of_getElem? (i := 8) rfl) rfl, s_1 (List.mem_of_getElem? (i := 1) rfl) rfl, ⟨by decide +kernel, by decide +kernel, by decide +kernel⟩⟩
theorem ok_J_counted : okV y_J_counted b_J_counted 1 (some .int) 0 := ⟨s_9 (List.mem_of_getElem? (i := 13) rfl) rfl, s_9 (List.mem_of_getElem? (i := 11) rfl) rfl, s_9 (List.mem_of_getElem? (i := 12) rfl) rfl, s_1 (List.mem_of_getElem? (i := 1) rfl) rfl, ⟨by decide +kernel, by decide +kernel, by decide +kernel⟩⟩
theorem ok_J_elements : okV y_J_elements b_J_elements 1 (some .int) 0 := ⟨s_8 (List.mem_of_getElem? (i := 224) rfl) rfl, s_8 (List.mem_of_getElem? (i := 222) rfl) rfl, s_8 (List.mem_of_getElem? (i := 223) rfl) rfl, s_1 (List.mem_of_getElem? (i := 1) rfl) rfl, ⟨by decide +kernel, by decide +kernel, by decide +kernel⟩⟩
theorem ok_J_fault : okV y_J_fault b_J_fault 1 (some .int) 0 := ⟨s_8 (List.mem_of_getElem? (i := 208) rfl) rfl, s_8 (List.mem_of_getElem? (i := 206) rfl) rfl, s_8 (List.mem_of_getElem? (i := 207) rfl) rfl, s_1 (List.mem_of_getElem? (i := 1) rfl) rfl, ⟨by decide +kernel, by decide +kernel, by decide +kernel⟩⟩
theorem ok_J_judge : okV y_J_judge b_J_judge 3 (some .int) 0 := ⟨s_4 (List.mem_of_getElem? (i := 119) rfl) rfl, s_4 (List.mem_of_getElem? (i := 117) rfl) rfl, s_4 (List.mem_of_getElem? (i := 118) rfl) rfl, s_1 (List.mem_of_getElem? (i := 1) rfl) rfl, ⟨by decide +kernel, by decide +kernel, by decide +kernel⟩⟩
theorem ok_J_name : okV y_J_name b_J_name 3 (some .int) 2 := ⟨s_9 (List.mem_of_getElem? (i := 0) rfl) rfl, s_8 (List.mem_of_getElem? (i := 238) rfl) rfl, s_8 (List.mem_of_getElem? (i := 239) rfl) rfl, s_1 (List.mem_of_getElem? (i := 1) rfl) rfl, ⟨by decide +kernel, by decide +kernel, by decide +kernel⟩⟩
theorem ok_J_out : okV y_J_out b_J_out 2 (some .int) 1 := ⟨s_9 (List.mem_of_getElem? (i := 109) rfl) rfl, s_9 (List.mem_of_getElem? (i := 107) rfl) rfl, s_9 (List.mem_of_getElem? (i := 108) rfl) rfl, s_1 (List.mem_of_getElem? (i := 1) rfl) rfl, ⟨by decide +kernel, by decide +kernel, by decide +kernel⟩⟩
theorem ok_J_parent : okV y_J_parent b_J_parent 2 (some .int) 1 := ⟨s_8 (List.mem_of_getElem? (i := 236) rfl) rfl, s_8 (List.mem_of_getElem? (i := 234) rfl) rfl, s_8 (List.mem_of_getElem? (i := 235) rfl) rfl, s_1 (List.mem_of_getElem? (i := 1) rfl) rfl, ⟨by decide +kernel, by decide +kernel, by decide +kernel⟩⟩
theorem ok_J_place : okV y_J_place b_J_place 1 (some .int) 0 := ⟨s_8 (List.mem_of_getElem? (i := 212) rfl) rfl, s_8 (List.mem_of_getElem? (i := 210) rfl) rfl, s_8 (List.mem_of_getElem? (i := 211) rfl) rfl, s_1 (List.mem_of_getElem? (i := 1) rfl) rfl, ⟨by decide +kernel, by decide +kernel, by decide +kernel⟩⟩
theorem ok_J_spaces : okV y_J_spaces b_J_spaces 2 (some .int) 1 := ⟨s_8 (List.mem_of_getElem? (i := 220) rfl) rfl, s_8 (List.mem_of_getElem? (i := 218) rfl) rfl, s_8 (List.mem_of_getElem? (i := 219) rfl) rfl, s_1 (List.mem_of_getElem? (i := 1) rfl) rfl, ⟨by decide +kernel, by decide +kernel, by decide +kernel⟩⟩
theorem ok_J_steady : okV y_J_steady b_J_steady 1 (some .boolean) 0 := ⟨s_9 (List.mem_of_getElem? (i := 118) rfl) rfl, s_9 (List.mem_of_getElem? (i := 116) rfl) rfl, s_9 (List.mem_of_getElem? (i := 117) rfl) rfl, s_1 (List.mem_of_getElem? (i := 1) rfl) rfl, ⟨by decide +kernel, by decide +kernel, by decide +kernel⟩⟩
theorem ok_J_violations : okV y_J_violations b_J_violations 2 (some .int) 1 := ⟨s_8 (List.mem_of_getElem? (i := 216) rfl) rfl, s_8 (List.mem_of_getElem? (i := 214) rfl) rfl, s_8 (List.mem_of_getElem? (i := 215) rfl) rfl, s_1 (List.mem_of_getElem? (i := 1) rfl) rfl, ⟨by decide +kernel, by decide +kernel, by decide +kernel⟩⟩
theorem ok_L_cell : okS y_L_cell b_L_cell 2 (some .int) 2 := ⟨s_9 (List.mem_of_getElem? (i := 121) rfl) rfl, s_9 (List.mem_of_getElem? (i := 120) rfl) rfl, s_1 (List.mem_of_getElem? (i := 0) rfl) rfl, ⟨by decide +kernel, by decide +kernel, by decide +kernel⟩⟩
theorem ok_L_end : okSW y_L_end b_L_end 4 (some .int) [(0, 9, 12, 19)] 3 := ⟨s_9 (List.mem_of_getElem? (i := 153) rfl) rfl, s_9 (List.mem_of_getElem? (i := 152) rfl) rfl, s_1 (List.mem_of_getElem? (i := 0) rfl) rfl, ⟨by decide +kernel, by decide +kernel, by decide +kernel⟩⟩
theorem ok_L_feed : okSW y_L_feed b_L_feed 7 (some .int) [(0, 11, 14, 13)] 6 := ⟨s_9 (List.mem_of_getElem? (i := 124) rfl) rfl, s_9 (List.mem_of_getElem? (i := 123) rfl) rfl, s_1 (List.mem_of_getElem? (i := 0) rfl) rfl, ⟨by decide +kernel, by decide +kernel, by decide +kernel⟩⟩
theorem ok_K_init : okN y_K_init b_K_init 3 2 := ⟨s_9 (List.mem_of_getElem? (i := 166) rfl) rfl, s_9 (List.mem_of_getElem? (i := 165) rfl) rfl, s_1 (List.mem_of_getElem? (i := 19) rfl) rfl, rfl, ⟨by decide +kernel, by decide +kernel, by decide +kernel⟩⟩
theorem ok_K_attribute : okV y_K_attribute b_K_attribute 6 (some .int) 4 := ⟨s_14 (List.mem_of_getElem? (i := 161) rfl) rfl, s_14 (List.mem_of_getElem? (i := 159) rfl) rfl, s_14 (List.mem_of_getElem? (i := 160) rfl) rfl, s_1 (List.mem_of_getElem? (i := 19) rfl) rfl, ⟨by decide +kernel, by decide +kernel, by decide +kernel⟩⟩
theorem ok_K_attributes : okV y_K_attributes b_K_attributes 2 (some .int) 1 := ⟨s_14 (List.mem_of_getElem? (i := 139) rfl) rfl, s_14 (List.mem_of_getElem? (i := 137) rfl) rfl, s_14 (List.mem_of_getElem? (i := 138) rfl) rfl, s_1 (List.mem_of_getElem? (i := 19) rfl) rfl, ⟨by decide +kernel, by decide +kernel, by decide +kernel⟩⟩
theorem ok_K_back : okV y_K_back b_K_back 2 (some .int) 0 := ⟨s_15 (List.mem_of_getElem? (i := 61) rfl) rfl, s_15 (List.mem_of_getElem? (i := 59) rfl) rfl, s_15 (List.mem_of_getElem? (i := 60) rfl) rfl, s_1 (List.mem_of_getElem? (i := 19) rfl) rfl, ⟨by decide +kernel, by decide +kernel, by decide +kernel⟩⟩
theorem ok_K_canonical : okV y_K_canonical b_K_canonical 2 (some .int) 0 := ⟨s_14 (List.mem_of_getElem? (i := 173) rfl) rfl, s_14 (List.mem_of_getElem? (i := 171) rfl) rfl, s_14 (List.mem_of_getElem? (i := 172) rfl) rfl, s_1 (List.mem_of_getElem? (i := 19) rfl) rfl, ⟨by decide +kernel, by decide +kernel, by decide +kernel⟩⟩
theorem ok_K_change : okV y_K_change b_K_change 4 (some .int) 2 := ⟨s_11 (List.mem_of_getElem? (i := 221) rfl) rfl, s_11 (List.mem_of_getElem? (i := 219) rfl) rfl, s_11 (List.mem_of_getElem? (i := 220) rfl) rfl, s_1 (List.mem_of_getElem? (i := 19) rfl) rfl, ⟨by decide +kernel, by decide +kernel, by decide +kernel⟩⟩
theorem ok_K_characters : okV y_K_characters b_K_characters 1 (some .int) 0 := ⟨s_14 (List.mem_of_getElem? (i := 165) rfl) rfl, s_14 (List.mem_of_getElem? (i := 163) rfl) rfl, s_14 (List.mem_of_getElem? (i := 164) rfl) rfl, s_1 (List.mem_of_getElem? (i := 19) rfl) rfl, ⟨by decide +kernel, by decide +kernel, by decide +kernel⟩⟩
theorem ok_K_counted : okV y_K_counted b_K_counted 1 (some .int) 0 := ⟨s_14 (List.mem_of_getElem? (i := 169) rfl) rfl, s_14 (List.mem_of_getElem? (i := 167) rfl) rfl, s_14 (List.mem_of_getElem? (i := 168) rfl) rfl, s_1 (List.mem_of_getElem? (i := 19) rfl) rfl, ⟨by decide +kernel, by decide +kernel, by decide +kernel⟩⟩
theorem ok_K_elements : okV y_K_elements b_K_elements 1 (some .int) 0 := ⟨s_14 (List.mem_of_getElem? (i := 135) rfl) rfl, s_14 (List.mem_of_getElem? (i := 133) rfl) rfl, s_14 (List.mem_of_getElem? (i := 134) rfl) rfl, s_1 (List.mem_of_getElem? (i := 19) rfl) rfl, ⟨by decide +kernel, by decide +kernel, by decide +kernel⟩⟩
theorem ok_K_end : okV y_K_end b_K_end 3 (some .int) 1 := ⟨s_11 (List.mem_of_getElem? (i := 217) rfl) rfl, s_11 (List.mem_of_getElem? (i := 215) rfl) rfl, s_11 (List.mem_of_getElem? (i := 216) rfl) rfl, s_1 (List.mem_of_getElem? (i := 19) rfl) rfl, ⟨by decide +kernel, by decide +kernel, by decide +kernel⟩⟩
theorem ok_K_fault : okV y_K_fault b_K_fault 1 (some .int) 0 := ⟨s_14 (List.mem_of_getElem? (i := 119) rfl) rfl, s_14 (List.mem_of_getElem? (i := 117) rfl) rfl, s_14 (List.mem_of_getElem? (i := 118) rfl) rfl, s_1 (List.mem_of_getElem? (i := 19) rfl) rfl, ⟨by decide +kernel, by decide +kernel, by decide +kernel⟩⟩
theorem ok_K_feed : okV y_K_feed b_K_feed 6 none 5 := ⟨s_11 (List.mem_of_getElem? (i := 209) rfl) rfl, s_11 (List.mem_of_getElem? (i := 207) rfl) rfl, s_11 (List.mem_of_getElem? (i := 208) rfl) rfl, s_1 (List.mem_of_getElem? (i := 19) rfl) rfl, ⟨by decide +kernel, by decide +kernel, by decide +kernel⟩⟩
theorem ok_K_judge : okV y_K_judge b_K_judge 3 (some .int) 0 := ⟨s_11 (List.mem_of_getElem? (i := 225) rfl) rfl, s_11 (List.mem_of_getElem? (i := 223) rfl) rfl, s_11 (List.mem_of_getElem? (i := 224) rfl) rfl, s_1 (List.mem_of_getElem? (i := 19) rfl) rfl, ⟨by decide +kernel, by decide +kernel, by decide +kernel⟩⟩
theorem ok_K_name : okV y_K_name b_K_name 3 (some .int) 2 := ⟨s_14 (List.mem_of_getElem? (i := 151) rfl) rfl, s_14 (List.mem_of_getElem? (i := 149) rfl) rfl, s_14 (List.mem_of_getElem? (i := 150) rfl) rfl, s_1 (List.mem_of_getElem? (i := 19) rfl) rfl, ⟨by decide +kernel, by decide +kernel, by decide +kernel⟩⟩
theorem ok_K_out : okV y_K_out b_K_out 2 (some .int) 1 := ⟨s_15 (List.mem_of_getElem? (i := 57) rfl) rfl, s_15 (List.mem_of_getElem? (i := 55) rfl) rfl, s_15 (List.mem_of_getElem? (i := 56) rfl) rfl, s_1 (List.mem_of_getElem? (i := 19) rfl) rfl, ⟨by decide +kernel, by decide +kernel, by decide +kernel⟩⟩
theorem ok_K_parent : okV y_K_parent b_K_parent 2 (some .int) 1 := ⟨s_14 (List.mem_of_getElem? (i := 147) rfl) rfl, s_14 (List.mem_of_getElem? (i := 145) rfl) rfl, s_14 (List.mem_of_getElem? (i := 146) rfl) rfl, s_1 (List.mem_of_getElem? (i := 19) rfl) rfl, ⟨by decide +kernel, by decide +kernel, by decide +kernel⟩⟩
theorem ok_K_place : okV y_K_place b_K_place 1 (some .int) 0 := ⟨s_14 (List.mem_of_getElem? (i := 123) rfl) rfl, s_14 (List.mem_of_getElem? (i := 121) rfl) rfl, s_14 (List.mem_of_getElem? (i := 122) rfl) rfl, s_1 (List.mem_of_getElem? (i := 19) rfl) rfl, ⟨by decide +kernel, by decide +kernel, by decide +kernel⟩⟩
theorem ok_K_spaces : okV y_K_spaces b_K_spaces 2 (some .int) 1 := ⟨s_14 (List.mem_of_getElem? (i := 131) rfl) rfl, s_14 (List.mem_of_getElem? (i := 129) rfl) rfl, s_14 (List.mem_of_getElem? (i := 130) rfl) rfl, s_1 (List.mem_of_getElem? (i := 19) rfl) rfl, ⟨by decide +kernel, by decide +kernel, by decide +kernel⟩⟩
theorem ok_K_steady : okV y_K_steady b_K_steady 1 (some .boolean) 0 := ⟨s_15 (List.mem_of_getElem? (i := 65) rfl) rfl, s_15 (List.mem_of_getElem? (i := 63) rfl) rfl, s_15 (List.mem_of_getElem? (i := 64) rfl) rfl, s_1 (List.mem_of_getElem? (i := 19) rfl) rfl, ⟨by decide +kernel, by decide +kernel, by decide +kernel⟩⟩
theorem ok_K_thrown : okV y_K_thrown b_K_thrown 1 (some .int) 0 := ⟨s_11 (List.mem_of_getElem? (i := 205) rfl) rfl, s_11 (List.mem_of_getElem? (i := 203) rfl) rfl, s_11 (List.mem_of_getElem? (i := 204) rfl) rfl, s_1 (List.mem_of_getElem? (i := 19) rfl) rfl, ⟨by decide +kernel, by decide +kernel, by decide +kernel⟩⟩
theorem ok_K_violations : okV y_K_violations b_K_violations 2 (some .int) 1 := ⟨s_14 (List.mem_of_getElem? (i := 127) rfl) rfl, s_14 (List.mem_of_getElem? (i := 125) rfl) rfl, s_14 (List.mem_of_getElem? (i := 126) rfl) rfl, s_1 (List.mem_of_getElem? (i := 19) rfl) rfl, ⟨by decide +kernel, by decide +kernel, by decide +kernel⟩⟩
theorem d_L_law_0 : decode b_L_law 0 = .ok (.new 8, 3) := by decide +kernel
theorem d_L_law_3 : decode b_L_law 3 = .ok (.dup, 1) := by decide +kernel
theorem d_L_law_4 : decode b_L_law 4 = .ok (.aload_n 0, 1) := by decide +kernel
theorem d_L_law_5 : decode b_L_law 5 = .ok (.iconst 0, 1) := by decide +kernel
theorem d_L_law_6 : decode b_L_law 6 = .ok (.invokestatic 21, 3) := by decide +kernel
theorem d_L_law_9 : decode b_L_law 9 = .ok (.aload_n 0, 1) := by decide +kernel
theorem d_L_law_10 : decode b_L_law 10 = .ok (.iconst 1, 1) := by decide +kernel
theorem d_L_law_11 : decode b_L_law 11 = .ok (.invokestatic 21, 3) := by decide +kernel
theorem d_L_law_14 : decode b_L_law 14 = .ok (.invokespecial 27, 3) := by decide +kernel
theorem d_L_law_17 : decode b_L_law 17 = .ok (.astore_n 1, 1) := by decide +kernel
theorem d_L_law_18 : decode b_L_law 18 = .ok (.new 30, 3) := by decide +kernel
theorem d_L_law_21 : decode b_L_law 21 = .ok (.dup, 1) := by decide +kernel
theorem d_L_law_22 : decode b_L_law 22 = .ok (.aload_n 0, 1) := by decide +kernel
theorem d_L_law_23 : decode b_L_law 23 = .ok (.iconst 0, 1) := by decide +kernel
theorem d_L_law_24 : decode b_L_law 24 = .ok (.invokestatic 21, 3) := by decide +kernel
theorem d_L_law_27 : decode b_L_law 27 = .ok (.aload_n 0, 1) := by decide +kernel
theorem d_L_law_28 : decode b_L_law 28 = .ok (.iconst 1, 1) := by decide +kernel
theorem d_L_law_29 : decode b_L_law 29 = .ok (.invokestatic 21, 3) := by decide +kernel
theorem d_L_law_32 : decode b_L_law 32 = .ok (.invokespecial 32, 3) := by decide +kernel
theorem d_L_law_35 : decode b_L_law 35 = .ok (.astore_n 2, 1) := by decide +kernel
theorem d_L_law_36 : decode b_L_law 36 = .ok (.iconst 1, 1) := by decide +kernel
theorem d_L_law_37 : decode b_L_law 37 = .ok (.newarray .long, 2) := by decide +kernel
theorem d_L_law_39 : decode b_L_law 39 = .ok (.astore_n 3, 1) := by decide +kernel
theorem d_L_law_40 : decode b_L_law 40 = .ok (.iconst 2, 1) := by decide +kernel
theorem d_L_law_41 : decode b_L_law 41 = .ok (.istore 4, 2) := by decide +kernel
theorem d_L_law_43 : decode b_L_law 43 = .ok (.iload 4, 2) := by decide +kernel
theorem d_L_law_45 : decode b_L_law 45 = .ok (.aload_n 0, 1) := by decide +kernel
theorem d_L_law_46 : decode b_L_law 46 = .ok (.arraylength, 1) := by decide +kernel
theorem d_L_law_47 : decode b_L_law 47 = .ok (.bipush 6, 2) := by decide +kernel
theorem d_L_law_49 : decode b_L_law 49 = .ok (.isub, 1) := by decide +kernel
theorem d_L_law_50 : decode b_L_law 50 = .ok (.if_icmp .gt 625, 3) := by decide +kernel
theorem d_L_law_53 : decode b_L_law 53 = .ok (.aload_n 0, 1) := by decide +kernel
theorem d_L_law_54 : decode b_L_law 54 = .ok (.iload 4, 2) := by decide +kernel
theorem d_L_law_56 : decode b_L_law 56 = .ok (.iaload, 1) := by decide +kernel
theorem d_L_law_57 : decode b_L_law 57 = .ok (.bipush 31, 2) := by decide +kernel
theorem d_L_law_59 : decode b_L_law 59 = .ok (.iand, 1) := by decide +kernel
theorem d_L_law_152 : decode b_L_law 152 = .ok (.aload_n 1, 1) := by decide +kernel
theorem d_L_law_153 : decode b_L_law 153 = .ok (.aload_n 0, 1) := by decide +kernel
theorem d_L_law_154 : decode b_L_law 154 = .ok (.iload 4, 2) := by decide +kernel
theorem d_L_law_156 : decode b_L_law 156 = .ok (.iconst 1, 1) := by decide +kernel
theorem d_L_law_157 : decode b_L_law 157 = .ok (.iadd, 1) := by decide +kernel
theorem d_L_law_158 : decode b_L_law 158 = .ok (.iaload, 1) := by decide +kernel
theorem d_L_law_159 : decode b_L_law 159 = .ok (.aload_n 0, 1) := by decide +kernel
theorem d_L_law_160 : decode b_L_law 160 = .ok (.iload 4, 2) := by decide +kernel
theorem d_L_law_162 : decode b_L_law 162 = .ok (.iconst 2, 1) := by decide +kernel
theorem d_L_law_163 : decode b_L_law 163 = .ok (.iadd, 1) := by decide +kernel
theorem d_L_law_164 : decode b_L_law 164 = .ok (.iaload, 1) := by decide +kernel
theorem d_L_law_165 : decode b_L_law 165 = .ok (.aload_n 0, 1) := by decide +kernel
theorem d_L_law_166 : decode b_L_law 166 = .ok (.iload 4, 2) := by decide +kernel
theorem d_L_law_168 : decode b_L_law 168 = .ok (.iconst 3, 1) := by decide +kernel
theorem d_L_law_169 : decode b_L_law 169 = .ok (.iadd, 1) := by decide +kernel
theorem d_L_law_170 : decode b_L_law 170 = .ok (.iaload, 1) := by decide +kernel
theorem d_L_law_171 : decode b_L_law 171 = .ok (.aload_n 0, 1) := by decide +kernel
theorem d_L_law_172 : decode b_L_law 172 = .ok (.iload 4, 2) := by decide +kernel
theorem d_L_law_174 : decode b_L_law 174 = .ok (.iconst 4, 1) := by decide +kernel
theorem d_L_law_175 : decode b_L_law 175 = .ok (.iadd, 1) := by decide +kernel
theorem d_L_law_176 : decode b_L_law 176 = .ok (.iaload, 1) := by decide +kernel
theorem d_L_law_177 : decode b_L_law 177 = .ok (.aload_n 0, 1) := by decide +kernel
theorem d_L_law_178 : decode b_L_law 178 = .ok (.iload 4, 2) := by decide +kernel
theorem d_L_law_180 : decode b_L_law 180 = .ok (.iconst 5, 1) := by decide +kernel
theorem d_L_law_181 : decode b_L_law 181 = .ok (.iadd, 1) := by decide +kernel
theorem d_L_law_182 : decode b_L_law 182 = .ok (.iaload, 1) := by decide +kernel
theorem d_L_law_183 : decode b_L_law 183 = .ok (.invokestatic 33, 3) := by decide +kernel
theorem d_L_law_186 : decode b_L_law 186 = .ok (.istore 5, 2) := by decide +kernel
theorem d_L_law_188 : decode b_L_law 188 = .ok (.aload_n 2, 1) := by decide +kernel
theorem d_L_law_189 : decode b_L_law 189 = .ok (.aload_n 0, 1) := by decide +kernel
theorem d_L_law_190 : decode b_L_law 190 = .ok (.iload 4, 2) := by decide +kernel
theorem d_L_law_192 : decode b_L_law 192 = .ok (.iconst 1, 1) := by decide +kernel
theorem d_L_law_193 : decode b_L_law 193 = .ok (.iadd, 1) := by decide +kernel
theorem d_L_law_194 : decode b_L_law 194 = .ok (.iaload, 1) := by decide +kernel
theorem d_L_law_195 : decode b_L_law 195 = .ok (.aload_n 0, 1) := by decide +kernel
theorem d_L_law_196 : decode b_L_law 196 = .ok (.iload 4, 2) := by decide +kernel
theorem d_L_law_198 : decode b_L_law 198 = .ok (.iconst 2, 1) := by decide +kernel
theorem d_L_law_199 : decode b_L_law 199 = .ok (.iadd, 1) := by decide +kernel
theorem d_L_law_200 : decode b_L_law 200 = .ok (.iaload, 1) := by decide +kernel
theorem d_L_law_201 : decode b_L_law 201 = .ok (.aload_n 0, 1) := by decide +kernel
theorem d_L_law_202 : decode b_L_law 202 = .ok (.iload 4, 2) := by decide +kernel
theorem d_L_law_204 : decode b_L_law 204 = .ok (.iconst 3, 1) := by decide +kernel
theorem d_L_law_205 : decode b_L_law 205 = .ok (.iadd, 1) := by decide +kernel
theorem d_L_law_206 : decode b_L_law 206 = .ok (.iaload, 1) := by decide +kernel
theorem d_L_law_207 : decode b_L_law 207 = .ok (.aload_n 0, 1) := by decide +kernel
theorem d_L_law_208 : decode b_L_law 208 = .ok (.iload 4, 2) := by decide +kernel
theorem d_L_law_210 : decode b_L_law 210 = .ok (.iconst 4, 1) := by decide +kernel
theorem d_L_law_211 : decode b_L_law 211 = .ok (.iadd, 1) := by decide +kernel
theorem d_L_law_212 : decode b_L_law 212 = .ok (.iaload, 1) := by decide +kernel
theorem d_L_law_213 : decode b_L_law 213 = .ok (.aload_n 0, 1) := by decide +kernel
theorem d_L_law_214 : decode b_L_law 214 = .ok (.iload 4, 2) := by decide +kernel
theorem d_L_law_216 : decode b_L_law 216 = .ok (.iconst 5, 1) := by decide +kernel
theorem d_L_law_217 : decode b_L_law 217 = .ok (.iadd, 1) := by decide +kernel
theorem d_L_law_218 : decode b_L_law 218 = .ok (.iaload, 1) := by decide +kernel
theorem d_L_law_219 : decode b_L_law 219 = .ok (.invokevirtual 36, 3) := by decide +kernel
theorem d_L_law_222 : decode b_L_law 222 = .ok (.aload_n 2, 1) := by decide +kernel
theorem d_L_law_223 : decode b_L_law 223 = .ok (.invokevirtual 37, 3) := by decide +kernel
theorem d_L_law_226 : decode b_L_law 226 = .ok (.iload 5, 2) := by decide +kernel
theorem d_L_law_228 : decode b_L_law 228 = .ok (.if_icmp .eq 5, 3) := by decide +kernel
theorem d_L_law_233 : decode b_L_law 233 = .ok (.goto 436, 3) := by decide +kernel
theorem d_L_law_236 : decode b_L_law 236 = .ok (.aload_n 1, 1) := by decide +kernel
theorem d_L_law_237 : decode b_L_law 237 = .ok (.aload_n 0, 1) := by decide +kernel
theorem d_L_law_238 : decode b_L_law 238 = .ok (.iload 4, 2) := by decide +kernel
theorem d_L_law_240 : decode b_L_law 240 = .ok (.iconst 1, 1) := by decide +kernel
theorem d_L_law_241 : decode b_L_law 241 = .ok (.iadd, 1) := by decide +kernel
theorem d_L_law_242 : decode b_L_law 242 = .ok (.iaload, 1) := by decide +kernel
theorem d_L_law_243 : decode b_L_law 243 = .ok (.aload_n 3, 1) := by decide +kernel
theorem d_L_law_244 : decode b_L_law 244 = .ok (.invokestatic 41, 3) := by decide +kernel
theorem d_L_law_247 : decode b_L_law 247 = .ok (.istore 5, 2) := by decide +kernel
theorem d_L_law_249 : decode b_L_law 249 = .ok (.aload_n 2, 1) := by decide +kernel
theorem d_L_law_250 : decode b_L_law 250 = .ok (.aload_n 0, 1) := by decide +kernel
theorem d_L_law_251 : decode b_L_law 251 = .ok (.iload 4, 2) := by decide +kernel
theorem d_L_law_253 : decode b_L_law 253 = .ok (.iconst 1, 1) := by decide +kernel
theorem d_L_law_254 : decode b_L_law 254 = .ok (.iadd, 1) := by decide +kernel
theorem d_L_law_255 : decode b_L_law 255 = .ok (.iaload, 1) := by decide +kernel
theorem d_L_law_256 : decode b_L_law 256 = .ok (.invokevirtual 44, 3) := by decide +kernel
theorem d_L_law_259 : decode b_L_law 259 = .ok (.istore 6, 2) := by decide +kernel
theorem d_L_law_261 : decode b_L_law 261 = .ok (.aload_n 2, 1) := by decide +kernel
theorem d_L_law_262 : decode b_L_law 262 = .ok (.invokevirtual 37, 3) := by decide +kernel
theorem d_L_law_265 : decode b_L_law 265 = .ok (.iload 5, 2) := by decide +kernel
theorem d_L_law_267 : decode b_L_law 267 = .ok (.if_icmp .eq 5, 3) := by decide +kernel
theorem d_L_law_272 : decode b_L_law 272 = .ok (.iload 5, 2) := by decide +kernel
theorem d_L_law_274 : decode b_L_law 274 = .ok (.ifCond .ne 15, 3) := by decide +kernel
theorem d_L_law_277 : decode b_L_law 277 = .ok (.aload_n 3, 1) := by decide +kernel
theorem d_L_law_278 : decode b_L_law 278 = .ok (.iconst 0, 1) := by decide +kernel
theorem d_L_law_279 : decode b_L_law 279 = .ok (.laload, 1) := by decide +kernel
theorem d_L_law_280 : decode b_L_law 280 = .ok (.iload 6, 2) := by decide +kernel
theorem d_L_law_282 : decode b_L_law 282 = .ok (.i2l, 1) := by decide +kernel
theorem d_L_law_283 : decode b_L_law 283 = .ok (.lcmp, 1) := by decide +kernel
theorem d_L_law_284 : decode b_L_law 284 = .ok (.ifCond .eq 5, 3) := by decide +kernel
theorem d_L_law_289 : decode b_L_law 289 = .ok (.goto 380, 3) := by decide +kernel
theorem d_L_law_292 : decode b_L_law 292 = .ok (.aload_n 1, 1) := by decide +kernel
theorem d_L_law_293 : decode b_L_law 293 = .ok (.aload_n 0, 1) := by decide +kernel
theorem d_L_law_294 : decode b_L_law 294 = .ok (.iload 4, 2) := by decide +kernel
theorem d_L_law_296 : decode b_L_law 296 = .ok (.iconst 1, 1) := by decide +kernel
theorem d_L_law_297 : decode b_L_law 297 = .ok (.iadd, 1) := by decide +kernel
theorem d_L_law_298 : decode b_L_law 298 = .ok (.iaload, 1) := by decide +kernel
theorem d_L_law_299 : decode b_L_law 299 = .ok (.aload_n 0, 1) := by decide +kernel
theorem d_L_law_300 : decode b_L_law 300 = .ok (.iload 4, 2) := by decide +kernel
theorem d_L_law_302 : decode b_L_law 302 = .ok (.iconst 2, 1) := by decide +kernel
theorem d_L_law_303 : decode b_L_law 303 = .ok (.iadd, 1) := by decide +kernel
theorem d_L_law_304 : decode b_L_law 304 = .ok (.iaload, 1) := by decide +kernel
theorem d_L_law_305 : decode b_L_law 305 = .ok (.invokevirtual 45, 3) := by decide +kernel
theorem d_L_law_308 : decode b_L_law 308 = .ok (.aload_n 2, 1) := by decide +kernel
theorem d_L_law_309 : decode b_L_law 309 = .ok (.aload_n 0, 1) := by decide +kernel
theorem d_L_law_310 : decode b_L_law 310 = .ok (.iload 4, 2) := by decide +kernel
theorem d_L_law_312 : decode b_L_law 312 = .ok (.iconst 1, 1) := by decide +kernel
theorem d_L_law_313 : decode b_L_law 313 = .ok (.iadd, 1) := by decide +kernel
theorem d_L_law_314 : decode b_L_law 314 = .ok (.iaload, 1) := by decide +kernel
theorem d_L_law_315 : decode b_L_law 315 = .ok (.aload_n 0, 1) := by decide +kernel
theorem d_L_law_316 : decode b_L_law 316 = .ok (.iload 4, 2) := by decide +kernel
theorem d_L_law_318 : decode b_L_law 318 = .ok (.iconst 2, 1) := by decide +kernel
theorem d_L_law_319 : decode b_L_law 319 = .ok (.iadd, 1) := by decide +kernel
theorem d_L_law_320 : decode b_L_law 320 = .ok (.iaload, 1) := by decide +kernel
theorem d_L_law_321 : decode b_L_law 321 = .ok (.invokevirtual 49, 3) := by decide +kernel
theorem d_L_law_324 : decode b_L_law 324 = .ok (.if_icmp .eq 345, 3) := by decide +kernel
theorem d_L_law_329 : decode b_L_law 329 = .ok (.aload_n 1, 1) := by decide +kernel
theorem d_L_law_330 : decode b_L_law 330 = .ok (.invokevirtual 50, 3) := by decide +kernel
theorem d_L_law_333 : decode b_L_law 333 = .ok (.aload_n 2, 1) := by decide +kernel
theorem d_L_law_334 : decode b_L_law 334 = .ok (.invokevirtual 53, 3) := by decide +kernel
theorem d_L_law_337 : decode b_L_law 337 = .ok (.if_icmp .eq 332, 3) := by decide +kernel
theorem d_L_law_342 : decode b_L_law 342 = .ok (.aload_n 1, 1) := by decide +kernel
theorem d_L_law_343 : decode b_L_law 343 = .ok (.invokevirtual 54, 3) := by decide +kernel
theorem d_L_law_346 : decode b_L_law 346 = .ok (.aload_n 2, 1) := by decide +kernel
theorem d_L_law_347 : decode b_L_law 347 = .ok (.invokevirtual 57, 3) := by decide +kernel
theorem d_L_law_350 : decode b_L_law 350 = .ok (.if_icmp .eq 319, 3) := by decide +kernel
theorem d_L_law_355 : decode b_L_law 355 = .ok (.aload_n 1, 1) := by decide +kernel
theorem d_L_law_356 : decode b_L_law 356 = .ok (.invokevirtual 58, 3) := by decide +kernel
theorem d_L_law_359 : decode b_L_law 359 = .ok (.aload_n 2, 1) := by decide +kernel
theorem d_L_law_360 : decode b_L_law 360 = .ok (.invokevirtual 61, 3) := by decide +kernel
theorem d_L_law_363 : decode b_L_law 363 = .ok (.if_icmp .eq 306, 3) := by decide +kernel
theorem d_L_law_368 : decode b_L_law 368 = .ok (.aload_n 1, 1) := by decide +kernel
theorem d_L_law_369 : decode b_L_law 369 = .ok (.aload_n 0, 1) := by decide +kernel
theorem d_L_law_370 : decode b_L_law 370 = .ok (.iload 4, 2) := by decide +kernel
theorem d_L_law_372 : decode b_L_law 372 = .ok (.iconst 1, 1) := by decide +kernel
theorem d_L_law_373 : decode b_L_law 373 = .ok (.iadd, 1) := by decide +kernel
theorem d_L_law_374 : decode b_L_law 374 = .ok (.iaload, 1) := by decide +kernel
theorem d_L_law_375 : decode b_L_law 375 = .ok (.invokevirtual 62, 3) := by decide +kernel
theorem d_L_law_378 : decode b_L_law 378 = .ok (.aload_n 2, 1) := by decide +kernel
theorem d_L_law_379 : decode b_L_law 379 = .ok (.aload_n 0, 1) := by decide +kernel
theorem d_L_law_380 : decode b_L_law 380 = .ok (.iload 4, 2) := by decide +kernel
theorem d_L_law_382 : decode b_L_law 382 = .ok (.iconst 1, 1) := by decide +kernel
theorem d_L_law_383 : decode b_L_law 383 = .ok (.iadd, 1) := by decide +kernel
theorem d_L_law_384 : decode b_L_law 384 = .ok (.iaload, 1) := by decide +kernel
theorem d_L_law_385 : decode b_L_law 385 = .ok (.invokevirtual 65, 3) := by decide +kernel
theorem d_L_law_388 : decode b_L_law 388 = .ok (.if_icmp .eq 281, 3) := by decide +kernel
theorem d_L_law_393 : decode b_L_law 393 = .ok (.aload_n 1, 1) := by decide +kernel
theorem d_L_law_394 : decode b_L_law 394 = .ok (.aload_n 0, 1) := by decide +kernel
theorem d_L_law_395 : decode b_L_law 395 = .ok (.iload 4, 2) := by decide +kernel
theorem d_L_law_397 : decode b_L_law 397 = .ok (.iconst 1, 1) := by decide +kernel
theorem d_L_law_398 : decode b_L_law 398 = .ok (.iadd, 1) := by decide +kernel
theorem d_L_law_399 : decode b_L_law 399 = .ok (.iaload, 1) := by decide +kernel
theorem d_L_law_400 : decode b_L_law 400 = .ok (.invokevirtual 66, 3) := by decide +kernel
theorem d_L_law_403 : decode b_L_law 403 = .ok (.aload_n 2, 1) := by decide +kernel
theorem d_L_law_404 : decode b_L_law 404 = .ok (.aload_n 0, 1) := by decide +kernel
theorem d_L_law_405 : decode b_L_law 405 = .ok (.iload 4, 2) := by decide +kernel
theorem d_L_law_407 : decode b_L_law 407 = .ok (.iconst 1, 1) := by decide +kernel
theorem d_L_law_408 : decode b_L_law 408 = .ok (.iadd, 1) := by decide +kernel
theorem d_L_law_409 : decode b_L_law 409 = .ok (.iaload, 1) := by decide +kernel
theorem d_L_law_410 : decode b_L_law 410 = .ok (.invokevirtual 69, 3) := by decide +kernel
theorem d_L_law_413 : decode b_L_law 413 = .ok (.if_icmp .eq 256, 3) := by decide +kernel
theorem d_L_law_418 : decode b_L_law 418 = .ok (.aload_n 1, 1) := by decide +kernel
theorem d_L_law_419 : decode b_L_law 419 = .ok (.invokevirtual 70, 3) := by decide +kernel
theorem d_L_law_422 : decode b_L_law 422 = .ok (.aload_n 2, 1) := by decide +kernel
theorem d_L_law_423 : decode b_L_law 423 = .ok (.invokevirtual 73, 3) := by decide +kernel
theorem d_L_law_426 : decode b_L_law 426 = .ok (.if_icmp .eq 243, 3) := by decide +kernel
theorem d_L_law_431 : decode b_L_law 431 = .ok (.aload_n 1, 1) := by decide +kernel
theorem d_L_law_432 : decode b_L_law 432 = .ok (.aload_n 0, 1) := by decide +kernel
theorem d_L_law_433 : decode b_L_law 433 = .ok (.iload 4, 2) := by decide +kernel
theorem d_L_law_435 : decode b_L_law 435 = .ok (.iconst 1, 1) := by decide +kernel
theorem d_L_law_436 : decode b_L_law 436 = .ok (.iadd, 1) := by decide +kernel
theorem d_L_law_437 : decode b_L_law 437 = .ok (.iaload, 1) := by decide +kernel
theorem d_L_law_438 : decode b_L_law 438 = .ok (.invokevirtual 74, 3) := by decide +kernel
theorem d_L_law_441 : decode b_L_law 441 = .ok (.aload_n 2, 1) := by decide +kernel
theorem d_L_law_442 : decode b_L_law 442 = .ok (.aload_n 0, 1) := by decide +kernel
theorem d_L_law_443 : decode b_L_law 443 = .ok (.iload 4, 2) := by decide +kernel
theorem d_L_law_445 : decode b_L_law 445 = .ok (.iconst 1, 1) := by decide +kernel
theorem d_L_law_446 : decode b_L_law 446 = .ok (.iadd, 1) := by decide +kernel
theorem d_L_law_447 : decode b_L_law 447 = .ok (.iaload, 1) := by decide +kernel
theorem d_L_law_448 : decode b_L_law 448 = .ok (.invokevirtual 77, 3) := by decide +kernel
theorem d_L_law_451 : decode b_L_law 451 = .ok (.if_icmp .eq 218, 3) := by decide +kernel
theorem d_L_law_456 : decode b_L_law 456 = .ok (.aload_n 1, 1) := by decide +kernel
theorem d_L_law_457 : decode b_L_law 457 = .ok (.aload_n 0, 1) := by decide +kernel
theorem d_L_law_458 : decode b_L_law 458 = .ok (.iload 4, 2) := by decide +kernel
theorem d_L_law_460 : decode b_L_law 460 = .ok (.iconst 1, 1) := by decide +kernel
theorem d_L_law_461 : decode b_L_law 461 = .ok (.iadd, 1) := by decide +kernel
theorem d_L_law_462 : decode b_L_law 462 = .ok (.iaload, 1) := by decide +kernel
theorem d_L_law_463 : decode b_L_law 463 = .ok (.invokevirtual 78, 3) := by decide +kernel
theorem d_L_law_466 : decode b_L_law 466 = .ok (.aload_n 2, 1) := by decide +kernel
theorem d_L_law_467 : decode b_L_law 467 = .ok (.aload_n 0, 1) := by decide +kernel
theorem d_L_law_468 : decode b_L_law 468 = .ok (.iload 4, 2) := by decide +kernel
theorem d_L_law_470 : decode b_L_law 470 = .ok (.iconst 1, 1) := by decide +kernel
theorem d_L_law_471 : decode b_L_law 471 = .ok (.iadd, 1) := by decide +kernel
theorem d_L_law_472 : decode b_L_law 472 = .ok (.iaload, 1) := by decide +kernel
theorem d_L_law_473 : decode b_L_law 473 = .ok (.invokevirtual 81, 3) := by decide +kernel
theorem d_L_law_476 : decode b_L_law 476 = .ok (.if_icmp .eq 193, 3) := by decide +kernel
theorem d_L_law_481 : decode b_L_law 481 = .ok (.aload_n 1, 1) := by decide +kernel
theorem d_L_law_482 : decode b_L_law 482 = .ok (.aload_n 0, 1) := by decide +kernel
theorem d_L_law_483 : decode b_L_law 483 = .ok (.iload 4, 2) := by decide +kernel
theorem d_L_law_485 : decode b_L_law 485 = .ok (.iconst 1, 1) := by decide +kernel
theorem d_L_law_486 : decode b_L_law 486 = .ok (.iadd, 1) := by decide +kernel
theorem d_L_law_487 : decode b_L_law 487 = .ok (.iaload, 1) := by decide +kernel
theorem d_L_law_488 : decode b_L_law 488 = .ok (.aload_n 0, 1) := by decide +kernel
theorem d_L_law_489 : decode b_L_law 489 = .ok (.iload 4, 2) := by decide +kernel
theorem d_L_law_491 : decode b_L_law 491 = .ok (.iconst 2, 1) := by decide +kernel
theorem d_L_law_492 : decode b_L_law 492 = .ok (.iadd, 1) := by decide +kernel
theorem d_L_law_493 : decode b_L_law 493 = .ok (.iaload, 1) := by decide +kernel
theorem d_L_law_494 : decode b_L_law 494 = .ok (.invokevirtual 82, 3) := by decide +kernel
theorem d_L_law_497 : decode b_L_law 497 = .ok (.aload_n 2, 1) := by decide +kernel
theorem d_L_law_498 : decode b_L_law 498 = .ok (.aload_n 0, 1) := by decide +kernel
theorem d_L_law_499 : decode b_L_law 499 = .ok (.iload 4, 2) := by decide +kernel
theorem d_L_law_501 : decode b_L_law 501 = .ok (.iconst 1, 1) := by decide +kernel
theorem d_L_law_502 : decode b_L_law 502 = .ok (.iadd, 1) := by decide +kernel
theorem d_L_law_503 : decode b_L_law 503 = .ok (.iaload, 1) := by decide +kernel
theorem d_L_law_504 : decode b_L_law 504 = .ok (.aload_n 0, 1) := by decide +kernel
theorem d_L_law_505 : decode b_L_law 505 = .ok (.iload 4, 2) := by decide +kernel
theorem d_L_law_507 : decode b_L_law 507 = .ok (.iconst 2, 1) := by decide +kernel
theorem d_L_law_508 : decode b_L_law 508 = .ok (.iadd, 1) := by decide +kernel
theorem d_L_law_509 : decode b_L_law 509 = .ok (.iaload, 1) := by decide +kernel
theorem d_L_law_510 : decode b_L_law 510 = .ok (.invokevirtual 85, 3) := by decide +kernel
theorem d_L_law_513 : decode b_L_law 513 = .ok (.if_icmp .eq 156, 3) := by decide +kernel
theorem d_L_law_518 : decode b_L_law 518 = .ok (.aload_n 1, 1) := by decide +kernel
theorem d_L_law_519 : decode b_L_law 519 = .ok (.aload_n 0, 1) := by decide +kernel
theorem d_L_law_520 : decode b_L_law 520 = .ok (.iload 4, 2) := by decide +kernel
theorem d_L_law_522 : decode b_L_law 522 = .ok (.iconst 1, 1) := by decide +kernel
theorem d_L_law_523 : decode b_L_law 523 = .ok (.iadd, 1) := by decide +kernel
theorem d_L_law_524 : decode b_L_law 524 = .ok (.iaload, 1) := by decide +kernel
theorem d_L_law_525 : decode b_L_law 525 = .ok (.aload_n 0, 1) := by decide +kernel
theorem d_L_law_526 : decode b_L_law 526 = .ok (.iload 4, 2) := by decide +kernel
theorem d_L_law_528 : decode b_L_law 528 = .ok (.iconst 2, 1) := by decide +kernel
theorem d_L_law_529 : decode b_L_law 529 = .ok (.iadd, 1) := by decide +kernel
theorem d_L_law_530 : decode b_L_law 530 = .ok (.iaload, 1) := by decide +kernel
theorem d_L_law_531 : decode b_L_law 531 = .ok (.aload_n 0, 1) := by decide +kernel
theorem d_L_law_532 : decode b_L_law 532 = .ok (.iload 4, 2) := by decide +kernel
theorem d_L_law_534 : decode b_L_law 534 = .ok (.iconst 3, 1) := by decide +kernel
theorem d_L_law_535 : decode b_L_law 535 = .ok (.iadd, 1) := by decide +kernel
theorem d_L_law_536 : decode b_L_law 536 = .ok (.iaload, 1) := by decide +kernel
theorem d_L_law_537 : decode b_L_law 537 = .ok (.aload_n 0, 1) := by decide +kernel
theorem d_L_law_538 : decode b_L_law 538 = .ok (.iload 4, 2) := by decide +kernel
theorem d_L_law_540 : decode b_L_law 540 = .ok (.iconst 4, 1) := by decide +kernel
theorem d_L_law_541 : decode b_L_law 541 = .ok (.iadd, 1) := by decide +kernel
theorem d_L_law_542 : decode b_L_law 542 = .ok (.iaload, 1) := by decide +kernel
theorem d_L_law_543 : decode b_L_law 543 = .ok (.invokevirtual 86, 3) := by decide +kernel
theorem d_L_law_546 : decode b_L_law 546 = .ok (.aload_n 2, 1) := by decide +kernel
theorem d_L_law_547 : decode b_L_law 547 = .ok (.aload_n 0, 1) := by decide +kernel
theorem d_L_law_548 : decode b_L_law 548 = .ok (.iload 4, 2) := by decide +kernel
theorem d_L_law_550 : decode b_L_law 550 = .ok (.iconst 1, 1) := by decide +kernel
theorem d_L_law_551 : decode b_L_law 551 = .ok (.iadd, 1) := by decide +kernel
theorem d_L_law_552 : decode b_L_law 552 = .ok (.iaload, 1) := by decide +kernel
theorem d_L_law_553 : decode b_L_law 553 = .ok (.aload_n 0, 1) := by decide +kernel
theorem d_L_law_554 : decode b_L_law 554 = .ok (.iload 4, 2) := by decide +kernel
theorem d_L_law_556 : decode b_L_law 556 = .ok (.iconst 2, 1) := by decide +kernel
theorem d_L_law_557 : decode b_L_law 557 = .ok (.iadd, 1) := by decide +kernel
theorem d_L_law_558 : decode b_L_law 558 = .ok (.iaload, 1) := by decide +kernel
theorem d_L_law_559 : decode b_L_law 559 = .ok (.aload_n 0, 1) := by decide +kernel
theorem d_L_law_560 : decode b_L_law 560 = .ok (.iload 4, 2) := by decide +kernel
theorem d_L_law_562 : decode b_L_law 562 = .ok (.iconst 3, 1) := by decide +kernel
theorem d_L_law_563 : decode b_L_law 563 = .ok (.iadd, 1) := by decide +kernel
theorem d_L_law_564 : decode b_L_law 564 = .ok (.iaload, 1) := by decide +kernel
theorem d_L_law_565 : decode b_L_law 565 = .ok (.aload_n 0, 1) := by decide +kernel
theorem d_L_law_566 : decode b_L_law 566 = .ok (.iload 4, 2) := by decide +kernel
theorem d_L_law_568 : decode b_L_law 568 = .ok (.iconst 4, 1) := by decide +kernel
theorem d_L_law_569 : decode b_L_law 569 = .ok (.iadd, 1) := by decide +kernel
theorem d_L_law_570 : decode b_L_law 570 = .ok (.iaload, 1) := by decide +kernel
theorem d_L_law_571 : decode b_L_law 571 = .ok (.invokevirtual 90, 3) := by decide +kernel
theorem d_L_law_574 : decode b_L_law 574 = .ok (.if_icmp .eq 95, 3) := by decide +kernel
theorem d_L_law_579 : decode b_L_law 579 = .ok (.aload_n 1, 1) := by decide +kernel
theorem d_L_law_580 : decode b_L_law 580 = .ok (.invokevirtual 91, 3) := by decide +kernel
theorem d_L_law_583 : decode b_L_law 583 = .ok (.aload_n 2, 1) := by decide +kernel
theorem d_L_law_584 : decode b_L_law 584 = .ok (.invokevirtual 94, 3) := by decide +kernel
theorem d_L_law_587 : decode b_L_law 587 = .ok (.if_icmp .eq 82, 3) := by decide +kernel
theorem d_L_law_592 : decode b_L_law 592 = .ok (.aload_n 1, 1) := by decide +kernel
theorem d_L_law_593 : decode b_L_law 593 = .ok (.invokevirtual 95, 3) := by decide +kernel
theorem d_L_law_596 : decode b_L_law 596 = .ok (.aload_n 2, 1) := by decide +kernel
theorem d_L_law_597 : decode b_L_law 597 = .ok (.invokevirtual 98, 3) := by decide +kernel
theorem d_L_law_600 : decode b_L_law 600 = .ok (.if_icmp .eq 69, 3) := by decide +kernel
theorem d_L_law_605 : decode b_L_law 605 = .ok (.aload_n 1, 1) := by decide +kernel
theorem d_L_law_606 : decode b_L_law 606 = .ok (.invokevirtual 99, 3) := by decide +kernel
theorem d_L_law_609 : decode b_L_law 609 = .ok (.aload_n 2, 1) := by decide +kernel
theorem d_L_law_610 : decode b_L_law 610 = .ok (.invokevirtual 102, 3) := by decide +kernel
theorem d_L_law_613 : decode b_L_law 613 = .ok (.if_icmp .eq 56, 3) := by decide +kernel
theorem d_L_law_618 : decode b_L_law 618 = .ok (.aload_n 1, 1) := by decide +kernel
theorem d_L_law_619 : decode b_L_law 619 = .ok (.aload_n 0, 1) := by decide +kernel
theorem d_L_law_620 : decode b_L_law 620 = .ok (.iload 4, 2) := by decide +kernel
theorem d_L_law_622 : decode b_L_law 622 = .ok (.iconst 1, 1) := by decide +kernel
theorem d_L_law_623 : decode b_L_law 623 = .ok (.iadd, 1) := by decide +kernel
theorem d_L_law_624 : decode b_L_law 624 = .ok (.iaload, 1) := by decide +kernel
theorem d_L_law_625 : decode b_L_law 625 = .ok (.invokevirtual 103, 3) := by decide +kernel
theorem d_L_law_628 : decode b_L_law 628 = .ok (.aload_n 2, 1) := by decide +kernel
theorem d_L_law_629 : decode b_L_law 629 = .ok (.aload_n 0, 1) := by decide +kernel
theorem d_L_law_630 : decode b_L_law 630 = .ok (.iload 4, 2) := by decide +kernel
theorem d_L_law_632 : decode b_L_law 632 = .ok (.iconst 1, 1) := by decide +kernel
theorem d_L_law_633 : decode b_L_law 633 = .ok (.iadd, 1) := by decide +kernel
theorem d_L_law_634 : decode b_L_law 634 = .ok (.iaload, 1) := by decide +kernel
theorem d_L_law_635 : decode b_L_law 635 = .ok (.invokevirtual 106, 3) := by decide +kernel
theorem d_L_law_638 : decode b_L_law 638 = .ok (.if_icmp .eq 31, 3) := by decide +kernel
theorem d_L_law_643 : decode b_L_law 643 = .ok (.aload_n 1, 1) := by decide +kernel
theorem d_L_law_644 : decode b_L_law 644 = .ok (.invokevirtual 107, 3) := by decide +kernel
theorem d_L_law_647 : decode b_L_law 647 = .ok (.aload_n 2, 1) := by decide +kernel
theorem d_L_law_648 : decode b_L_law 648 = .ok (.invokevirtual 110, 3) := by decide +kernel
theorem d_L_law_651 : decode b_L_law 651 = .ok (.if_icmp .eq 18, 3) := by decide +kernel
theorem d_L_law_656 : decode b_L_law 656 = .ok (.aload_n 1, 1) := by decide +kernel
theorem d_L_law_657 : decode b_L_law 657 = .ok (.invokevirtual 111, 3) := by decide +kernel
theorem d_L_law_660 : decode b_L_law 660 = .ok (.aload_n 2, 1) := by decide +kernel
theorem d_L_law_661 : decode b_L_law 661 = .ok (.invokevirtual 115, 3) := by decide +kernel
theorem d_L_law_664 : decode b_L_law 664 = .ok (.if_icmp .eq 5, 3) := by decide +kernel
theorem d_L_law_669 : decode b_L_law 669 = .ok (.iinc 4 6, 3) := by decide +kernel
theorem d_L_law_672 : decode b_L_law 672 = .ok (.goto (-629), 3) := by decide +kernel
theorem d_L_law_675 : decode b_L_law 675 = .ok (.iconst 1, 1) := by decide +kernel
theorem d_L_law_676 : decode b_L_law 676 = .ok (.ireturn, 1) := by decide +kernel
theorem d_L_law_60 : decode b_L_law 60 = .ok (.tableswitch 609 0 18 #[92, 176, 232, 269, 282, 295, 308, 333, 358, 371, 396, 421, 458, 519, 532, 545, 558, 583, 596], 92) := by decide +kernel
