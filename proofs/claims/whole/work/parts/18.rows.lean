section Thrown
variable {p : Program} {l : Launch} {e : Env} {R : Room} {s : State} {m : MethodId} {args : Array Value} {below : List Frame} {meth : Method} {c : Code} {T : State} {locs : List Loc} {cells slots : Nat}
/-- a callee throws: the note lies over the caller's frame, and the caller's walk stands -/
theorem z_thrown {y : MethodName} {S : Spec} {P : Array Value → State → Prop} {Q : Array Value → State → Outcome → State → Prop} {bytes : ByteArray} {maxL ww mc ms : Nat} {ret : Option FieldType} (hM : MetFree l y S P (fun _ _ _ _ _ => True) Q) (hframes : S.room.frames + 1 ≤ R.frames) (hlocals : ww + (maxL + 11) + S.room.locals ≤ R.locals)
    (X : Stand p l e R s m args below meth c T locs cells slots) {g : JFrame} {ig : Instr} {len : Nat} {mk : MethodId} {a : Array Value} (hg : g.method = m) (hsize : g.locals.size = c.maxLocals) (hdg : decode c.code g.pc = .ok (ig, len)) (hW : 2 * g.monitorRoom + (g.stack.map fun v => v.category).sum ≤ ww) (hn : T.methodNamed? y = some mk)
    (h1 : S.pre.before a T = true) (h2 : (Cond.code y bytes maxL ret).before a T = true) (h3 : (Cond.initialized y.cls).before a T = true) (h4 : cells + S.room.cells ≤ R.cells) (h5 : slots + S.room.slots ≤ R.slots) (hP : P a (T.calling g mk a))
    (hQ : ∀ o t, Q a (T.calling g mk a) o t → ∃ x, o = .threw x ∧ (T.calling g mk a).WarmedH t.vm ∧ (T.calling g mk a).sameButNew ({ t with vm := (T.calling g mk a).vm } : State) [] mc ms) :
    ∃ (x : Addr) (t B : State), Q a (T.calling g mk a) (.threw x) t ∧ B.heap = t.heap ∧ B.vm = t.vm ∧ Stand p l e R s m args below meth c B (locs ++ []) (cells + mc) (slots + ms) ∧ Steps p.tables e below (doInvoke e (T.setTop g) [] mk a).1 ((B.setTop g).pushFrame (.throwing x)) := by
  have h : At T g.method c below := by rw [hg]; exact X.here
  obtain ⟨methY, cY, hmY, hcY, -, hlY, -, -, -, -⟩ := Cond.code_spec hn h2
  obtain ⟨kY, hkY, -⟩ := className_of_methodNamed hn
  have hinitY : kY.init = .initialized := Cond.initialized_spec (findClass_of_methodNamed hn) hkY h3
  have happ : S.appliesLoose y e.platform (T.calling g mk a) = true := Spec.appliesLoose_calling (g := g) h hdg hn hkY hinitY (X.room_calling (g := g) (R' := S.room) hsize hmY hcY hframes (by rw [hlY]; omega) h4 h5) h1
  obtain ⟨mid, hmid⟩ := h.above
  have hfr : (T.setTop g).frames = (.java g :: mid) ++ below := by rw [State.frames_setTop' g h.top, hmid]; rfl
  obtain ⟨o, t, hsteps, -, hend, hq⟩ := Steps.callFree hM p X.admits X.cas X.clock (acts := []) hfr happ hP trivial
  rw [State.frames_setTop' g h.top] at hend
  obtain ⟨x, rfl, hWt, hsm⟩ := hQ o t hq
  have hW' : T.WarmedH t.vm := hWt
  obtain ⟨e2, q2, q3, q4, q5, q6⟩ := hsm
  have e3 : t = ({ (T.calling g mk a).setFrames t.frames with heap := t.heap, slotsUsed := t.slotsUsed } : State).setVm t.vm := by
    have z : t = ({ t with vm := (T.calling g mk a).vm } : State).setVm t.vm := rfl
    rw [e2] at z
    exact z
  have hf2 : t.frames = .throwing x :: .java g :: T.frames.tail := hend
  obtain ⟨g₀, hg0⟩ := Option.isSome_iff_exists.mp h.top
  obtain ⟨r, hr⟩ := State.topJava?_eq_some.mp hg0
  have ht : t = (((({ T with heap := t.heap, slotsUsed := t.slotsUsed } : State).setVm t.vm).setTop g).pushFrame (.throwing x)) := by
    have hr' : (({ T with heap := t.heap, slotsUsed := t.slotsUsed } : State).setVm t.vm).frames = .java g₀ :: r := hr
    refine e3.trans ?_
    rw [hf2, State.calling_eq h.top, State.setFrames_setFrames, State.pushFrame, State.frames_setTop _ hr', State.setTop_of_frames _ hr', State.setFrames_setFrames, hr]
    rfl
  have hsame : T.sameButNew ({ T with heap := t.heap, slotsUsed := t.slotsUsed } : State) [] mc ms := by
    refine ⟨?_, q2, q3, q4, q5, q6⟩
    obtain ⟨t', ht', -⟩ := State.frames_cons hr
    show ({ T with heap := t.heap, slotsUsed := t.slotsUsed } : State) = { T.setFrames T.frames with heap := t.heap, slotsUsed := t.slotsUsed }
    rw [State.setFrames_self ht']
  subst hg
  refine ⟨x, t, (({ T with heap := t.heap, slotsUsed := t.slotsUsed } : State).setVm t.vm), hq, rfl, rfl, ⟨X.admits, X.cas, X.clock, X.frames, X.room, X.hears, X.method, X.code, (X.here.setHeapUsed t.heap t.slotsUsed).setVm hW'.alike, X.tail, State.WarmedH.trans X.warmed hW', X.limits, X.bytes, X.same.trans (hsame.setVm s.vm)⟩, ?_⟩
  rw [← ht]
  exact hsteps
end Thrown
/-- what a method's throw leaves: an object of the class Xc, all else as it was -/
def thrQ (Xc : String) (mc ms : Nat) : Array Value → State → Outcome → State → Prop := fun _ st o t => ∃ (x : Addr) (cell : Cell), o = .threw x ∧ t.heap[x]? = some cell ∧ cell.vm.isStatics = false ∧ st.vm.findClass Xc = some cell.cls ∧ st.vm.assignable cell.cls cell.cls = true ∧ st.WarmedH t.vm ∧ st.sameButNew ({ t with vm := st.vm } : State) [] mc ms
def MT (below : List Frame) (Qx : Array Value → State → Outcome → State → Prop) (a : Array Value) (s : State) : State → Prop := fun t => ∃ o, t.status = .running ∧ Ended t below o ∧ Qx a s o t
/-- a contract of a method that throws -/
def CtT (l : Launch) (D : va_G) (tI tB tZ tL : ClassId) (X : (Nat → Prop) → State → Prop) (y : MethodName) (cd : ByteArray) (n : Nat) (ret : Option FieldType) (rm : Room) (av : List Value) (ws : va_W) (Xc : String) : Prop :=
  ∀ sz : Nat, MetFree l y (headSpec (wT y cd n ret) rm) (va_Pc av (cPre D tI tB tZ tL X ws sz)) (fun _ _ _ _ _ => True) (thrQ Xc rm.cells rm.slots)
theorem CtT.start {l : Launch} {D : va_G} {tI tB tZ tL : ClassId} {X : (Nat → Prop) → State → Prop} {y : MethodName} {cd : ByteArray} {n : Nat} {ret : Option FieldType} {rm : Room} {av : List Value} {ws : va_W} {Xc : String} (hX : Ro X) (hy : plainName y.cls = true) (hn : (lg_sl av).length ≤ n)
    (body : ∀ (p : Program) (e : Env) (s : State) (m : MethodId) (args : Array Value) (below : List Frame) (meth : Method) (c : Code) (A : Nat → Prop) (ls : Array Slot), Cx p m c cd n s args y.cls D tI tB tZ tL X A → meth.locks = false → (∀ pc, ∀ x ∈ c.exceptionTable.toList, covers x pc = false) → Wd D A s ws s.heap [] → lv_has ls n (lv_args 0 av) →
      W p l e rm s m args below meth c s.heap [] 0 0 (MT below (thrQ Xc rm.cells rm.slots) args s) (F0 m 0 ls [])) : CtT l D tI tB tZ tL X y cd n ret rm av ws Xc := by
  intro sz
  refine MetFree.of_bodyS (code := cd) (maxLocals := n) (ret := ret) hy ?_ ?_
  · intro args s m h hn
    obtain ⟨meth, c, h1, h2, h3, h4, h5, h6, -, -⟩ := Cond.code_spec hn (atoms_spec (ws := wT y cd n ret) h _ List.mem_cons_self)
    exact ⟨meth, c, h1, h2, h3, h4, h5, h6⟩
  · intro p e s m args below meth c s₁ B hml hv _
    obtain ⟨rfl, hsz, hP, hK, hD0, hE⟩ := hv
    subst hsz
    have hpre := atoms_spec (ws := wT y cd n ret) B.pre
    have hh0 : s₁.heap = s.heap := by rw [B.state]; rfl
    have K := body p e s m _ below meth c (va_A ws s.heap.size) _ ⟨⟨B.exec, B.bytes, hml, findClass_of_methodNamed B.named, fun w h => hpre w (List.mem_cons_of_mem _ h)⟩, hK, fun q h => Or.inr h, hE, hX⟩ B.notSynchronized (fun pc => covers_of_empty (B.noHandlers (hpre _ List.mem_cons_self)) pc) ⟨hP, hD0.self (sz := s.heap.size), va_S.rf⟩ (lv_entry av hn)
    rw [← lg_entry_eq m av n] at K
    obtain ⟨t, a1, o, b1, b2, b3⟩ := K s₁ hh0 (Stand.of_body B)
    exact ⟨t, o, a1, b1, b2, b3⟩
/-- a static of the JDK's that holds a reference or null, and its words -/
def stW (C n d : String) (A : Nat → Prop) (U : State) : Prop := ∃ (c : ClassId) (k : Class) (i : Nat) (f : Field) (a : Nat) (cell : Cell) (v : Value), U.vm.findClass C = some c ∧ U.fieldFound? C n d = some (c, k, i, f) ∧ f.isStatic = true ∧ k.statics = some a ∧ U.heap[a]? = some cell ∧ cell.vm.isStatics = true ∧ cell.cls = c ∧ f.slot < cell.slots.size ∧ k.staticTypes[f.slot]? = some f.type ∧ cell.slots[f.slot]? = some v ∧ v.isRef = true ∧ ¬ A a
theorem stW.lays {C n d : String} {A : Nat → Prop} {U : State} (h : stW C n d A U) (args : Array Value) : (Cond.laysStatic C n d).before args U = true := by
  obtain ⟨c, k, i, f, a, cell, v, h1, h2, h3, h4, h5, h6, h7, h8, h9, h10, h11, h12⟩ := h
  simp [Cond.before, Cond.holds, Cond.value, h1, h2, h3, h4, h5, h6, h7, h8, h9]
theorem stW.ref {C n d : String} {A : Nat → Prop} {U : State} (h : stW C n d A U) (args : Array Value) : (Cond.isRef (.static C n d)).before args U = true := by
  obtain ⟨c, k, i, f, a, cell, v, h1, h2, h3, h4, h5, h6, h7, h8, h9, h10, h11, h12⟩ := h
  have ev : (Term.static C n d).eval args U none [] U = some v := by simp [Term.eval, State.fieldNamed?, h2, h3, h4, h5, h6, h10]
  cases v with
  | null => simp [Cond.before, Cond.holds, Cond.value, ev]
  | ref _ => simp [Cond.before, Cond.holds, Cond.value, ev]
  | _ => cases h11
theorem stW.of {C n d : String} {A : Nat → Prop} {s : State} {args : Array Value} (h1 : (Cond.laysStatic C n d).before args s = true) (h2 : (Cond.isRef (.static C n d)).before args s = true) (hA : ∀ a : Nat, a < s.heap.size → ¬ A a) : stW C n d A s := by
  obtain ⟨c, k, i, f, a, cell, hc, hi, hst, ha, hcell, hs, hcls, hlt, hty⟩ := Cond.laysStatic_spec h1
  obtain ⟨v, hv⟩ : ∃ v, cell.slots[f.slot]? = some v := ⟨_, Array.getElem?_eq_getElem hlt⟩
  have ev : (Term.static C n d).eval args s none [] s = some v := by simp [Term.eval, State.fieldNamed?, hi, hst, ha, hcell, hs, hv]
  refine ⟨c, k, i, f, a, cell, v, hc, hi, hst, ha, hcell, hs, hcls, hlt, hty, hv, ?_, hA a (Array.getElem?_eq_some_iff.mp hcell).1⟩
  cases v <;> first | rfl | (simp [Cond.before, Cond.holds, Cond.value, ev] at h2)
theorem stW.ro {C n d : String} : Ro (stW C n d) := fun A A' s U h hA hh hw => by
  obtain ⟨c, k, i, f, a, cell, v, h1, h2, h3, h4, h5, h6, h7, h8, h9, h10, h11, h12⟩ := h
  obtain ⟨k', hi', he⟩ := State.fieldFound?_setVm hw.alike h2
  exact ⟨c, k', i, f, a, cell, v, by rw [hw.alike.findClass]; exact h1, hi', h3, by rw [he]; exact h4, by rw [hh a (Array.getElem?_eq_some_iff.mp h5).1 h12]; exact h5, h6, h7, h8, by rw [he]; exact h9, h10, h11, fun z => h12 (hA a z)⟩
def xIAE : String := "java/lang/IllegalArgumentException"
def xUp : List String := ["java/lang/RuntimeException", "java/lang/Exception"]
/-- words of the throw that ride by the tables' faces alone -/
def exF : List Cond := [.declares (Bundle.initS "java/lang/RuntimeException"), .declares (Bundle.initS "java/lang/Exception"), .declares (Bundle.initS "java/lang/Throwable"), .castable xIAE xIAE]
/-- what a throw asks of the start -/
def exOk (A : Nat → Prop) (U : State) : Prop := (∀ w ∈ exF, ∀ a : Array Value, w.before a U = true) ∧ stW Bundle.tN "UNASSIGNED_STACK" Bundle.steD A U ∧ stW Bundle.tN "SUPPRESSED_SENTINEL" Bundle.listD A U
theorem exF_face : ∀ w ∈ exF, w.faceAtom = true ∧ w.onTables = true := by decide +kernel
theorem exOk.ro : Ro exOk := fun A A' s U h hA hh hw => ⟨fun w hw' a => by
    have z := Cond.faceAtom_setVm hw.alike w (exF_face w hw').1 (h.1 w hw' a)
    rw [Cond.onTables_vm (A' := a) (U' := U) U.vm w (exF_face w hw').2, State.setVm_self] at z
    exact z, stW.ro A A' s U h.2.1 hA hh hw, stW.ro A A' s U h.2.2 hA hh hw⟩
set_option maxRecDepth 100000 in
theorem ex_words : ∀ w ∈ Bundle.ownAtoms "MarkupJudge" 128 xIAE xUp, w ∈ lwG ∨ w ∈ exF ∨ w ∈ [Cond.laysStatic Bundle.tN "UNASSIGNED_STACK" Bundle.steD, Cond.laysStatic Bundle.tN "SUPPRESSED_SENTINEL" Bundle.listD, Cond.isRef (.static Bundle.tN "UNASSIGNED_STACK" Bundle.steD), Cond.isRef (.static Bundle.tN "SUPPRESSED_SENTINEL" Bundle.listD)] := by decide +kernel
theorem ex_all {args : Array Value} {s : State} {A : Nat → Prop} (ht : ∀ w ∈ lwG, w.before args s = true) (h : exOk A s) : ∀ w ∈ Bundle.ownAtoms "MarkupJudge" 128 xIAE xUp, w.before args s = true := fun w hw => by
  rcases ex_words w hw with q | q | q
  · exact ht w q
  · exact h.1 w q args
  · simp only [List.mem_cons, List.not_mem_nil, or_false] at q
    rcases q with q | q | q | q
    · rw [q]; exact h.2.1.lays args
    · rw [q]; exact h.2.2.lays args
    · rw [q]; exact h.2.1.ref args
    · rw [q]; exact h.2.2.ref args
section OwnRows6
variable {p : Program} {l : Launch} {e : Env} {R : Room} {s : State} {m : MethodId} {args : Array Value} {below : List Frame} {meth : Method} {c : Code} {H : Heap} {locs : List Loc} {cells slots : Nat} {Q : State → Prop} {cc : ByteArray} {nL : Nat} {own : String} {D : va_G} {tI tB tZ tL : ClassId} {X : (Nat → Prop) → State → Prop} {A : Nat → Prop} {ws : va_W} {ls : Array Slot} {pc : Nat} {rest : List Value}
/-- 'throw new X("..")', where nothing was written before -/
theorem r_throw (C : Cx p m c cc nL s args own D tI tB tZ tL X A) (hsz : ls.size = nL) (hlk : meth.locks = false) (hnh : ∀ pc, ∀ x ∈ c.exceptionTable.toList, covers x pc = false) (htr : l.stackTraces = false) {ia ib ic : Nat} {tx : String} {q : Nat} (hcl : Cond.classLink own ia xIAE ∈ lwG) (hinst : Cond.instantiable xIAE 6 ∈ lwG) (hini : Cond.initialized xIAE ∈ lwG) (hR : vk_R own ib tx q s) (hat : ∀ w ∈ Bundle.ownAtoms own ic xIAE xUp, w.before args s = true)
    (d0 : decode cc pc = .ok (.new ia, 3)) (d3 : decode cc (pc + 3) = .ok (.dup, 1)) (d4 : decode cc (pc + 4) = .ok (.ldc ib, 2)) (d6 : decode cc (pc + 6) = .ok (.invokespecial ic, 3)) (d9 : decode cc (pc + 9) = .ok (.athrow, 1)) (hfr : 5 < R.frames) (hlo : 83 ≤ R.locals) (hce : 1 ≤ R.cells) (hsl : 6 ≤ R.slots) :
    W p l e R s m args below meth c s.heap [] 0 0 (MT below (thrQ xIAE 1 6) args s) (F0 m pc ls []) := by
  intro T hT XT
  have hx := C.1.1
  have hb := C.1.2.1
  have hown := C.1.2.2.2.1
  have ht := C.1.2.2.2.2
  have htr' : e.platform.stackTraces = false := by rw [XT.admits.platform]; exact htr
  obtain ⟨vm₁, cX, kX, hfX, hkX, -, -, X₁, st1⟩ := XT.newCold hx (own := own) (C := xIAE) (index := ia) (n := 6) hown (ht _ hcl) (ht _ hinst) (ht _ hini) (g := F0 m pc ls []) rfl (by rw [hb]; exact d0) (by omega) (by omega)
  generalize hU : (T.setVm vm₁).pushCell { cls := cX, slots := kX.instanceTypes.map defaultValue, vm := .none } = U at X₁ st1
  have hcellA : U.heap[T.heap.size]? = some (freshCell cX kX) := by rw [← hU]; exact State.heap_pushCell_size _ _
  obtain ⟨V, hsteps, hrun, hend, hWv, hsame, ce, hce', K⟩ := X₁.ctorThrowS hx htr' (own := own) (cls := xIAE) (names := xUp) (ic := ic) hown (by decide +kernel) (by decide +kernel) hat (fun y hy => by cases hy) hfX hkX hcellA (by rw [hT]; exact Nat.le_refl _) (msg := .ref q) rfl (g := F0 m (pc + 6) ls [.ref q, .ref T.heap.size, .ref T.heap.size]) rfl (by rw [C.1.2.2.1]; exact hsz) rfl rfl (rest := []) rfl (by rw [hb]; exact d6) (by rw [hb]; exact d9) (hnh _) hfr (by show 2 * 0 + 1 + (13 * 3 + 42) ≤ R.locals; omega) hlk
  refine ⟨V, ?_, .threw T.heap.size, hrun, hend, T.heap.size, ce, rfl, hce', by rw [K.vm]; rfl, K.cls, K.self, hWv, hsame⟩
  refine st1 _ ?_
  show Steps p.tables e below (U.setTop (F0 m (pc + 3) ls [.ref T.heap.size])) V
  jvm_step X₁.here [X₁.here.top, hx, hb, d3, Value.category]
  exact X₁.ldcString hx hown (text := tx) (a := q) hR.1 hR.2 (g := F0 m (pc + 4) ls [.ref T.heap.size, .ref T.heap.size]) rfl (by rw [hb]; exact d4) _ hsteps
/-- a call that throws, caught by the caller's one handler -/
theorem r_callVt {y : MethodName} {cd : ByteArray} {ret : Option FieldType} {n b index : Nat} {rm : Room} {wc : va_W} {st : List Value} {Xc : String} (As : List Value) (rest : List Value) (C : Cx p m c cc nL s args own D tI tB tZ tL X A) (hsz : ls.size = nL) (hW : Wd D A s ws H locs) (hM : CtT l D tI tB tZ tL X y cd n ret rm (.ref b :: As) wc Xc) (ok : okV y cd n ret As.length) (hl : Cond.methodLink own index y ∈ lwG)
    (isC : List Nat) (hC : isC.map (fun i => ws[i]?) = wc.map some) (hnC : va_nd isC = true) (q0 : Nat) {ci : Nat} {fs : List Value} {Tb : u_T} {N : Nat} (he : wc[q0]? = some (b, .inr (ci, fs))) (hc : vC[ci]? = some (y.cls, Tb, N))
    (hst : st = As.reverse ++ .ref b :: rest) (hro : rm.frames + 1 ≤ R.frames ∧ 8 + (n + 11) + rm.locals ≤ R.locals) (hw8 : (rest.map fun v => v.category).sum ≤ 8) (hf : cells + rm.cells ≤ R.cells ∧ slots + rm.slots ≤ R.slots) (hdg : decode cc pc = .ok (.invokevirtual index, 3))
    (x : ExceptionTableEntry) (htab : c.exceptionTable.toList = [x]) (hcov : covers x pc = true) (h0 : x.catchType ≠ 0) (hlink : Cond.classLink own x.catchType Xc ∈ lwG)
    (kk : ∀ (q : Nat) (H1 : Heap), Wd D A s ws H1 locs → W p l e R s m args below meth c H1 locs (cells + rm.cells) (slots + rm.slots) Q (F0 m x.handlerPc ls [.ref q])) : W p l e R s m args below meth c H locs cells slots Q (F0 m pc ls st) := by
  intro T hT XT
  have hx := C.1.1
  have hb := C.1.2.1
  have hml := C.1.2.2.1
  have hown := C.1.2.2.2.1
  have ht := C.1.2.2.2.2
  have hPc := c_pre_at (av := .ref b :: As) C hW isC hnC hC
  obtain ⟨cellB, hcB, hoB, hclB⟩ := va_recv C.2.1 (hW.1.sub (ws' := wc) isC (by
    have e := congrArg (fun x : List (Option (Nat × va_E)) => x.filterMap id) hC
    simpa [List.filterMap_map] using e)) hc he
  obtain ⟨mk, methM, hnamed, hmethM, hstM, habM⟩ := Cond.instanceMethod_spec (ht _ ok.2.1)
  obtain ⟨methM', cM, hmethM', -, -, -, -, -, -, hsigM⟩ := Cond.code_spec hnamed (ht _ ok.1)
  cases hmethM.symm.trans hmethM'
  obtain ⟨c2, r2, m2, q1, q2, q3, q4, kP, hkP, hkPi⟩ := Cond.selects_spec (ht _ ok.2.2.1)
  have hy : y.cls ≠ "java/lang/invoke/MethodHandle" ∧ y.cls ≠ "java/lang/invoke/VarHandle" := ⟨ok.2.2.2.2.1, ok.2.2.2.2.2.1⟩
  cases hclB.symm.trans q1
  cases (State.methodFound?_of_named hnamed hy).symm.trans q2
  cases hnamed.symm.trans q3
  have hselP : selectMethod e.platform s.vm cellB.cls mk = .method mk := by rw [Launch.admits_selectMethod XT.admits]; exact q4
  have hlen : As.length = methM.sig.parameters.length := by
    have z := ok.2.2.2.2.2.2
    rw [hsigM] at z
    exact (Option.some.inj z).symm
  obtain ⟨vm₁, X₁, hstep₁⟩ := XT.invokevirtual hx hown (ht _ hl) hnamed hmethM hstM hkP hkPi hy (a := b) (cell := cellB) (by rw [hT]; exact hcB) (fun z h => by rw [h] at hoB; cases hoB) hselP hmethM habM hkP hkPi (g := F0 m pc ls st) rfl (argsL := As) (rest := rest) hlen hst (by rw [hb]; exact hdg)
  have hw1 : s.WarmedH (T.setVm vm₁).vm := X₁.warmed
  obtain ⟨x0, t, B, hq, hBh, hBv, XB, hsteps⟩ := z_thrown (bytes := cd) (maxL := n) (ww := 8) (mc := rm.cells) (ms := rm.slots) (ret := ret) (hM H.size) hro.1 hro.2 X₁ (g := F0 m pc ls rest) (ig := .invokevirtual index) (len := 3) (mk := mk) (a := (Value.ref b :: As).toArray) rfl (hsz.trans hml.symm) (by rw [hb]; exact hdg) (lv_room hw8) (X₁.named hnamed)
    (atoms_intro fun w hw => tG_at ht hw1 ((List.mem_cons.mp hw).elim (fun q => by rw [q]; exact ok.1) (fun q => q))) (tG_at ht hw1 ok.1) (tG_at ht hw1 ok.2.2.2.1) hf.1 hf.2 (c_pre_blind C.2.2.2.2 _ _ _ _ (hPc (T.setVm vm₁) hT hw1))
    (fun o t h => by obtain ⟨x, cell, h1, -, -, -, -, h2, h3⟩ := h; exact ⟨x, h1, h2, h3⟩)
  obtain ⟨x', cell, hx', hcell, hobj, hcls, hself, hwt, hsm⟩ := hq
  cases hx'
  have hw1a : s.vm.Alike (T.setVm vm₁).vm := hw1.alike
  rw [List.append_nil] at XB
  obtain ⟨vm', XV, hcatch⟩ := z_catch XB hown (nm := Xc) (g := F0 m pc ls rest) rfl (by rw [hBh]; exact hcell) hobj x htab hcov h0 (ht _ hlink) (by rw [← hw1a.findClass]; exact hcls) (by rw [← hw1a.assignable]; exact hself)
  have hold : ∀ q : Nat, q < H.size → B.heap[q]? = H[q]? := fun q hq => by
    obtain ⟨cq, hcq⟩ : ∃ cq, H[q]? = some cq := ⟨_, Array.getElem?_eq_getElem hq⟩
    rw [hcq, hBh]
    exact hsm.old_cell (a := q) (c := cq) (by show T.heap[q]? = some cq; rw [hT]; exact hcq)
  have hge : H.size ≤ B.heap.size := by
    rw [hBh]
    have z := hsm.2.1
    have z2 : ((T.setVm vm₁).calling (F0 m pc ls rest) mk (Value.ref b :: As).toArray).heap.size = T.heap.size := rfl
    rw [z2, hT] at z
    exact z
  have hW1 : Wd D A s ws (B.setVm vm').heap locs := ⟨hW.1.kept (fun k y hy => hold y.1 ((hW.1 k y hy).lt)), hW.2.1, Nat.le_trans hW.2.2.1 hge, fun q h1 h2 => (hold q (Nat.lt_of_lt_of_le h1 hW.2.2.1)).trans (hW.2.2.2.1 q h1 h2), hW.2.2.2.2⟩
  obtain ⟨tt, b1, b2⟩ := kk x0 (B.setVm vm').heap hW1 (B.setVm vm') rfl XV
  exact ⟨tt, hstep₁ _ fun acts => by rw [doInvoke_state]; exact hsteps.trans (hcatch _ b1), b2⟩
end OwnRows6
