/-! ===== rows for the law: longs, a method with a table of handlers, a throw and its catch ===== -/
def wTW (y : MethodName) (cd : ByteArray) (n : Nat) (ret : Option FieldType) (hh : List (Nat × Nat × Nat × Nat)) : List Cond := .codeWith y cd n ret hh :: lwG
theorem tG_at {args a' : Array Value} {s U : State} (ht : ∀ w ∈ lwG, w.before args s = true) (hW : s.WarmedH U.vm) {w : Cond} (hw : w ∈ lwG) : w.before a' U = true := word_at hW (good_of_word (List.mem_filter.mp hw).2) (ht w hw)
/-- a contract of a method with handlers that answers an int -/
def CtIW (l : Launch) (D : va_G) (tI tB tZ tL : ClassId) (X : (Nat → Prop) → State → Prop) (y : MethodName) (cd : ByteArray) (n : Nat) (ret : FieldType) (hh : List (Nat × Nat × Nat × Nat)) (rm : Room) (av : List Value) (ws : va_W) {S : Type} (post : Int32 → S → Prop) (w1 : S → va_W) : Prop :=
  ∀ sz : Nat, Met l y (wTW y cd n (some ret) hh) rm (va_Pc av (cPre D tI tB tZ tL X ws sz)) (va_Qi post (cPost D tI tB tZ tL (va_A ws sz) w1) (va_A ws sz)) rm.cells rm.slots (va_A ws sz)
theorem CtIW.start {l : Launch} {D : va_G} {tI tB tZ tL : ClassId} {X : (Nat → Prop) → State → Prop} {y : MethodName} {cd : ByteArray} {n : Nat} {ret : FieldType} {hh : List (Nat × Nat × Nat × Nat)} {rm : Room} {av : List Value} {ws : va_W} {S : Type} {post : Int32 → S → Prop} {w1 : S → va_W} (hX : Ro X) (hy : plainName y.cls = true) (hn : (lg_sl av).length ≤ n)
    (body : ∀ (p : Program) (e : Env) (s : State) (m : MethodId) (args : Array Value) (below : List Frame) (meth : Method) (c : Code) (A : Nat → Prop) (ls : Array Slot), Cx p m c cd n s args y.cls D tI tB tZ tL X A → meth.sig.returnType = some ret → meth.locks = false → c.exceptionTable.toList.map (fun h => (h.startPc, h.endPc, h.handlerPc, h.catchType)) = hh → Wd D A s ws s.heap [] → lv_has ls n (lv_args 0 av) →
      W p l e rm s m args below meth c s.heap [] 0 0 (MQ below (va_Qi post (cPost D tI tB tZ tL A w1) A) args s rm.cells rm.slots A) (F0 m 0 ls [])) : CtIW l D tI tB tZ tL X y cd n ret hh rm av ws post w1 := by
  intro sz
  refine va_MetW (cc := cd) (maxL := n) (ret := some ret) (hh := hh) hy rfl ?_
  intro p e s m args below meth c s₁ B hml hv
  obtain ⟨rfl, hsz, hP, hK, hD0, hE⟩ := hv
  subst hsz
  rw [lg_entry_eq]
  have hpre := atoms_spec (ws := wTW y cd n (some ret) hh) B.pre
  obtain ⟨m9, meth9, c9, hn9, hm9, hc9, -, -, ht9, -⟩ := Cond.codeWith_spec (hpre _ List.mem_cons_self)
  cases B.named.symm.trans hn9
  cases B.method.symm.trans hm9
  cases (Stand.of_body B).code.symm.trans hc9
  exact body p e s m _ below meth c (va_A ws s.heap.size) _ ⟨⟨B.exec, B.bytes, hml, findClass_of_methodNamed B.named, fun w h => hpre w (List.mem_cons_of_mem _ h)⟩, hK, fun q h => Or.inr h, hE, hX⟩ B.returns B.notSynchronized ht9 ⟨hP, hD0.self (sz := s.heap.size), va_S.rf⟩ (lv_entry av hn)
def okSW (y : MethodName) (cd : ByteArray) (n : Nat) (ret : Option FieldType) (hh : List (Nat × Nat × Nat × Nat)) (k : Nat) : Prop := Cond.codeWith y cd n ret hh ∈ lwG ∧ Cond.static y ∈ lwG ∧ Cond.initialized y.cls ∈ lwG ∧ (y.cls ≠ "java/lang/invoke/MethodHandle" ∧ y.cls ≠ "java/lang/invoke/VarHandle" ∧ (parseMethodDescriptor y.desc).map (fun d => d.parameters.length) = some k)
section OwnRows5
variable {p : Program} {l : Launch} {e : Env} {R : Room} {s : State} {m : MethodId} {args : Array Value} {below : List Frame} {meth : Method} {c : Code} {H : Heap} {locs : List Loc} {cells slots : Nat} {Q : State → Prop} {cc : ByteArray} {nL : Nat} {own : String} {D : va_G} {tI tB tZ tL : ClassId} {X : (Nat → Prop) → State → Prop} {A : Nat → Prop} {ws : va_W} {ls : Array Slot} {pc : Nat} {rest : List Value}
theorem r_runSW {y : MethodName} {bytes : ByteArray} {maxL index : Nat} {ret : Option FieldType} {hh : List (Nat × Nat × Nat × Nat)} {rm : Room} {Pc : Array Value → State → Prop} {Qc : Array Value → State → Outcome → State → Prop} {free : Addr → Prop} {As rest : List Value} {g : JFrame} (ww : Nat) (S : CallFix p m c cc nL s args lwG own) (hM : Met l y (wTW y bytes maxL ret hh) rm Pc Qc rm.cells rm.slots free) (ok : okSW y bytes maxL ret hh As.length) (hl : Cond.methodLink own index y ∈ lwG) (hro : rm.frames + 1 ≤ R.frames ∧ ww + (maxL + 11) + rm.locals ≤ R.locals) (hp : PreS s H Pc As)
    (hg : g.method = m) (hsize : g.locals.size = nL) (hstack : g.stack = As.reverse ++ rest) (hW : 2 * g.monitorRoom + (rest.map fun v => v.category).sum ≤ ww) (hdg : decode cc g.pc = .ok (.invokestatic index, 3)) (hf : cells + rm.cells ≤ R.cells ∧ slots + rm.slots ≤ R.slots) :
    va_Run p l e R s m args below meth c H locs cells slots rm.cells rm.slots g rest (Qc As.toArray) (free) := by
  have ht := S.2.2.2.2
  have hws : ∀ w ∈ wTW y bytes maxL ret hh, ∀ (a' : Array Value) (U : State), s.WarmedH U.vm → w.before a' U = true := fun w hw a' U hW => tG_at ht hW ((List.mem_cons.mp hw).elim (fun q => by rw [q]; exact ok.1) (fun q => q))
  have hK : Back l R p e below s args y 3 ww (PreOf R rm.cells rm.slots Pc) (PostOf Qc rm.cells rm.slots free) :=
    va_backW (bytes := bytes) (maxL := maxL) (ret := ret) (hh := hh) hM hp.1 rfl rfl hro.1 hro.2 hws List.mem_cons_self (fun a' U hW => tG_at ht hW ok.2.2.1)
  obtain ⟨hx, hb, hml, ho, -⟩ := S
  intro T hT X
  obtain ⟨mk, methM, cM, hnamed, hmethM, -, -, -, -, -, -, hsigM⟩ := Cond.codeWith_spec (ht _ ok.1)
  have hstatic : methM.isStatic = true := Cond.static_spec hnamed hmethM (ht _ ok.2.1)
  obtain ⟨kP, hkP, -⟩ := className_of_methodNamed hnamed
  have hinitP : kP.init = .initialized := Cond.initialized_spec (findClass_of_methodNamed hnamed) hkP (ht _ ok.2.2.1)
  have hlen : As.length = methM.sig.parameters.length := by
    have z := ok.2.2.2.2.2
    rw [hsigM] at z
    exact (Option.some.inj z).symm
  obtain ⟨vm₁, X₁, hstep₁⟩ := X.invokestatic hx ho (ht _ hl) hnamed hmethM hstatic hkP hinitP ⟨ok.2.2.2.1, ok.2.2.2.2.1⟩ (g := g) hg (argsL := As) (rest := rest) hlen hstack (by rw [hb]; exact hdg)
  obtain ⟨v, ⟨U', l2, c2, s2⟩, X', ⟨g', mk', t, L, e1, e2, hq, h1, hL, h2, h3⟩, hsteps⟩ := hK m meth c ⟨T.setVm vm₁, locs, cells, slots⟩ { g with stack := rest } (.invokestatic index) mk As.toArray X₁ hg (hsize.trans hml.symm) (by rw [hb]; exact hdg) hW (X₁.named hnamed) ⟨hf.1, hf.2, hp.2 (T.setVm vm₁) hT X₁.warmed⟩
  dsimp only [Pt.U, Pt.locs, Pt.cells, Pt.slots] at X' e1 e2 h1 h2 h3 hsteps
  subst h1; subst h2; subst h3
  exact ⟨v, (T.setVm vm₁).calling g' mk' As.toArray, t, U', L, hT, X', hL, e1, e2, hq, fun target h => hstep₁ _ fun acts => by rw [doInvoke_state]; exact hsteps.trans h⟩
theorem r_callSiW {S : Type} {post : Int32 → S → Prop} {w1 : S → va_W} {y : MethodName} {cd : ByteArray} {ret : FieldType} {hh : List (Nat × Nat × Nat × Nat)} {n index : Nat} {rm : Room} {wc wr : va_W} {st : List Value} (As : List Value) (rest : List Value) (C : Cx p m c cc nL s args own D tI tB tZ tL X A) (hsz : ls.size = nL) (hW : Wd D A s ws H locs) (hM : CtIW l D tI tB tZ tL X y cd n ret hh rm As wc post w1) (ok : okSW y cd n (some ret) hh As.length) (hl : Cond.methodLink own index y ∈ lwG)
    (isC isR : List Nat) (hC : isC.map (fun i => ws[i]?) = wc.map some) (hR : isR.map (fun i => ws[i]?) = wr.map some) (hnC : va_nd isC = true) (hnR : va_nd isR = true) (hdis : ∀ i ∈ isR, i ∉ isC)
    (hst : st = As.reverse ++ rest) (hro : rm.frames + 1 ≤ R.frames ∧ 8 + (n + 11) + rm.locals ≤ R.locals) (hw8 : (rest.map fun v => v.category).sum ≤ 8) (hf : cells + rm.cells ≤ R.cells ∧ slots + rm.slots ≤ R.slots) (hdg : decode cc pc = .ok (.invokestatic index, 3))
    (kk : ∀ (r : Int32) (u : S) (H1 : Heap) (locs1 : List Loc), post r u → Wd D A s (wr ++ w1 u) H1 locs1 → W p l e R s m args below meth c H1 locs1 (cells + rm.cells) (slots + rm.slots) Q (F0 m (pc + 3) ls (.int r :: rest))) : W p l e R s m args below meth c H locs cells slots Q (F0 m pc ls st) := by
  have hFc := va_free hW.2.1 hW.2.2 C.2.2.1 isC hC
  refine va_calli (r_runSW 8 (As := As) (rest := rest) C.1 (hM H.size) ok hl hro ⟨c_pre_blind C.2.2.2.2, c_pre_at C hW isC hnC hC⟩ rfl hsz hst (lv_room hw8) hdg hf) hW.2.2 (fun q _ h => hFc q h) hFc (fun r u t H1 locs1 ht hvm hw hB hz1 hk1 hS => ?_)
  obtain ⟨hP1, hK1, hD1⟩ := hB
  rw [ht] at hP1
  obtain ⟨hP, hD⟩ := va_join hW.1 hW.2.1 isC isR hC hR hnR hdis hk1 hFc hP1 hD1
  exact kk r u H1 locs1 hw ⟨hP, hD, hS⟩
theorem r_newL (C : Cx p m c cc nL s args own D tI tB tZ tL X A) (hW : Wd D A s ws H locs) {n : Int32} (N : Nat) (hn : n = nI N) (hN : N ≤ 1024) {K M : Nat} (hk : cells + 1 = K) (hkr : K ≤ R.cells) (hm : slots + N ≤ M) (hmr : M ≤ R.slots) (hdg : decode cc pc = .ok (.newarray .long, 2))
    (kk : ∀ (q : Nat) (H1 : Heap), Wd D A s (ws ++ [(q, .inl (tL, N, .inr (.inl (fun _ => 0))))]) H1 locs → W p l e R s m args below meth c H1 locs K M Q (F0 m (pc + 2) ls (.ref q :: rest))) : W p l e R s m args below meth c H locs cells slots Q (F0 m pc ls (.int n :: rest)) := by
  subst hk; subst hn
  have h0 : N < 2 ^ 31 := Nat.lt_of_le_of_lt hN (by decide)
  have h1 : N * componentBytes FieldType.long ≤ 536870912 := Nat.le_trans (Nat.mul_le_mul_right 8 hN) (by decide)
  have h2 : ∀ cA : ClassId, vp_cell cA (N, .inr (.inl (fun _ => (0 : Int64)))) = arrV cA N (fun _ => defaultValue .long) := fun _ => rfl
  have h3 : (Cond.arrayClass .long).before args s = true := C.1.2.2.2.2 _ w_arrL
  have h4 : s.vm.findClass ("[" ++ (FieldType.long).toString) = some tL := (C.2.1.2 3 (tL, .long) rfl).2
  refine va_newa (atype := .long) (D := D) (cl := vC) (ty := .long) (N' := N) (a0 := (N, .inr (.inl (fun _ => (0 : Int64))))) C.1.1 C.1.2.1 h3 rfl C.2.1 hW.1 hW.2.1 hW.2.2 C.2.2.1 h2 (nI_pos h0) (nI_clamp h0) h1 hkr (Nat.le_trans hm hmr) hdg (fun q cA H1 hK2 a b c => ?_)
  have h5 : s.vm.findClass ("[" ++ (FieldType.long).toString) = some cA := (hK2.2 4 (cA, .long) rfl).2
  have e : tL = cA := Option.some.inj (h4.symm.trans h5)
  rw [← e] at a b
  exact W.widen (Nat.le_refl _) hm (kk q H1 ⟨a, b, c⟩)
theorem r_stL (C : Cx p m c cc nL s args own D tI tB tZ tL X A) (hW : Wd D A s ws H locs) (q0 : Nat) {a n : Nat} {f : Nat → Int64} (ha : ws[q0]? = some (a, .inl (tL, n, .inr (.inl f)))) {i : Int32} {x : Int64} (k : Nat) (hi : i = nI k) (hk : k < n) (hn : n < 2 ^ 31) (hdg : decode cc pc = .ok (.lastore, 1))
    (kk : ∀ (H1 : Heap) (locs1 : List Loc), Wd D A s (ws.set q0 (a, .inl (tL, n, .inr (.inl (vp_updL f k x))))) H1 locs1 → W p l e R s m args below meth c H1 locs1 cells slots Q (F0 m (pc + 1) ls rest)) : W p l e R s m args below meth c H locs cells slots Q (F0 m pc ls (.long x :: .int i :: .ref a :: rest)) := by
  subst hi
  refine va_last C.1.1 C.1.2.1 C.2.1 hW.1 hW.2.1 hW.2.2 q0 3 ha rfl (vp_in_nI hk hn) hdg (fun H1 l1 a b c => ?_)
  rw [nI_clamp (Nat.lt_trans hk hn)] at a b
  exact kk H1 l1 ⟨a, b, c⟩
theorem r_ldL (C : Cx p m c cc nL s args own D tI tB tZ tL X A) (hW : Wd D A s ws H locs) (q0 : Nat) {a n : Nat} {f : Nat → Int64} (ha : ws[q0]? = some (a, .inl (tL, n, .inr (.inl f)))) {i : Int32} (k : Nat) (hi : i = nI k) (hk : k < n) (hn : n < 2 ^ 31) (hdg : decode cc pc = .ok (.laload, 1))
    (kk : W p l e R s m args below meth c H locs cells slots Q (F0 m (pc + 1) ls (.long (f k) :: rest))) : W p l e R s m args below meth c H locs cells slots Q (F0 m pc ls (.int i :: .ref a :: rest)) := by
  subst hi
  refine va_lald C.1.1 C.1.2.1 C.2.1 hW.1 q0 3 ha rfl (vp_in_nI hk hn) hdg ?_
  rw [nI_clamp (Nat.lt_trans hk hn)]
  exact kk
end OwnRows5
/-- the script's numbers, as a fact of the old heap -/
def scAt (b L : Nat) (xs : Nat → Int32) (A : Nat → Prop) (U : State) : Prop := va_X b L xs U U.heap ∧ b < U.heap.size ∧ ¬ A b
section Throwing
variable {p : Program} {l : Launch} {e : Env} {R : Room} {s : State} {m : MethodId} {args : Array Value} {below : List Frame} {meth : Method} {c : Code} {T : State} {locs : List Loc} {cells slots : Nat}
theorem z_fv (u : State) (v : Vm) (F G : List Frame) : ((u.setFrames F).setVm v).setFrames G = (u.setVm v).setFrames G := by
  rw [show (u.setFrames F).setVm v = (u.setVm v).setFrames F from rfl, State.setFrames_setFrames]
/-- a callee threw x over the frame g: the table's one row takes it, its class may still have to be linked -/
theorem z_catch (X : Stand p l e R s m args below meth c T locs cells slots) {own nm : String} (hown : s.vm.findClass own = some m.cls) {g : JFrame} (hg : g.method = m) {a : Addr} {cell : Cell} (hcell : T.heap[a]? = some cell) (hobj : cell.vm.isStatics = false) (x : ExceptionTableEntry) (htab : c.exceptionTable.toList = [x]) (hcov : covers x g.pc = true) (h0 : x.catchType ≠ 0) (hlink : (Cond.classLink own x.catchType nm).before args s = true) (hcT : s.vm.findClass nm = some cell.cls) (hfit : s.vm.assignable cell.cls cell.cls = true) :
    ∃ vm', Stand p l e R s m args below meth c (T.setVm vm') locs cells slots ∧ ∀ target, Steps p.tables e below ((T.setVm vm').setTop { g with pc := x.handlerPc, stack := [.ref a] }) target → Steps p.tables e below ((T.setTop g).pushFrame (.throwing a)) target := by
  subst hg
  have hpl : e.platform.magicAccessors = ({} : Platform).magicAccessors := by rw [X.admits.platform]
  obtain ⟨c', hc', hcl⟩ := Cond.classLink_spec hown hlink e.platform hpl
  cases hcT.symm.trans hc'
  obtain ⟨dk, _, _, kt, hd, _, _, _, _, hkt, _, hopen⟩ := hcl.here
  obtain ⟨kt', hkt', -⟩ := X.warmed.alike.2.2 _ _ hkt
  have hlT : T.vm.ClassLinks e.platform g.method.cls x.catchType cell.cls := X.warmed.classLinks hcl
  have hfT : T.vm.assignable cell.cls cell.cls = true := by rw [X.warmed.alike.assignable]; exact hfit
  obtain ⟨vm', hvm'⟩ : ∃ v, v = T.vm.noted g.method.cls x.catchType (.cls cell.cls) := ⟨_, rfl⟩
  have hW' : s.WarmedH vm' := by rw [hvm']; exact X.warmed.noted hd hopen (State.rightAt_cls hcl)
  obtain ⟨S, hS⟩ : ∃ S, S = (T.setTop g).pushFrame (.throwing a) := ⟨_, rfl⟩
  have hSv : S.vm = T.vm := by rw [hS]; exact Stand.throwing_vm T g a
  have hSh : S.heap = T.heap := by rw [hS]; exact Stand.throwing_heap T g a
  have hfind : ∀ (Q : Handler → Pre) (E : CtlPost) (d : Bool) (acts : List Action), wp (findHandler g a) Q E e d acts S ↔ Q (.found x.handlerPc) d acts (S.setVm vm') := by
    intro Q E d acts
    rw [W.findHandler_eq (meth := meth) (code := c) (by rw [hSv]; exact X.method') X.code, htab]
    have hcv := hcov
    simp only [covers] at hcv
    obtain ⟨ha, hta⟩ := (resolveClass_links (vm := S.vm) e.toSetting (by rw [hSv]; exact hlT)).op (op := VmOp.resolveClass g.method.cls x.catchType) rfl
    have hal : S.vm.Alike (S.vm.noted g.method.cls x.catchType (.cls cell.cls)) := (Vm.Alike.refl S.vm).noted _ _ _
    obtain ⟨k2, hk2, -⟩ := hal.2.2 _ _ (show S.vm.classes[cell.cls]? = some kt' by rw [hSv]; exact hkt')
    have hft : (S.vm.noted g.method.cls x.catchType (.cls cell.cls)).assignable cell.cls cell.cls = true := by rw [hal.assignable, hSv]; exact hfT
    have hcS : S.heap[a]? = some cell := by rw [hSh]; exact hcell
    have hob : ∀ k, cell.vm ≠ .statics k := VmData.ne_statics_of hobj
    rw [hvm', ← hSv]
    simp [findHandler.go, hcv, h0, ha, hta, hcS, hob, hk2, hft, VmOp.dirties, VmOp.acts]
  refine ⟨vm', X.noted hW', fun target hrest => ?_⟩
  obtain ⟨hgo, hw⟩ := X.here.throwing (g := g) a
  obtain ⟨g₀, hg0⟩ := Option.isSome_iff_exists.mp X.here.top
  obtain ⟨r, hr⟩ := State.topJava?_eq_some.mp hg0
  have hstep : (stepThrowing e S a (.java g :: r)).Is ((S.setVm vm').setFrames (.java { g with pc := x.handlerPc, stack := [.ref a] } :: r)) [] := by
    simp only [stepThrowing, searchFrame, vmDo]
    generalize hres : Sem.go _ e false [] S = res
    obtain ⟨as, rfl, ha⟩ := Sem.eq_ok_of hres (a := Handler.found x.handlerPc) (s' := S.setVm vm') (acts' := []) (by simp [hfind _ _ _ _])
    exact ⟨rfl, ha⟩
  refine Steps.head hgo hw ?_
  have hfr : T.frames.tail = r := by rw [hr]; rfl
  rw [stepThread_throwing (frames_entered X.here.top _), hfr, ← hS, hstep.1]
  have hr2 : (T.setVm vm').frames = .java g₀ :: r := hr
  rw [State.setTop_of_frames _ hr2] at hrest
  rw [hS, State.pushFrame, State.setTop_of_frames _ hr, State.setFrames_setFrames, z_fv]
  exact hrest
end Throwing
