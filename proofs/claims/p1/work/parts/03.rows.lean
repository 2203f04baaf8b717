/-! ===== own rows over the kit's: one bundle for what never changes in a method (Cx), one for the world (Wd), one form of contract (CtV, CtI) ===== -/
abbrev tyL (tI tB tZ tL : ClassId) : List (ClassId × FieldType) := [(tI, .int), (tB, .byte), (tZ, .boolean), (tL, .long)]
def wT (y : MethodName) (cd : ByteArray) (n : Nat) (ret : Option FieldType) : List Cond := .code y cd n ret :: lwG
theorem gT {y : MethodName} {cd : ByteArray} {n : Nat} {r : Option FieldType} (h : Cond.code y cd n r ∈ lwG) : GoodIn lwG (wT y cd n r) := fun w hw => by
  have hm : w ∈ lwG := (List.mem_cons.mp hw).elim (fun e => by rw [e]; exact h) (fun h' => h')
  exact ⟨hm, good_of_word (List.mem_filter.mp hm).2⟩
/-- facts of the old heap that nobody writes to -/
def Ro (X : (Nat → Prop) → State → Prop) : Prop := ∀ (A A' : Nat → Prop) (s U : State), X A s → (∀ q, A' q → A q) → (∀ q : Nat, q < s.heap.size → ¬ A q → U.heap[q]? = s.heap[q]?) → s.WarmedH U.vm → X A' U
def Cx (p : Program) (m : MethodId) (c : Code) (cc : ByteArray) (nL : Nat) (s : State) (args : Array Value) (own : String) (D : va_G) (tI tB tZ tL : ClassId) (X : (Nat → Prop) → State → Prop) (A : Nat → Prop) : Prop :=
  CallFix p m c cc nL s args lwG own ∧ va_K D vC (tyL tI tB tZ tL) s ∧ (∀ q : Nat, s.heap.size ≤ q → A q) ∧ X A s ∧ Ro X
def Wd (D : va_G) (A : Nat → Prop) (s : State) (ws : va_W) (H : Heap) (locs : List Loc) : Prop := va_P D vC ws H ∧ va_D A ws ∧ va_S A s.heap H locs
def cPre (D : va_G) (tI tB tZ tL : ClassId) (X : (Nat → Prop) → State → Prop) (ws : va_W) (sz : Nat) (U : State) : Prop := U.heap.size = sz ∧ va_P D vC ws U.heap ∧ va_K D vC (tyL tI tB tZ tL) U ∧ va_D (fun _ => True) ws ∧ X (va_A ws sz) U
def cPost {S : Type} (D : va_G) (tI tB tZ tL : ClassId) (A : Nat → Prop) (w1 : S → va_W) (u : S) (t : State) : Prop := va_P D vC (w1 u) t.heap ∧ va_K D vC (tyL tI tB tZ tL) t ∧ va_D A (w1 u)
/-- a contract of a method that answers nothing -/
def CtV (l : Launch) (D : va_G) (tI tB tZ tL : ClassId) (X : (Nat → Prop) → State → Prop) (y : MethodName) (cd : ByteArray) (n : Nat) (rm : Room) (av : List Value) (ws : va_W) {S : Type} (post : S → Prop) (w1 : S → va_W) : Prop :=
  ∀ sz : Nat, Met l y (wT y cd n none) rm (va_Pc av (cPre D tI tB tZ tL X ws sz)) (va_Qv post (cPost D tI tB tZ tL (va_A ws sz) w1) (va_A ws sz)) rm.cells rm.slots (va_A ws sz)
/-- a contract of a method that answers an int (or a boolean, ..: ret says it) -/
def CtI (l : Launch) (D : va_G) (tI tB tZ tL : ClassId) (X : (Nat → Prop) → State → Prop) (y : MethodName) (cd : ByteArray) (n : Nat) (ret : FieldType) (rm : Room) (av : List Value) (ws : va_W) {S : Type} (post : Int32 → S → Prop) (w1 : S → va_W) : Prop :=
  ∀ sz : Nat, Met l y (wT y cd n (some ret)) rm (va_Pc av (cPre D tI tB tZ tL X ws sz)) (va_Qi post (cPost D tI tB tZ tL (va_A ws sz) w1) (va_A ws sz)) rm.cells rm.slots (va_A ws sz)
theorem CtV.start {l : Launch} {D : va_G} {tI tB tZ tL : ClassId} {X : (Nat → Prop) → State → Prop} {y : MethodName} {cd : ByteArray} {n : Nat} {rm : Room} {av : List Value} {ws : va_W} {S : Type} {post : S → Prop} {w1 : S → va_W} (hX : Ro X) (hy : plainName y.cls = true) (hn : (lg_sl av).length ≤ n)
    (body : ∀ (p : Program) (e : Env) (s : State) (m : MethodId) (args : Array Value) (below : List Frame) (meth : Method) (c : Code) (A : Nat → Prop) (ls : Array Slot), Cx p m c cd n s args y.cls D tI tB tZ tL X A → meth.sig.returnType = none → meth.locks = false → meth.name = y.name → Wd D A s ws s.heap [] → lv_has ls n (lv_args 0 av) →
      W p l e rm s m args below meth c s.heap [] 0 0 (MQ below (va_Qv post (cPost D tI tB tZ tL A w1) A) args s rm.cells rm.slots A) (F0 m 0 ls [])) : CtV l D tI tB tZ tL X y cd n rm av ws post w1 := by
  intro sz
  refine Met.ofW (cc := cd) (maxL := n) (ret := none) hy rfl ?_
  intro p e s m args below meth c s₁ B hml hv
  obtain ⟨rfl, hsz, hP, hK, hD0, hE⟩ := hv
  subst hsz
  rw [lg_entry_eq]
  exact body p e s m _ below meth c (va_A ws s.heap.size) _ ⟨⟨B.exec, B.bytes, hml, findClass_of_methodNamed B.named, fun w h => atoms_spec (ws := wT y cd n none) B.pre w (List.mem_cons_of_mem _ h)⟩, hK, fun q h => Or.inr h, hE, hX⟩ B.returns B.notSynchronized (name_of_methodNamed B.named B.method).1 ⟨hP, hD0.self (sz := s.heap.size), va_S.rf⟩ (lv_entry av hn)
theorem CtI.start {l : Launch} {D : va_G} {tI tB tZ tL : ClassId} {X : (Nat → Prop) → State → Prop} {y : MethodName} {cd : ByteArray} {n : Nat} {ret : FieldType} {rm : Room} {av : List Value} {ws : va_W} {S : Type} {post : Int32 → S → Prop} {w1 : S → va_W} (hX : Ro X) (hy : plainName y.cls = true) (hn : (lg_sl av).length ≤ n)
    (body : ∀ (p : Program) (e : Env) (s : State) (m : MethodId) (args : Array Value) (below : List Frame) (meth : Method) (c : Code) (A : Nat → Prop) (ls : Array Slot), Cx p m c cd n s args y.cls D tI tB tZ tL X A → meth.sig.returnType = some ret → meth.locks = false → Wd D A s ws s.heap [] → lv_has ls n (lv_args 0 av) →
      W p l e rm s m args below meth c s.heap [] 0 0 (MQ below (va_Qi post (cPost D tI tB tZ tL A w1) A) args s rm.cells rm.slots A) (F0 m 0 ls [])) : CtI l D tI tB tZ tL X y cd n ret rm av ws post w1 := by
  intro sz
  refine Met.ofW (cc := cd) (maxL := n) (ret := some ret) hy rfl ?_
  intro p e s m args below meth c s₁ B hml hv
  obtain ⟨rfl, hsz, hP, hK, hD0, hE⟩ := hv
  subst hsz
  rw [lg_entry_eq]
  exact body p e s m _ below meth c (va_A ws s.heap.size) _ ⟨⟨B.exec, B.bytes, hml, findClass_of_methodNamed B.named, fun w h => atoms_spec (ws := wT y cd n (some ret)) B.pre w (List.mem_cons_of_mem _ h)⟩, hK, fun q h => Or.inr h, hE, hX⟩ B.returns B.notSynchronized ⟨hP, hD0.self (sz := s.heap.size), va_S.rf⟩ (lv_entry av hn)
section OwnRows
variable {p : Program} {l : Launch} {e : Env} {R : Room} {s : State} {m : MethodId} {args : Array Value} {below : List Frame} {meth : Method} {c : Code} {H : Heap} {locs : List Loc} {cells slots : Nat} {Q : State → Prop} {cc : ByteArray} {nL : Nat} {own : String} {D : va_G} {tI tB tZ tL : ClassId} {X : (Nat → Prop) → State → Prop} {A : Nat → Prop} {ws : va_W} {ls : Array Slot} {rest : List Value} {pc : Nat}
theorem r_vret {S : Type} {post : S → Prop} {w1 : S → va_W} {mc ms : Nat} (C : Cx p m c cc nL s args own D tI tB tZ tL X A) (hr : meth.sig.returnType = none) (hlk : meth.locks = false) (hW : Wd D A s ws H locs) (u : S) (hpost : post u) (is : List Nat) (hnd : va_nd is = true) (hsub : is.map (fun i => ws[i]?) = (w1 u).map some) (hdg : decode cc pc = .ok (.return_, 1)) (hc : cells ≤ mc) (hs : slots ≤ ms) :
    W p l e R s m args below meth c H locs cells slots (MQ below (va_Qv post (cPost D tI tB tZ tL A w1) A) args s mc ms A) (F0 m pc ls []) :=
  W.widen hc hs (W.vret C.1.1 C.1.2.1 hr (fun t ht hw => ⟨⟨u, rfl, hpost, by rw [ht]; exact hW.1.sub is (by
    have e := congrArg (fun x : List (Option (Nat × va_E)) => x.filterMap id) hsub
    simpa [List.filterMap_map] using e), va_K.moved hw.alike C.2.1, hW.2.1.sub is hnd hsub⟩, hW.2.2.F ht⟩) hW.2.2.2.2 hdg hlk)
theorem r_iret {S : Type} {post : Int32 → S → Prop} {w1 : S → va_W} {mc ms : Nat} {v : Int32} {ty : FieldType} (C : Cx p m c cc nL s args own D tI tB tZ tL X A) (hr : meth.sig.returnType = some ty) (hlk : meth.locks = false) (hW : Wd D A s ws H locs) (hnar : narrow ty (.int v) = .int v) (u : S) (hpost : post v u) (is : List Nat) (hnd : va_nd is = true) (hsub : is.map (fun i => ws[i]?) = (w1 u).map some) (hdg : decode cc pc = .ok (.ireturn, 1)) (hc : cells ≤ mc) (hs : slots ≤ ms) :
    W p l e R s m args below meth c H locs cells slots (MQ below (va_Qi post (cPost D tI tB tZ tL A w1) A) args s mc ms A) (F0 m pc ls [.int v]) :=
  W.widen hc hs (W.zret C.1.1 C.1.2.1 hr hnar (fun t ht hw => ⟨⟨v, u, rfl, hpost, by rw [ht]; exact hW.1.sub is (by
    have e := congrArg (fun x : List (Option (Nat × va_E)) => x.filterMap id) hsub
    simpa [List.filterMap_map] using e), va_K.moved hw.alike C.2.1, hW.2.1.sub is hnd hsub⟩, hW.2.2.F ht⟩) hW.2.2.2.2 hdg hlk)
theorem r_get (C : Cx p m c cc nL s args own D tI tB tZ tL X A) (hW : Wd D A s ws H locs) (q0 : Nat) {a ci : Nat} {fs : List Value} {Cn : String} {T : u_T} {N : Nat} (he : ws[q0]? = some (a, .inr (ci, fs))) (hc : vC[ci]? = some (Cn, T, N)) (hin : ∀ w ∈ u_ws Cn T N, w ∈ lwG) (k : Nat) (hk : k < N) {v : Value} (hv : fs[k]? = some v) {index : Nat} (hl : Cond.fieldLink own index (T k).1 (T k).2.1 (T k).2.2.1 ∈ lwG) (hdg : decode cc pc = .ok (.getfield index, 3))
    (kk : W p l e R s m args below meth c H locs cells slots Q (F0 m (pc + 3) ls (v :: rest))) : W p l e R s m args below meth c H locs cells slots Q (F0 m pc ls (.ref a :: rest)) :=
  va_get C.1.1 C.1.2.1 C.1.2.2.2.2 hin C.1.2.2.2.1 C.2.1 hW.1 q0 he hc k hk (C.1.2.2.2.2 _ hl) (fun _ h => h) hv hdg kk
theorem r_put (C : Cx p m c cc nL s args own D tI tB tZ tL X A) (hW : Wd D A s ws H locs) (q0 : Nat) {a ci : Nat} {fs : List Value} {Cn : String} {T : u_T} {N : Nat} (he : ws[q0]? = some (a, .inr (ci, fs))) (hc : vC[ci]? = some (Cn, T, N)) (hin : ∀ w ∈ u_ws Cn T N, w ∈ lwG) (ty0 : Nat → FieldType) (hty : ∀ k, k < N → parseFieldDescriptor (T k).2.2.1 = some (ty0 k)) (hnm : ∀ a, a < N → ∀ b, b < N → a ≠ b → (T a).2.1 ≠ (T b).2.1) (k : Nat) (hk : k < N) {index : Nat} (hl : Cond.fieldLink own index (T k).1 (T k).2.1 (T k).2.2.1 ∈ lwG) (hfin : (T k).2.2.2 = false) {ty : FieldType} {v : Value} (hpd : parseFieldDescriptor (T k).2.2.1 = some ty) (hnar : narrow ty v = v) (hfit : fits ty v = true) (hlen : k < fs.length) (hdg : decode cc pc = .ok (.putfield index, 3))
    (kk : ∀ (H1 : Heap) (locs1 : List Loc), Wd D A s (ws.set q0 (a, .inr (ci, fs.set k v))) H1 locs1 → W p l e R s m args below meth c H1 locs1 cells slots Q (F0 m (pc + 3) ls rest)) : W p l e R s m args below meth c H locs cells slots Q (F0 m pc ls (v :: .ref a :: rest)) :=
  va_put C.1.1 C.1.2.1 C.1.2.2.2.2 hin ty0 hty hnm C.1.2.2.2.1 C.2.1 hW.1 hW.2.1 hW.2.2 q0 he hc k hk (C.1.2.2.2.2 _ hl) (fun _ h => h) hfin hpd hnar hfit hlen hdg (fun H1 l1 a b c => kk H1 l1 ⟨a, b, c⟩)
theorem r_putF (C : Cx p m c cc nL s args own D tI tB tZ tL X A) (hW : Wd D A s ws H locs) (q0 : Nat) {a ci : Nat} {fs : List Value} {Cn : String} {T : u_T} {N : Nat} (he : ws[q0]? = some (a, .inr (ci, fs))) (hc : vC[ci]? = some (Cn, T, N)) (hin : ∀ w ∈ u_ws Cn T N, w ∈ lwG) (ty0 : Nat → FieldType) (hty : ∀ k, k < N → parseFieldDescriptor (T k).2.2.1 = some (ty0 k)) (hnm : ∀ a, a < N → ∀ b, b < N → a ≠ b → (T a).2.1 ≠ (T b).2.1) (k : Nat) (hk : k < N) {index : Nat} (hl : Cond.fieldLink own index (T k).1 (T k).2.1 (T k).2.2.1 ∈ lwG) (hfin : (T k).2.2.2 = true) (hinit : meth.name = "<init>") (hown : (T k).1 = own) {ty : FieldType} {v : Value} (hpd : parseFieldDescriptor (T k).2.2.1 = some ty) (hnar : narrow ty v = v) (hfit : fits ty v = true) (hlen : k < fs.length) (hdg : decode cc pc = .ok (.putfield index, 3))
    (kk : ∀ (H1 : Heap) (locs1 : List Loc), Wd D A s (ws.set q0 (a, .inr (ci, fs.set k v))) H1 locs1 → W p l e R s m args below meth c H1 locs1 cells slots Q (F0 m (pc + 3) ls rest)) : W p l e R s m args below meth c H locs cells slots Q (F0 m pc ls (v :: .ref a :: rest)) :=
  va_putF C.1.1 C.1.2.1 C.1.2.2.2.2 hin ty0 hty hnm C.1.2.2.2.1 C.2.1 hW.1 hW.2.1 hW.2.2 q0 he hc k hk (C.1.2.2.2.2 _ hl) (fun _ h => h) hfin hinit hown hpd hnar hfit hlen hdg (fun H1 l1 a b c => kk H1 l1 ⟨a, b, c⟩)
theorem r_ild (C : Cx p m c cc nL s args own D tI tB tZ tL X A) (hW : Wd D A s ws H locs) (q0 : Nat) {a n : Nat} {f : Nat → Int32} (ha : ws[q0]? = some (a, .inl (tI, n, .inl f))) {i v : Int32} (hin : vp_in i n) (hv : f i.toNatClampNeg = v) (hdg : decode cc pc = .ok (.iaload, 1))
    (kk : W p l e R s m args below meth c H locs cells slots Q (F0 m (pc + 1) ls (.int v :: rest))) : W p l e R s m args below meth c H locs cells slots Q (F0 m pc ls (.int i :: .ref a :: rest)) :=
  va_iald C.1.1 C.1.2.1 C.2.1 hW.1 q0 0 ha rfl hin hdg (by rw [hv]; exact kk)
theorem r_bld (C : Cx p m c cc nL s args own D tI tB tZ tL X A) (hW : Wd D A s ws H locs) (q0 : Nat) {a n : Nat} {f : Nat → Int32} (ha : ws[q0]? = some (a, .inl (tB, n, .inl f))) {i v : Int32} (hin : vp_in i n) (hv : f i.toNatClampNeg = v) (hdg : decode cc pc = .ok (.baload, 1))
    (kk : W p l e R s m args below meth c H locs cells slots Q (F0 m (pc + 1) ls (.int v :: rest))) : W p l e R s m args below meth c H locs cells slots Q (F0 m pc ls (.int i :: .ref a :: rest)) :=
  va_bald C.1.1 C.1.2.1 C.2.1 hW.1 q0 1 ha rfl hin hdg (by rw [hv]; exact kk)
theorem r_zld (C : Cx p m c cc nL s args own D tI tB tZ tL X A) (hW : Wd D A s ws H locs) (q0 : Nat) {a n : Nat} {f : Nat → Int32} (ha : ws[q0]? = some (a, .inl (tZ, n, .inl f))) {i v : Int32} (hin : vp_in i n) (hv : f i.toNatClampNeg = v) (hdg : decode cc pc = .ok (.baload, 1))
    (kk : W p l e R s m args below meth c H locs cells slots Q (F0 m (pc + 1) ls (.int v :: rest))) : W p l e R s m args below meth c H locs cells slots Q (F0 m pc ls (.int i :: .ref a :: rest)) :=
  va_zald C.1.1 C.1.2.1 C.2.1 hW.1 q0 2 ha rfl hin hdg (by rw [hv]; exact kk)
theorem r_ist (C : Cx p m c cc nL s args own D tI tB tZ tL X A) (hW : Wd D A s ws H locs) (q0 : Nat) {a n : Nat} {f : Nat → Int32} (ha : ws[q0]? = some (a, .inl (tI, n, .inl f))) {i x : Int32} (hin : vp_in i n) (hdg : decode cc pc = .ok (.iastore, 1))
    (kk : ∀ (H1 : Heap) (locs1 : List Loc), Wd D A s (ws.set q0 (a, .inl (tI, n, .inl (upd f i.toNatClampNeg x)))) H1 locs1 → W p l e R s m args below meth c H1 locs1 cells slots Q (F0 m (pc + 1) ls rest)) : W p l e R s m args below meth c H locs cells slots Q (F0 m pc ls (.int x :: .int i :: .ref a :: rest)) :=
  va_iast C.1.1 C.1.2.1 C.2.1 hW.1 hW.2.1 hW.2.2 q0 0 ha rfl hin hdg (fun H1 l1 a b c => kk H1 l1 ⟨a, b, c⟩)
theorem r_bst (C : Cx p m c cc nL s args own D tI tB tZ tL X A) (hW : Wd D A s ws H locs) (q0 : Nat) {a n : Nat} {f : Nat → Int32} (ha : ws[q0]? = some (a, .inl (tB, n, .inl f))) {i x : Int32} (hin : vp_in i n) (hdg : decode cc pc = .ok (.bastore, 1))
    (kk : ∀ (H1 : Heap) (locs1 : List Loc), Wd D A s (ws.set q0 (a, .inl (tB, n, .inl (upd f i.toNatClampNeg (vp_nar .byte x))))) H1 locs1 → W p l e R s m args below meth c H1 locs1 cells slots Q (F0 m (pc + 1) ls rest)) : W p l e R s m args below meth c H locs cells slots Q (F0 m pc ls (.int x :: .int i :: .ref a :: rest)) :=
  va_bast C.1.1 C.1.2.1 C.2.1 hW.1 hW.2.1 hW.2.2 q0 1 ha rfl hin hdg (fun H1 l1 a b c => kk H1 l1 ⟨a, b, c⟩)
theorem r_zst (C : Cx p m c cc nL s args own D tI tB tZ tL X A) (hW : Wd D A s ws H locs) (q0 : Nat) {a n : Nat} {f : Nat → Int32} (ha : ws[q0]? = some (a, .inl (tZ, n, .inl f))) {i x : Int32} (hin : vp_in i n) (hdg : decode cc pc = .ok (.bastore, 1))
    (kk : ∀ (H1 : Heap) (locs1 : List Loc), Wd D A s (ws.set q0 (a, .inl (tZ, n, .inl (upd f i.toNatClampNeg (vp_nar .boolean x))))) H1 locs1 → W p l e R s m args below meth c H1 locs1 cells slots Q (F0 m (pc + 1) ls rest)) : W p l e R s m args below meth c H locs cells slots Q (F0 m pc ls (.int x :: .int i :: .ref a :: rest)) :=
  va_zast C.1.1 C.1.2.1 C.2.1 hW.1 hW.2.1 hW.2.2 q0 2 ha rfl hin hdg (fun H1 l1 a b c => kk H1 l1 ⟨a, b, c⟩)
theorem r_len (C : Cx p m c cc nL s args own D tI tB tZ tL X A) (hW : Wd D A s ws H locs) (q0 t0 : Nat) {a : Nat} {cA : ClassId} {x : vp_A} {ty : FieldType} (ha : ws[q0]? = some (a, .inl (cA, x))) (ht : (tyL tI tB tZ tL)[t0]? = some (cA, ty)) (hdg : decode cc pc = .ok (.arraylength, 1))
    (kk : W p l e R s m args below meth c H locs cells slots Q (F0 m (pc + 1) ls (.int (nI x.1) :: rest))) : W p l e R s m args below meth c H locs cells slots Q (F0 m pc ls (.ref a :: rest)) :=
  va_alen C.1.1 C.1.2.1 C.2.1 hW.1 q0 t0 ha ht rfl hdg kk
theorem r_newI (C : Cx p m c cc nL s args own D tI tB tZ tL X A) (hW : Wd D A s ws H locs) {n : Int32} (N : Nat) (hn : n = nI N) (hN : N ≤ 134217728) {K M : Nat} (hk : cells + 1 = K) (hkr : K ≤ R.cells) (hm : slots + N ≤ M) (hmr : M ≤ R.slots) (hdg : decode cc pc = .ok (.newarray .int, 2))
    (kk : ∀ (q : Nat) (H1 : Heap), Wd D A s (ws ++ [(q, .inl (tI, N, .inl (fun _ => 0)))]) H1 locs → W p l e R s m args below meth c H1 locs K M Q (F0 m (pc + 2) ls (.ref q :: rest))) : W p l e R s m args below meth c H locs cells slots Q (F0 m pc ls (.int n :: rest)) := by
  subst hk; subst hn
  have h0 : N < 2 ^ 31 := Nat.lt_of_le_of_lt hN (by decide)
  have h1 : N * componentBytes FieldType.int ≤ 536870912 := Nat.le_trans (Nat.mul_le_mul_right 4 hN) (by decide)
  have h2 : ∀ cA : ClassId, vp_cell cA (N, .inl (fun _ => (0 : Int32))) = arrV cA N (fun _ => defaultValue .int) := fun _ => rfl
  have h3 : (Cond.arrayClass .int).before args s = true := C.1.2.2.2.2 _ w_arrI
  have h4 : s.vm.findClass ("[" ++ (FieldType.int).toString) = some tI := (C.2.1.2 0 (tI, .int) rfl).2
  refine va_newa (atype := .int) (D := D) (cl := vC) (ty := .int) (N' := N) (a0 := (N, .inl (fun _ => (0 : Int32)))) C.1.1 C.1.2.1 h3 rfl C.2.1 hW.1 hW.2.1 hW.2.2 C.2.2.1 h2 (nI_pos h0) (nI_clamp h0) h1 hkr (Nat.le_trans hm hmr) hdg (fun q cA H1 hK2 a b c => ?_)
  have h5 : s.vm.findClass ("[" ++ (FieldType.int).toString) = some cA := (hK2.2 4 (cA, .int) rfl).2
  have e : tI = cA := Option.some.inj (h4.symm.trans h5)
  rw [← e] at a b
  exact W.widen (Nat.le_refl _) hm (kk q H1 ⟨a, b, c⟩)
theorem r_newB (C : Cx p m c cc nL s args own D tI tB tZ tL X A) (hW : Wd D A s ws H locs) {n : Int32} (N : Nat) (hn : n = nI N) (hN : N ≤ 134217728) {K M : Nat} (hk : cells + 1 = K) (hkr : K ≤ R.cells) (hm : slots + N ≤ M) (hmr : M ≤ R.slots) (hdg : decode cc pc = .ok (.newarray .byte, 2))
    (kk : ∀ (q : Nat) (H1 : Heap), Wd D A s (ws ++ [(q, .inl (tB, N, .inl (fun _ => 0)))]) H1 locs → W p l e R s m args below meth c H1 locs K M Q (F0 m (pc + 2) ls (.ref q :: rest))) : W p l e R s m args below meth c H locs cells slots Q (F0 m pc ls (.int n :: rest)) := by
  subst hk; subst hn
  have h0 : N < 2 ^ 31 := Nat.lt_of_le_of_lt hN (by decide)
  have h1 : N * componentBytes FieldType.byte ≤ 536870912 := Nat.le_trans (Nat.mul_le_mul_right 1 hN) (by decide)
  have h2 : ∀ cA : ClassId, vp_cell cA (N, .inl (fun _ => (0 : Int32))) = arrV cA N (fun _ => defaultValue .byte) := fun _ => rfl
  have h3 : (Cond.arrayClass .byte).before args s = true := C.1.2.2.2.2 _ w_arrB
  have h4 : s.vm.findClass ("[" ++ (FieldType.byte).toString) = some tB := (C.2.1.2 1 (tB, .byte) rfl).2
  refine va_newa (atype := .byte) (D := D) (cl := vC) (ty := .byte) (N' := N) (a0 := (N, .inl (fun _ => (0 : Int32)))) C.1.1 C.1.2.1 h3 rfl C.2.1 hW.1 hW.2.1 hW.2.2 C.2.2.1 h2 (nI_pos h0) (nI_clamp h0) h1 hkr (Nat.le_trans hm hmr) hdg (fun q cA H1 hK2 a b c => ?_)
  have h5 : s.vm.findClass ("[" ++ (FieldType.byte).toString) = some cA := (hK2.2 4 (cA, .byte) rfl).2
  have e : tB = cA := Option.some.inj (h4.symm.trans h5)
  rw [← e] at a b
  exact W.widen (Nat.le_refl _) hm (kk q H1 ⟨a, b, c⟩)
theorem r_newZ (C : Cx p m c cc nL s args own D tI tB tZ tL X A) (hW : Wd D A s ws H locs) {n : Int32} (N : Nat) (hn : n = nI N) (hN : N ≤ 134217728) {K M : Nat} (hk : cells + 1 = K) (hkr : K ≤ R.cells) (hm : slots + N ≤ M) (hmr : M ≤ R.slots) (hdg : decode cc pc = .ok (.newarray .boolean, 2))
    (kk : ∀ (q : Nat) (H1 : Heap), Wd D A s (ws ++ [(q, .inl (tZ, N, .inl (fun _ => 0)))]) H1 locs → W p l e R s m args below meth c H1 locs K M Q (F0 m (pc + 2) ls (.ref q :: rest))) : W p l e R s m args below meth c H locs cells slots Q (F0 m pc ls (.int n :: rest)) := by
  subst hk; subst hn
  have h0 : N < 2 ^ 31 := Nat.lt_of_le_of_lt hN (by decide)
  have h1 : N * componentBytes FieldType.boolean ≤ 536870912 := Nat.le_trans (Nat.mul_le_mul_right 1 hN) (by decide)
  have h2 : ∀ cA : ClassId, vp_cell cA (N, .inl (fun _ => (0 : Int32))) = arrV cA N (fun _ => defaultValue .boolean) := fun _ => rfl
  have h3 : (Cond.arrayClass .boolean).before args s = true := C.1.2.2.2.2 _ w_arrZ
  have h4 : s.vm.findClass ("[" ++ (FieldType.boolean).toString) = some tZ := (C.2.1.2 2 (tZ, .boolean) rfl).2
  refine va_newa (atype := .boolean) (D := D) (cl := vC) (ty := .boolean) (N' := N) (a0 := (N, .inl (fun _ => (0 : Int32)))) C.1.1 C.1.2.1 h3 rfl C.2.1 hW.1 hW.2.1 hW.2.2 C.2.2.1 h2 (nI_pos h0) (nI_clamp h0) h1 hkr (Nat.le_trans hm hmr) hdg (fun q cA H1 hK2 a b c => ?_)
  have h5 : s.vm.findClass ("[" ++ (FieldType.boolean).toString) = some cA := (hK2.2 4 (cA, .boolean) rfl).2
  have e : tZ = cA := Option.some.inj (h4.symm.trans h5)
  rw [← e] at a b
  exact W.widen (Nat.le_refl _) hm (kk q H1 ⟨a, b, c⟩)
theorem r_new (C : Cx p m c cc nL s args own D tI tB tZ tL X A) (hW : Wd D A s ws H locs) {Cn : String} {T : u_T} {N ci index : Nat} (hc : vC[ci]? = some (Cn, T, N)) (hin : ∀ w ∈ u_ws Cn T N, w ∈ lwG) (ty : Nat → FieldType) (hty : ∀ k, k < N → parseFieldDescriptor (T k).2.2.1 = some (ty k)) (hcl : Cond.classLink own index Cn ∈ lwG) (hinst : Cond.instantiable Cn N ∈ lwG) (hini : Cond.initialized Cn ∈ lwG) (fs : List Value) (hfs : ∀ j, j < N → defaultValue (ty j) = vp_V fs j) {K M : Nat} (hk : cells + 1 = K) (hkr : K ≤ R.cells) (hm : slots + N ≤ M) (hmr : M ≤ R.slots) (hdg : decode cc pc = .ok (.new index, 3))
    (kk : ∀ (q : Nat) (H1 : Heap), Wd D A s (ws ++ [(q, .inr (ci, fs))]) H1 locs → W p l e R s m args below meth c H1 locs K M Q (F0 m (pc + 3) ls (.ref q :: rest))) : W p l e R s m args below meth c H locs cells slots Q (F0 m pc ls rest) := by
  subst hk
  exact va_new C.1.1 C.1.2.1 C.1.2.2.2.2 hin ty hty C.1.2.2.2.1 (C.1.2.2.2.2 _ hcl) (C.1.2.2.2.2 _ hinst) (C.1.2.2.2.2 _ hini) C.2.1 hW.1 hW.2.1 hW.2.2 C.2.2.1 hc hfs hkr (Nat.le_trans hm hmr) hdg (fun q H1 a b c => W.widen (Nat.le_refl _) hm (kk q H1 ⟨a, b, c⟩))
theorem r_objInit (C : Cx p m c cc nL s args own D tI tB tZ tL X A) (hsz : ls.size = nL) {a index : Nat} (hl : Cond.methodLink own index Lib.objectInit ∈ lwG) (hfr : 1 ≤ R.frames) (hlo : (rest.map fun v => v.category).sum + 12 ≤ R.locals) (hdg : decode cc pc = .ok (.invokespecial index, 3))
    (kk : W p l e R s m args below meth c H locs cells slots Q (F0 m (pc + 3) ls rest)) : W p l e R s m args below meth c H locs cells slots Q (F0 m pc ls (.ref a :: rest)) :=
  W.objInit C.1.1 C.1.2.1 C.1.2.2.2.1 (C.1.2.2.2.2 _ hl) (C.1.2.2.2.2 _ w_objI) (C.1.2.2.2.2 _ w_objC) rfl (by rw [C.1.2.2.1]; exact hsz) rfl hdg hfr (by show 2 * 0 + _ + 12 ≤ _; omega) kk
/-- what is known of a method that is called on an object -/
def okV (y : MethodName) (cd : ByteArray) (n : Nat) (ret : Option FieldType) (k : Nat) : Prop := Cond.code y cd n ret ∈ lwG ∧ Cond.instanceMethod y ∈ lwG ∧ Cond.selects y.cls y y ∈ lwG ∧ Cond.initialized y.cls ∈ lwG ∧ (y.cls ≠ "java/lang/invoke/MethodHandle" ∧ y.cls ≠ "java/lang/invoke/VarHandle" ∧ (parseMethodDescriptor y.desc).map (fun d => d.parameters.length) = some k)
def okN (y : MethodName) (cd : ByteArray) (n : Nat) (k : Nat) : Prop := Cond.code y cd n none ∈ lwG ∧ Cond.instanceMethod y ∈ lwG ∧ Cond.initialized y.cls ∈ lwG ∧ y.name = "<init>" ∧ (y.cls ≠ "java/lang/invoke/MethodHandle" ∧ y.cls ≠ "java/lang/invoke/VarHandle" ∧ (parseMethodDescriptor y.desc).map (fun d => d.parameters.length) = some k)
def okS (y : MethodName) (cd : ByteArray) (n : Nat) (ret : Option FieldType) (k : Nat) : Prop := Cond.code y cd n ret ∈ lwG ∧ Cond.static y ∈ lwG ∧ Cond.initialized y.cls ∈ lwG ∧ (y.cls ≠ "java/lang/invoke/MethodHandle" ∧ y.cls ≠ "java/lang/invoke/VarHandle" ∧ (parseMethodDescriptor y.desc).map (fun d => d.parameters.length) = some k)
theorem c_pre_blind {av : List Value} {wc : va_W} {sz : Nat} (hX : Ro X) : FrameBlind (va_Pc av (cPre D tI tB tZ tL X wc sz)) := fun a U g mk q => by
  obtain ⟨q0, q1, qP, qK, qD, qX⟩ := q
  exact ⟨q0, q1, qP, va_K.moved (u := U) (U := U.calling g mk a) (Vm.Alike.refl U.vm) qK, qD, hX _ _ U (U.calling g mk a) qX (fun _ h => h) (fun _ _ _ => rfl) (State.WarmedH.refl U)⟩
theorem c_pre_at {av : List Value} {wc : va_W} (C : Cx p m c cc nL s args own D tI tB tZ tL X A) (hW : Wd D A s ws H locs) (isC : List Nat) (hnC : va_nd isC = true) (hC : isC.map (fun i => ws[i]?) = wc.map some) : ∀ U : State, U.heap = H → s.WarmedH U.vm → va_Pc av (cPre D tI tB tZ tL X wc H.size) av.toArray U := fun U hU hw =>
  ⟨rfl, by rw [hU], by rw [hU]; exact hW.1.sub isC (by
    have e := congrArg (fun x : List (Option (Nat × va_E)) => x.filterMap id) hC
    simpa [List.filterMap_map] using e), va_K.moved hw.alike C.2.1, (hW.2.1.sub isC hnC hC).weaken (fun _ _ _ _ => trivial), C.2.2.2.2 A _ s U C.2.2.2.1 (va_free hW.2.1 hW.2.2 C.2.2.1 isC hC) (fun q h1 h2 => by rw [hU]; exact hW.2.2.2.1 q h1 h2) hw⟩
theorem r_callV {S : Type} {post : S → Prop} {w1 : S → va_W} {y : MethodName} {cd : ByteArray} {n b index : Nat} {rm : Room} {wc wr : va_W} {st : List Value} (As : List Value) (rest : List Value) (C : Cx p m c cc nL s args own D tI tB tZ tL X A) (hsz : ls.size = nL) (hW : Wd D A s ws H locs) (hM : CtV l D tI tB tZ tL X y cd n rm (.ref b :: As) wc post w1) (ok : okV y cd n none As.length) (hl : Cond.methodLink own index y ∈ lwG)
    (isC isR : List Nat) (hC : isC.map (fun i => ws[i]?) = wc.map some) (hR : isR.map (fun i => ws[i]?) = wr.map some) (hnC : va_nd isC = true) (hnR : va_nd isR = true) (hdis : ∀ i ∈ isR, i ∉ isC) (q0 : Nat) {ci : Nat} {fs : List Value} {T : u_T} {N : Nat} (he : wc[q0]? = some (b, .inr (ci, fs))) (hc : vC[ci]? = some (y.cls, T, N))
    (hst : st = As.reverse ++ .ref b :: rest) (hro : rm.frames + 1 ≤ R.frames ∧ 8 + (n + 11) + rm.locals ≤ R.locals) (hw8 : (rest.map fun v => v.category).sum ≤ 8) (hf : cells + rm.cells ≤ R.cells ∧ slots + rm.slots ≤ R.slots) (hdg : decode cc pc = .ok (.invokevirtual index, 3))
    (kk : ∀ (u : S) (H1 : Heap) (locs1 : List Loc), post u → Wd D A s (wr ++ w1 u) H1 locs1 → W p l e R s m args below meth c H1 locs1 (cells + rm.cells) (slots + rm.slots) Q (F0 m (pc + 3) ls rest)) : W p l e R s m args below meth c H locs cells slots Q (F0 m pc ls st) := by
  have hFc := va_free hW.2.1 hW.2.2 C.2.2.1 isC hC
  refine va_callv (va_runV (C := y.cls) (As := As) (rest := rest) (n := As.length) C.1 (hM H.size) ⟨callB_of As.length C.1.2.2.2.2 (gT ok.1) rfl rfl rfl (C.1.2.2.2.2 _ ok.2.2.2.1) (C.1.2.2.2.2 _ hl) ok.2.2.2.2 hro, C.1.2.2.2.2 _ ok.2.1, C.1.2.2.2.2 _ ok.2.2.1⟩ ⟨c_pre_blind C.2.2.2.2, va_recv C.2.1 (hW.1.sub isC (by
    have e := congrArg (fun x : List (Option (Nat × va_E)) => x.filterMap id) hC
    simpa [List.filterMap_map] using e)) hc he, c_pre_at C hW isC hnC hC⟩ rfl rfl hsz hst (lv_room hw8) hdg hf) hW.2.2 (fun q _ h => hFc q h) hFc (fun u t H1 locs1 ht hvm hw hB hz1 hk1 hS => ?_)
  obtain ⟨hP1, hK1, hD1⟩ := hB
  rw [ht] at hP1
  obtain ⟨hP, hD⟩ := va_join hW.1 hW.2.1 isC isR hC hR hnR hdis hk1 hFc hP1 hD1
  exact kk u H1 locs1 hw ⟨hP, hD, hS⟩
theorem r_callVi {S : Type} {post : Int32 → S → Prop} {w1 : S → va_W} {y : MethodName} {cd : ByteArray} {ret : FieldType} {n b index : Nat} {rm : Room} {wc wr : va_W} {st : List Value} (As : List Value) (rest : List Value) (C : Cx p m c cc nL s args own D tI tB tZ tL X A) (hsz : ls.size = nL) (hW : Wd D A s ws H locs) (hM : CtI l D tI tB tZ tL X y cd n ret rm (.ref b :: As) wc post w1) (ok : okV y cd n (some ret) As.length) (hl : Cond.methodLink own index y ∈ lwG)
    (isC isR : List Nat) (hC : isC.map (fun i => ws[i]?) = wc.map some) (hR : isR.map (fun i => ws[i]?) = wr.map some) (hnC : va_nd isC = true) (hnR : va_nd isR = true) (hdis : ∀ i ∈ isR, i ∉ isC) (q0 : Nat) {ci : Nat} {fs : List Value} {T : u_T} {N : Nat} (he : wc[q0]? = some (b, .inr (ci, fs))) (hc : vC[ci]? = some (y.cls, T, N))
    (hst : st = As.reverse ++ .ref b :: rest) (hro : rm.frames + 1 ≤ R.frames ∧ 8 + (n + 11) + rm.locals ≤ R.locals) (hw8 : (rest.map fun v => v.category).sum ≤ 8) (hf : cells + rm.cells ≤ R.cells ∧ slots + rm.slots ≤ R.slots) (hdg : decode cc pc = .ok (.invokevirtual index, 3))
    (kk : ∀ (r : Int32) (u : S) (H1 : Heap) (locs1 : List Loc), post r u → Wd D A s (wr ++ w1 u) H1 locs1 → W p l e R s m args below meth c H1 locs1 (cells + rm.cells) (slots + rm.slots) Q (F0 m (pc + 3) ls (.int r :: rest))) : W p l e R s m args below meth c H locs cells slots Q (F0 m pc ls st) := by
  have hFc := va_free hW.2.1 hW.2.2 C.2.2.1 isC hC
  refine va_calli (va_runV (C := y.cls) (As := As) (rest := rest) (n := As.length) C.1 (hM H.size) ⟨callB_of As.length C.1.2.2.2.2 (gT ok.1) rfl rfl rfl (C.1.2.2.2.2 _ ok.2.2.2.1) (C.1.2.2.2.2 _ hl) ok.2.2.2.2 hro, C.1.2.2.2.2 _ ok.2.1, C.1.2.2.2.2 _ ok.2.2.1⟩ ⟨c_pre_blind C.2.2.2.2, va_recv C.2.1 (hW.1.sub isC (by
    have e := congrArg (fun x : List (Option (Nat × va_E)) => x.filterMap id) hC
    simpa [List.filterMap_map] using e)) hc he, c_pre_at C hW isC hnC hC⟩ rfl rfl hsz hst (lv_room hw8) hdg hf) hW.2.2 (fun q _ h => hFc q h) hFc (fun r u t H1 locs1 ht hvm hw hB hz1 hk1 hS => ?_)
  obtain ⟨hP1, hK1, hD1⟩ := hB
  rw [ht] at hP1
  obtain ⟨hP, hD⟩ := va_join hW.1 hW.2.1 isC isR hC hR hnR hdis hk1 hFc hP1 hD1
  exact kk r u H1 locs1 hw ⟨hP, hD, hS⟩
theorem r_callN {S : Type} {post : S → Prop} {w1 : S → va_W} {y : MethodName} {cd : ByteArray} {n b index : Nat} {rm : Room} {wc wr : va_W} {st : List Value} (As : List Value) (rest : List Value) (C : Cx p m c cc nL s args own D tI tB tZ tL X A) (hsz : ls.size = nL) (hW : Wd D A s ws H locs) (hM : CtV l D tI tB tZ tL X y cd n rm (.ref b :: As) wc post w1) (ok : okN y cd n As.length) (hl : Cond.methodLink own index y ∈ lwG)
    (isC isR : List Nat) (hC : isC.map (fun i => ws[i]?) = wc.map some) (hR : isR.map (fun i => ws[i]?) = wr.map some) (hnC : va_nd isC = true) (hnR : va_nd isR = true) (hdis : ∀ i ∈ isR, i ∉ isC)
    (hst : st = As.reverse ++ .ref b :: rest) (hro : rm.frames + 1 ≤ R.frames ∧ 8 + (n + 11) + rm.locals ≤ R.locals) (hw8 : (rest.map fun v => v.category).sum ≤ 8) {K M : Nat} (hk : cells + rm.cells ≤ K) (hkr : K ≤ R.cells) (hm : slots + rm.slots ≤ M) (hmr : M ≤ R.slots) (hdg : decode cc pc = .ok (.invokespecial index, 3))
    (kk : ∀ (u : S) (H1 : Heap) (locs1 : List Loc), post u → Wd D A s (wr ++ w1 u) H1 locs1 → W p l e R s m args below meth c H1 locs1 K M Q (F0 m (pc + 3) ls rest)) : W p l e R s m args below meth c H locs cells slots Q (F0 m pc ls st) := by
  have hFc := va_free hW.2.1 hW.2.2 C.2.2.1 isC hC
  refine va_callv (va_runI (As := As) (rest := rest) (n := As.length) C.1 (hM H.size) ⟨callB_of As.length C.1.2.2.2.2 (gT ok.1) rfl rfl rfl (C.1.2.2.2.2 _ ok.2.2.1) (C.1.2.2.2.2 _ hl) ok.2.2.2.2 hro, ok.2.2.2.1, C.1.2.2.2.2 _ ok.2.1⟩ ⟨c_pre_blind C.2.2.2.2, c_pre_at C hW isC hnC hC⟩ rfl rfl hsz hst (lv_room hw8) hdg ⟨Nat.le_trans hk hkr, Nat.le_trans hm hmr⟩) hW.2.2 (fun q _ h => hFc q h) hFc (fun u t H1 locs1 ht hvm hw hB hz1 hk1 hS => ?_)
  obtain ⟨hP1, hK1, hD1⟩ := hB
  rw [ht] at hP1
  obtain ⟨hP, hD⟩ := va_join hW.1 hW.2.1 isC isR hC hR hnR hdis hk1 hFc hP1 hD1
  exact W.widen hk hm (kk u H1 locs1 hw ⟨hP, hD, hS⟩)
theorem r_callS {S : Type} {post : S → Prop} {w1 : S → va_W} {y : MethodName} {cd : ByteArray} {n index : Nat} {rm : Room} {wc wr : va_W} {st : List Value} (As : List Value) (rest : List Value) (C : Cx p m c cc nL s args own D tI tB tZ tL X A) (hsz : ls.size = nL) (hW : Wd D A s ws H locs) (hM : CtV l D tI tB tZ tL X y cd n rm As wc post w1) (ok : okS y cd n none As.length) (hl : Cond.methodLink own index y ∈ lwG)
    (isC isR : List Nat) (hC : isC.map (fun i => ws[i]?) = wc.map some) (hR : isR.map (fun i => ws[i]?) = wr.map some) (hnC : va_nd isC = true) (hnR : va_nd isR = true) (hdis : ∀ i ∈ isR, i ∉ isC)
    (hst : st = As.reverse ++ rest) (hro : rm.frames + 1 ≤ R.frames ∧ 8 + (n + 11) + rm.locals ≤ R.locals) (hw8 : (rest.map fun v => v.category).sum ≤ 8) (hf : cells + rm.cells ≤ R.cells ∧ slots + rm.slots ≤ R.slots) (hdg : decode cc pc = .ok (.invokestatic index, 3))
    (kk : ∀ (u : S) (H1 : Heap) (locs1 : List Loc), post u → Wd D A s (wr ++ w1 u) H1 locs1 → W p l e R s m args below meth c H1 locs1 (cells + rm.cells) (slots + rm.slots) Q (F0 m (pc + 3) ls rest)) : W p l e R s m args below meth c H locs cells slots Q (F0 m pc ls st) := by
  have hFc := va_free hW.2.1 hW.2.2 C.2.2.1 isC hC
  refine va_callv (va_runS (As := As) (rest := rest) (n := As.length) C.1 (hM H.size) ⟨callB_of As.length C.1.2.2.2.2 (gT ok.1) rfl rfl rfl (C.1.2.2.2.2 _ ok.2.2.1) (C.1.2.2.2.2 _ hl) ok.2.2.2 hro, C.1.2.2.2.2 _ ok.2.1⟩ ⟨c_pre_blind C.2.2.2.2, c_pre_at C hW isC hnC hC⟩ rfl rfl hsz hst (lv_room hw8) hdg hf) hW.2.2 (fun q _ h => hFc q h) hFc (fun u t H1 locs1 ht hvm hw hB hz1 hk1 hS => ?_)
  obtain ⟨hP1, hK1, hD1⟩ := hB
  rw [ht] at hP1
  obtain ⟨hP, hD⟩ := va_join hW.1 hW.2.1 isC isR hC hR hnR hdis hk1 hFc hP1 hD1
  exact kk u H1 locs1 hw ⟨hP, hD, hS⟩
theorem r_callSi {S : Type} {post : Int32 → S → Prop} {w1 : S → va_W} {y : MethodName} {cd : ByteArray} {ret : FieldType} {n index : Nat} {rm : Room} {wc wr : va_W} {st : List Value} (As : List Value) (rest : List Value) (C : Cx p m c cc nL s args own D tI tB tZ tL X A) (hsz : ls.size = nL) (hW : Wd D A s ws H locs) (hM : CtI l D tI tB tZ tL X y cd n ret rm As wc post w1) (ok : okS y cd n (some ret) As.length) (hl : Cond.methodLink own index y ∈ lwG)
    (isC isR : List Nat) (hC : isC.map (fun i => ws[i]?) = wc.map some) (hR : isR.map (fun i => ws[i]?) = wr.map some) (hnC : va_nd isC = true) (hnR : va_nd isR = true) (hdis : ∀ i ∈ isR, i ∉ isC)
    (hst : st = As.reverse ++ rest) (hro : rm.frames + 1 ≤ R.frames ∧ 8 + (n + 11) + rm.locals ≤ R.locals) (hw8 : (rest.map fun v => v.category).sum ≤ 8) (hf : cells + rm.cells ≤ R.cells ∧ slots + rm.slots ≤ R.slots) (hdg : decode cc pc = .ok (.invokestatic index, 3))
    (kk : ∀ (r : Int32) (u : S) (H1 : Heap) (locs1 : List Loc), post r u → Wd D A s (wr ++ w1 u) H1 locs1 → W p l e R s m args below meth c H1 locs1 (cells + rm.cells) (slots + rm.slots) Q (F0 m (pc + 3) ls (.int r :: rest))) : W p l e R s m args below meth c H locs cells slots Q (F0 m pc ls st) := by
  have hFc := va_free hW.2.1 hW.2.2 C.2.2.1 isC hC
  refine va_calli (va_runS (As := As) (rest := rest) (n := As.length) C.1 (hM H.size) ⟨callB_of As.length C.1.2.2.2.2 (gT ok.1) rfl rfl rfl (C.1.2.2.2.2 _ ok.2.2.1) (C.1.2.2.2.2 _ hl) ok.2.2.2 hro, C.1.2.2.2.2 _ ok.2.1⟩ ⟨c_pre_blind C.2.2.2.2, c_pre_at C hW isC hnC hC⟩ rfl rfl hsz hst (lv_room hw8) hdg hf) hW.2.2 (fun q _ h => hFc q h) hFc (fun r u t H1 locs1 ht hvm hw hB hz1 hk1 hS => ?_)
  obtain ⟨hP1, hK1, hD1⟩ := hB
  rw [ht] at hP1
  obtain ⟨hP, hD⟩ := va_join hW.1 hW.2.1 isC isR hC hR hnR hdis hk1 hFc hP1 hD1
  exact kk r u H1 locs1 hw ⟨hP, hD, hS⟩
end OwnRows
