/-! ===== a method that answers a text ===== -/
def CtR (l : Launch) (D : va_G) (tI tB tZ tL : ClassId) (X : (Nat → Prop) → State → Prop) (y : MethodName) (cd : ByteArray) (n : Nat) (ret : FieldType) (rm : Room) (av : List Value) (q : Nat) : Prop :=
  ∀ sz : Nat, Met l y (wT y cd n (some ret)) rm (va_Pc av (cPre D tI tB tZ tL X [] sz)) (va_Qr (S := Unit) (fun _ => True) (fun _ a t => a = q ∧ cPost D tI tB tZ tL (va_A [] sz) (fun _ : Unit => []) () t) (va_A [] sz)) rm.cells rm.slots (va_A [] sz)
theorem CtR.start {l : Launch} {D : va_G} {tI tB tZ tL : ClassId} {X : (Nat → Prop) → State → Prop} {y : MethodName} {cd : ByteArray} {n : Nat} {ret : FieldType} {rm : Room} {av : List Value} {q : Nat} (hX : Ro X) (hy : plainName y.cls = true) (hn : (lg_sl av).length ≤ n)
    (body : ∀ (p : Program) (e : Env) (s : State) (m : MethodId) (args : Array Value) (below : List Frame) (meth : Method) (c : Code) (A : Nat → Prop) (ls : Array Slot), Cx p m c cd n s args y.cls D tI tB tZ tL X A → meth.sig.returnType = some ret → meth.locks = false → Wd D A s [] s.heap [] → lv_has ls n (lv_args 0 av) →
      W p l e rm s m args below meth c s.heap [] 0 0 (MQ below (va_Qr (S := Unit) (fun _ => True) (fun _ a t => a = q ∧ cPost D tI tB tZ tL A (fun _ : Unit => []) () t) A) args s rm.cells rm.slots A) (F0 m 0 ls [])) : CtR l D tI tB tZ tL X y cd n ret rm av q := by
  intro sz
  refine Met.ofW (cc := cd) (maxL := n) (ret := some ret) hy rfl ?_
  intro p e s m args below meth c s₁ B hml hv
  obtain ⟨rfl, hsz, hP, hK, hD0, hE⟩ := hv
  subst hsz
  rw [lg_entry_eq]
  exact body p e s m _ below meth c (va_A [] s.heap.size) _ ⟨⟨B.exec, B.bytes, hml, findClass_of_methodNamed B.named, fun w h => atoms_spec (ws := wT y cd n (some ret)) B.pre w (List.mem_cons_of_mem _ h)⟩, hK, fun q h => Or.inr h, hE, hX⟩ B.returns B.notSynchronized ⟨hP, hD0.self (sz := s.heap.size), va_S.rf⟩ (lv_entry av hn)
section CtRr
variable {p : Program} {l : Launch} {e : Env} {R : Room} {s : State} {m : MethodId} {args : Array Value} {below : List Frame} {meth : Method} {c : Code} {H : Heap} {locs : List Loc} {cells slots : Nat} {Q : State → Prop} {cc : ByteArray} {nL : Nat} {own : String} {D : va_G} {tI tB tZ tL : ClassId} {X : (Nat → Prop) → State → Prop} {A : Nat → Prop} {ws : va_W} {ls : Array Slot} {pc : Nat}
theorem r_aret {q : Nat} {mc ms : Nat} {ty : String} (C : Cx p m c cc nL s args own D tI tB tZ tL X A) (hr : meth.sig.returnType = some (.object ty)) (hlk : meth.locks = false) (hW : Wd D A s [] H locs) (hdg : decode cc pc = .ok (.areturn, 1)) (hc : cells ≤ mc) (hs : slots ≤ ms) :
    W p l e R s m args below meth c H locs cells slots (MQ below (va_Qr (S := Unit) (fun _ => True) (fun _ a t => a = q ∧ cPost D tI tB tZ tL A (fun _ : Unit => []) () t) A) args s mc ms A) (F0 m pc ls [.ref q]) :=
  W.widen hc hs (W.aret C.1.1 C.1.2.1 hr (Or.inl ⟨_, rfl⟩) (Or.inr ⟨_, rfl⟩) (fun t ht hw => ⟨⟨(), q, rfl, trivial, rfl, by rw [ht]; exact hW.1, va_K.moved hw.alike C.2.1, hW.2.1⟩, hW.2.2.F ht⟩) hW.2.2.2.2 hdg hlk)
theorem r_callSr {y : MethodName} {cd : ByteArray} {ret : FieldType} {n index : Nat} {rm : Room} {st : List Value} {q : Nat} (As : List Value) (rest : List Value) (C : Cx p m c cc nL s args own D tI tB tZ tL X A) (hsz : ls.size = nL) (hW : Wd D A s ws H locs) (hM : CtR l D tI tB tZ tL X y cd n ret rm As q) (ok : okS y cd n (some ret) As.length) (hl : Cond.methodLink own index y ∈ lwG)
    (hst : st = As.reverse ++ rest) (hro : rm.frames + 1 ≤ R.frames ∧ 8 + (n + 11) + rm.locals ≤ R.locals) (hw8 : (rest.map fun v => v.category).sum ≤ 8) (hf : cells + rm.cells ≤ R.cells ∧ slots + rm.slots ≤ R.slots) (hdg : decode cc pc = .ok (.invokestatic index, 3))
    (kk : ∀ (H1 : Heap) (locs1 : List Loc), Wd D A s ws H1 locs1 → W p l e R s m args below meth c H1 locs1 (cells + rm.cells) (slots + rm.slots) Q (F0 m (pc + 3) ls (.ref q :: rest))) : W p l e R s m args below meth c H locs cells slots Q (F0 m pc ls st) := by
  have hR0 : (List.range ws.length).map (fun i => ws[i]?) = ws.map some := by
    apply List.ext_getElem?
    intro i
    rw [List.getElem?_map, List.getElem?_map]
    by_cases hi : i < ws.length
    · rw [List.getElem?_range hi, List.getElem?_eq_getElem hi, Option.map_some, Option.map_some, List.getElem?_eq_getElem hi]
    · rw [List.getElem?_eq_none (by rw [List.length_range]; omega), List.getElem?_eq_none (by omega)]; rfl
  have hFc := va_free hW.2.1 hW.2.2 C.2.2.1 [] (wc := []) rfl
  refine va_callr (va_runS (As := As) (rest := rest) (n := As.length) C.1 (hM H.size) ⟨callB_of As.length C.1.2.2.2.2 (gT ok.1) rfl rfl rfl (C.1.2.2.2.2 _ ok.2.2.1) (C.1.2.2.2.2 _ hl) ok.2.2.2 hro, C.1.2.2.2.2 _ ok.2.1⟩ ⟨c_pre_blind C.2.2.2.2, c_pre_at C hW [] rfl rfl⟩ rfl rfl hsz hst (lv_room hw8) hdg hf) hW.2.2 (fun q _ h => hFc q h) hFc (fun u ra t H1 locs1 ht hvm hw hB hz1 hk1 hS => ?_)
  obtain ⟨rfl, hP1, hK1, hD1⟩ := hB
  rw [ht] at hP1
  obtain ⟨hP, hD⟩ := va_join hW.1 hW.2.1 [] (List.range ws.length) rfl hR0 (va_nd_of List.nodup_range) (fun i _ h => by cases h) hk1 hFc hP1 hD1
  rw [List.append_nil] at hP hD
  exact kk H1 locs1 ⟨hP, hD, hS⟩
end CtRr
abbrev b_KReader_wordOf : ByteArray := prog_17_method_66_code
theorem ok_KReader_wordOf : okS y_KReader_wordOf b_KReader_wordOf 1 (some (.object "java/lang/String")) 1 := ⟨s_13 (List.mem_of_getElem? (i := 75) rfl) rfl, s_13 (List.mem_of_getElem? (i := 74) rfl) rfl, s_1 (List.mem_of_getElem? (i := 20) rfl) rfl, ⟨by decide +kernel, by decide +kernel, by decide +kernel⟩⟩
theorem d_KReader_wordOf_0 : decode b_KReader_wordOf 0 = .ok (.iload_n 0, 1) := by decide +kernel
theorem d_KReader_wordOf_1 : decode b_KReader_wordOf 1 = .ok (.tableswitch 71 0 6 #[43, 47, 51, 55, 59, 63, 67], 43) := by decide +kernel
theorem d_KReader_wordOf_44 : decode b_KReader_wordOf 44 = .ok (.ldc_w 628, 3) := by decide +kernel
theorem d_KReader_wordOf_47 : decode b_KReader_wordOf 47 = .ok (.areturn, 1) := by decide +kernel
theorem d_KReader_wordOf_48 : decode b_KReader_wordOf 48 = .ok (.ldc_w 630, 3) := by decide +kernel
theorem d_KReader_wordOf_51 : decode b_KReader_wordOf 51 = .ok (.areturn, 1) := by decide +kernel
theorem d_KReader_wordOf_52 : decode b_KReader_wordOf 52 = .ok (.ldc_w 632, 3) := by decide +kernel
theorem d_KReader_wordOf_55 : decode b_KReader_wordOf 55 = .ok (.areturn, 1) := by decide +kernel
theorem d_KReader_wordOf_56 : decode b_KReader_wordOf 56 = .ok (.ldc_w 634, 3) := by decide +kernel
theorem d_KReader_wordOf_59 : decode b_KReader_wordOf 59 = .ok (.areturn, 1) := by decide +kernel
theorem d_KReader_wordOf_60 : decode b_KReader_wordOf 60 = .ok (.ldc_w 636, 3) := by decide +kernel
theorem d_KReader_wordOf_63 : decode b_KReader_wordOf 63 = .ok (.areturn, 1) := by decide +kernel
theorem d_KReader_wordOf_64 : decode b_KReader_wordOf 64 = .ok (.ldc_w 638, 3) := by decide +kernel
theorem d_KReader_wordOf_67 : decode b_KReader_wordOf 67 = .ok (.areturn, 1) := by decide +kernel
theorem d_KReader_wordOf_68 : decode b_KReader_wordOf 68 = .ok (.ldc_w 640, 3) := by decide +kernel
theorem d_KReader_wordOf_71 : decode b_KReader_wordOf 71 = .ok (.areturn, 1) := by decide +kernel
theorem d_KReader_wordOf_72 : decode b_KReader_wordOf 72 = .ok (.ldc_w 642, 3) := by decide +kernel
theorem d_KReader_wordOf_75 : decode b_KReader_wordOf 75 = .ok (.areturn, 1) := by decide +kernel
/-- the number of the text of a type -/
def wdO (t : Int32) : Nat := if t.toInt < 0 ∨ 6 < t.toInt then 1000 + wordD else 1000 + wordT.getD t.toNatClampNeg 0
theorem c_KReader_wordOf (l : Launch) (D : va_G) (tI tB tZ tL : ClassId) (X : (Nat → Prop) → State → Prop) (hX : Ro X) (adr : Nat → Nat) (hmx : ∀ A U, X A U → MX adr A U) (t : Int32) : CtR l D tI tB tZ tL X y_KReader_wordOf b_KReader_wordOf 1 (.object "java/lang/String") ({ frames := 0, cells := 0, slots := 0, locals := 0 }) [.int t] (adr (wdO t)) := by
  refine CtR.start hX (by decide) (Nat.le_of_ble_eq_true rfl) ?_
  intro p e s m args below meth c A ls C hr hlk hW hl
  refine W.nameQ (fun Q hQ => ?_)
  have hx := C.1.1
  have hb := C.1.2.1
  have hown := C.1.2.2.2.1
  have hl : lv_has ls 1 [(0, .int t)] := hl
  have hM := hmx A s C.2.2.2.1
  refine lv_iload_n hx hb d_KReader_wordOf_0 rfl (lv_at hl 0 rfl) ?_
  have fin : ∀ (pc idx k : Nat), decode b_KReader_wordOf pc = .ok (.ldc_w idx, 3) → decode b_KReader_wordOf (pc + 3) = .ok (.areturn, 1) → mks 15 idx = some (.inr k) → wdO t = k → W p l e ({ frames := 0, cells := 0, slots := 0, locals := 0 } : Room) s m args below meth c s.heap [] 0 0 Q (F0 m pc ls []) := fun pc idx k h1 h2 h3 h4 => by
    obtain ⟨tx, ht⟩ := hM.2.2.1 15 idx k h3
    refine r_ldcwS hx hb hown ht h1 ?_
    rw [hQ, ← h4]
    exact r_aret C hr hlk hW h2 (Nat.le_refl _) (Nat.le_refl _)
  by_cases c0 : t.toInt < 0 ∨ 6 < t.toInt
  · refine lv_tableOut (tgt := 72) hx hb d_KReader_wordOf_1 c0 (by decide) ?_
    exact fin 72 642 (1000 + wordD) d_KReader_wordOf_72 d_KReader_wordOf_75 (by decide +kernel) (if_pos c0)
  · obtain ⟨j, hj, rfl⟩ : ∃ j : Nat, j ≤ 6 ∧ t = nI j := by
      refine ⟨t.toInt.toNat, by omega, ?_⟩
      apply Int32.toInt_inj.mp
      rw [nI_i (by omega)]
      omega
    rcases (show j = 0 ∨ j = 1 ∨ j = 2 ∨ j = 3 ∨ j = 4 ∨ j = 5 ∨ j = 6 by omega) with rfl | rfl | rfl | rfl | rfl | rfl | rfl
    · refine lv_tableIn (off := 43) (tgt := 44) hx hb d_KReader_wordOf_1 (by decide) (by decide) rfl (by decide) ?_
      exact fin 44 628 (1000 + wordT.getD 0 0) d_KReader_wordOf_44 d_KReader_wordOf_47 (by decide +kernel) (by decide +kernel)
    · refine lv_tableIn (off := 47) (tgt := 48) hx hb d_KReader_wordOf_1 (by decide) (by decide) rfl (by decide) ?_
      exact fin 48 630 (1000 + wordT.getD 1 0) d_KReader_wordOf_48 d_KReader_wordOf_51 (by decide +kernel) (by decide +kernel)
    · refine lv_tableIn (off := 51) (tgt := 52) hx hb d_KReader_wordOf_1 (by decide) (by decide) rfl (by decide) ?_
      exact fin 52 632 (1000 + wordT.getD 2 0) d_KReader_wordOf_52 d_KReader_wordOf_55 (by decide +kernel) (by decide +kernel)
    · refine lv_tableIn (off := 55) (tgt := 56) hx hb d_KReader_wordOf_1 (by decide) (by decide) rfl (by decide) ?_
      exact fin 56 634 (1000 + wordT.getD 3 0) d_KReader_wordOf_56 d_KReader_wordOf_59 (by decide +kernel) (by decide +kernel)
    · refine lv_tableIn (off := 59) (tgt := 60) hx hb d_KReader_wordOf_1 (by decide) (by decide) rfl (by decide) ?_
      exact fin 60 636 (1000 + wordT.getD 4 0) d_KReader_wordOf_60 d_KReader_wordOf_63 (by decide +kernel) (by decide +kernel)
    · refine lv_tableIn (off := 63) (tgt := 64) hx hb d_KReader_wordOf_1 (by decide) (by decide) rfl (by decide) ?_
      exact fin 64 638 (1000 + wordT.getD 5 0) d_KReader_wordOf_64 d_KReader_wordOf_67 (by decide +kernel) (by decide +kernel)
    · refine lv_tableIn (off := 67) (tgt := 68) hx hb d_KReader_wordOf_1 (by decide) (by decide) rfl (by decide) ?_
      exact fin 68 640 (1000 + wordT.getD 6 0) d_KReader_wordOf_68 d_KReader_wordOf_71 (by decide +kernel) (by decide +kernel)
theorem IntS_ok {l : Launch} {D : va_G} {tI tB tZ tL : ClassId} {X : (Nat → Prop) → State → Prop} {B : MB} {adr ln : Nat → Nat} (hX : Ro X) (hmx : ∀ A U, X A U → MX adr A U) (hln : ∀ q, ln q < 2 ^ 30) : IntS l D tI tB tZ tL X B adr ln := by
  refine IntS_all hX hmx hln ?_
  intro oc idx hl t r σ hr8 d nL pc cd Q p e s m args below meth c A H locs ls C hW hsz hdg kk
  refine r_callSr [.int t] (r.map (mv adr)) C hsz hW (c_KReader_wordOf l D tI tB tZ tL X hX adr hmx t) ok_KReader_wordOf hl rfl ⟨by simp only [rmD]; omega, by simp only [rmD]; omega⟩ (by rw [cat_sum]; exact hr8) ⟨Nat.zero_le _, Nat.zero_le _⟩ hdg (fun H1 locs1 hW1 => ?_)
  exact kk H1 locs1 hW1
/-- every run of the small machine is one of the large one -/
theorem sim_ok {l : Launch} {D : va_G} {tI tB tZ tL : ClassId} {X : (Nat → Prop) → State → Prop} {B : MB} {adr ln : Nat → Nat} (hX : Ro X) (hmx : ∀ A U, X A U → MX adr A U) (hln : ∀ q, ln q < 2 ^ 30) : ∀ n, SimP l D tI tB tZ tL X B adr ln n := sim_all hX hmx (IntS_ok hX hmx hln)
