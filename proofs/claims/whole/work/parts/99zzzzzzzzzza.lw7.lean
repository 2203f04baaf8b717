/-! ===== feed and end of the class, as the small machine runs them ===== -/
theorem ml_0_121 : mlk 0 121 = some (0, y_J_take, b_J_take, 3, 1, 0, 0) := rfl
theorem ks_0_113 : mks 0 113 = some (.inl 65516) := by decide +kernel
theorem cL_65516 : iv (.inl (65516 : Int32)) = .inl 65516 := by decide +kernel
theorem s_J_feed {L : Nat → Nat} (hL : ∀ r, L r < 2147483648) {d : Nat} (hd : 1 ≤ d) {a1 a2 a3 a4 a5 : Int} {Q : IS → Prop} {σ : IS} (h0 : ¬ 65516 < σ.1 0 1) (h : w_J_take L a1 (w_J_take L a2 (w_J_take L a3 (w_J_take L a4 (w_J_take L a5 Q)))) σ) : OkI BF L d 0 b_J_feed 6 0 0 [] [some (.inr 0), some (.inl a1), some (.inl a2), some (.inl a3), some (.inl a4), some (.inl a5)] σ (qv Q) := by
  obtain ⟨d, rfl⟩ : ∃ e, d = e + 1 := ⟨d - 1, by omega⟩
  refine k_aload_n d_J_feed_0 rfl ?_
  refine k_getI (x := (σ.1 0 1)) d_J_feed_1 fl_0_110 ob_0 rfl rfl ?_
  refine k_ldc d_J_feed_4 ks_0_113 cL_65516 ?_
  refine k_icle d_J_feed_6 rfl (fun _ => ?_) (fun c => absurd c h0)
  refine k_aload_n d_J_feed_19 rfl ?_
  refine k_iload_n d_J_feed_20 rfl ?_
  refine k_cvv [.inl a1] d_J_feed_21 ml_0_121 rfl rfl ob_0 rfl (s_J_take hL (by omega) h) (fun σ6 h => ?_)
  refine k_aload_n d_J_feed_24 rfl ?_
  refine k_iload_n d_J_feed_25 rfl ?_
  refine k_cvv [.inl a2] d_J_feed_26 ml_0_121 rfl rfl ob_0 rfl (s_J_take hL (by omega) h) (fun σ8 h => ?_)
  refine k_aload_n d_J_feed_29 rfl ?_
  refine k_iload_n d_J_feed_30 rfl ?_
  refine k_cvv [.inl a3] d_J_feed_31 ml_0_121 rfl rfl ob_0 rfl (s_J_take hL (by omega) h) (fun σ10 h => ?_)
  refine k_aload_n d_J_feed_34 rfl ?_
  refine k_iload d_J_feed_35 rfl ?_
  refine k_cvv [.inl a4] d_J_feed_37 ml_0_121 rfl rfl ob_0 rfl (s_J_take hL (by omega) h) (fun σ12 h => ?_)
  refine k_aload_n d_J_feed_40 rfl ?_
  refine k_iload d_J_feed_41 rfl ?_
  refine k_cvv [.inl a5] d_J_feed_43 ml_0_121 rfl rfl ob_0 rfl (s_J_take hL (by omega) h) (fun σ14 h => ?_)
  exact k_ret d_J_feed_46 h
theorem s_J_end {L : Nat → Nat} {d : Nat} {a1 : Int} {Q : Int → IS → Prop} {σ : IS} (h0 : ¬ a1 < 0) (h1 : ¬ σ.1 0 1 < a1) (h : Q (σ.1 0 1) (pf σ 0 1 a1)) : OkI BF L d 0 b_J_end 3 1 0 [] [some (.inr 0), some (.inl a1)] σ (qi Q) := by
  refine k_sb (lv' := [some (.inr 0), some (.inl a1), none]) (sb_s (sb_s (sb_e sb_nil))) ?_
  refine k_iload_n d_J_end_0 rfl ?_
  refine k_iflt d_J_end_1 rfl (fun c => absurd c h0) (fun _ => ?_)
  refine k_iload_n d_J_end_4 rfl ?_
  refine k_aload_n d_J_end_5 rfl ?_
  refine k_getI (x := (σ.1 0 1)) d_J_end_6 fl_0_110 ob_0 rfl rfl ?_
  refine k_icle d_J_end_9 rfl (fun _ => ?_) (fun c => absurd c h1)
  refine k_aload_n d_J_end_22 rfl ?_
  refine k_getI (x := (σ.1 0 1)) d_J_end_23 fl_0_110 ob_0 rfl rfl ?_
  refine k_istore_n (lv' := [some (.inr 0), some (.inl a1), some (.inl (σ.1 0 1))]) d_J_end_26 rfl rfl ?_
  refine k_aload_n d_J_end_27 rfl ?_
  refine k_iload_n d_J_end_28 rfl ?_
  refine k_putI d_J_end_29 fl_0_110 ob_0 rfl ?_
  refine k_iload_n d_J_end_32 rfl ?_
  exact k_iret d_J_end_33 (Or.inl rfl) h
/-! ===== where feed throws ===== -/
def xISE : String := "java/lang/IllegalStateException"
def exS : List Cond := [.declares (Bundle.initS "java/lang/RuntimeException"), .declares (Bundle.initS "java/lang/Exception"), .declares (Bundle.initS "java/lang/Throwable"), .castable xISE xISE]
def exOkS (A : Nat → Prop) (U : State) : Prop := (∀ w ∈ exS, ∀ a : Array Value, w.before a U = true) ∧ stW Bundle.tN "UNASSIGNED_STACK" Bundle.steD A U ∧ stW Bundle.tN "SUPPRESSED_SENTINEL" Bundle.listD A U
theorem exS_face : ∀ w ∈ exS, w.faceAtom = true ∧ w.onTables = true := by decide +kernel
theorem exOkS.ro : Ro exOkS := fun A A' s U h hA hh hw => ⟨fun w hw' a => by
    have z := Cond.faceAtom_setVm hw.alike w (exS_face w hw').1 (h.1 w hw' a)
    rw [Cond.onTables_vm (A' := a) (U' := U) U.vm w (exS_face w hw').2, State.setVm_self] at z
    exact z, stW.ro A A' s U h.2.1 hA hh hw, stW.ro A A' s U h.2.2 hA hh hw⟩
set_option maxRecDepth 100000 in
theorem exS_words : ∀ w ∈ Bundle.ownAtoms "MarkupJudge" 118 xISE xUp, w ∈ lwG ∨ w ∈ exS ∨ w ∈ [Cond.laysStatic Bundle.tN "UNASSIGNED_STACK" Bundle.steD, Cond.laysStatic Bundle.tN "SUPPRESSED_SENTINEL" Bundle.listD, Cond.isRef (.static Bundle.tN "UNASSIGNED_STACK" Bundle.steD), Cond.isRef (.static Bundle.tN "SUPPRESSED_SENTINEL" Bundle.listD)] := by decide +kernel
theorem exS_all {args : Array Value} {s : State} {A : Nat → Prop} (ht : ∀ w ∈ lwG, w.before args s = true) (h : exOkS A s) : ∀ w ∈ Bundle.ownAtoms "MarkupJudge" 118 xISE xUp, w.before args s = true := fun w hw => by
  rcases exS_words w hw with q | q | q
  · exact ht w q
  · exact h.1 w q args
  · simp only [List.mem_cons, List.not_mem_nil, or_false] at q
    rcases q with q | q | q | q
    · rw [q]; exact h.2.1.lays args
    · rw [q]; exact h.2.2.lays args
    · rw [q]; exact h.2.1.ref args
    · rw [q]; exact h.2.2.ref args
section ThrS
variable {p : Program} {l : Launch} {e : Env} {R : Room} {s : State} {m : MethodId} {args : Array Value} {below : List Frame} {meth : Method} {c : Code} {H : Heap} {locs : List Loc} {cells slots : Nat} {Q : State → Prop} {cc : ByteArray} {nL : Nat} {own : String} {D : va_G} {tI tB tZ tL : ClassId} {X : (Nat → Prop) → State → Prop} {A : Nat → Prop} {ws : va_W} {ls : Array Slot} {pc : Nat} {rest : List Value}
theorem r_throwS (C : Cx p m c cc nL s args own D tI tB tZ tL X A) (hsz : ls.size = nL) (hlk : meth.locks = false) (hnh : ∀ pc, ∀ x ∈ c.exceptionTable.toList, covers x pc = false) (htr : l.stackTraces = false) {ia ib ic : Nat} {tx : String} {q : Nat} (hcl : Cond.classLink own ia xISE ∈ lwG) (hinst : Cond.instantiable xISE 6 ∈ lwG) (hini : Cond.initialized xISE ∈ lwG) (hR : vk_R own ib tx q s) (hat : ∀ w ∈ Bundle.ownAtoms own ic xISE xUp, w.before args s = true)
    (d0 : decode cc pc = .ok (.new ia, 3)) (d3 : decode cc (pc + 3) = .ok (.dup, 1)) (d4 : decode cc (pc + 4) = .ok (.ldc ib, 2)) (d6 : decode cc (pc + 6) = .ok (.invokespecial ic, 3)) (d9 : decode cc (pc + 9) = .ok (.athrow, 1)) (hfr : 5 < R.frames) (hlo : 83 ≤ R.locals) (hce : 1 ≤ R.cells) (hsl : 6 ≤ R.slots) :
    W p l e R s m args below meth c s.heap [] 0 0 (MT below (thrQ xISE 1 6) args s) (F0 m pc ls []) := by
  intro T hT XT
  have hx := C.1.1
  have hb := C.1.2.1
  have hown := C.1.2.2.2.1
  have ht := C.1.2.2.2.2
  have htr' : e.platform.stackTraces = false := by rw [XT.admits.platform]; exact htr
  obtain ⟨vm₁, cX, kX, hfX, hkX, -, -, X₁, st1⟩ := XT.newCold hx (own := own) (C := xISE) (index := ia) (n := 6) hown (ht _ hcl) (ht _ hinst) (ht _ hini) (g := F0 m pc ls []) rfl (by rw [hb]; exact d0) (by omega) (by omega)
  generalize hU : (T.setVm vm₁).pushCell { cls := cX, slots := kX.instanceTypes.map defaultValue, vm := .none } = U at X₁ st1
  have hcellA : U.heap[T.heap.size]? = some (freshCell cX kX) := by rw [← hU]; exact State.heap_pushCell_size _ _
  obtain ⟨V, hsteps, hrun, hend, hWv, hsame, ce, hce', K⟩ := X₁.ctorThrowS hx htr' (own := own) (cls := xISE) (names := xUp) (ic := ic) hown (by decide +kernel) (by decide +kernel) hat (fun y hy => by cases hy) hfX hkX hcellA (by rw [hT]; exact Nat.le_refl _) (msg := .ref q) rfl (g := F0 m (pc + 6) ls [.ref q, .ref T.heap.size, .ref T.heap.size]) rfl (by rw [C.1.2.2.1]; exact hsz) rfl rfl (rest := []) rfl (by rw [hb]; exact d6) (by rw [hb]; exact d9) (hnh _) hfr (by show 2 * 0 + 1 + (13 * 3 + 42) ≤ R.locals; omega) hlk
  refine ⟨V, ?_, .threw T.heap.size, hrun, hend, T.heap.size, ce, rfl, hce', by rw [K.vm]; rfl, K.cls, K.self, hWv, hsame⟩
  refine st1 _ ?_
  show Steps p.tables e below (U.setTop (F0 m (pc + 3) ls [.ref T.heap.size])) V
  jvm_step X₁.here [X₁.here.top, hx, hb, d3, Value.category]
  exact X₁.ldcString hx hown (text := tx) (a := q) hR.1 hR.2 (g := F0 m (pc + 4) ls [.ref T.heap.size, .ref T.heap.size]) rfl (by rw [hb]; exact d4) _ hsteps
end ThrS
theorem wS_1 : Cond.classLink "MarkupJudge" 114 xISE ∈ lwG := s_9 (List.mem_of_getElem? (i := 131) rfl) rfl
theorem wS_2 : Cond.instantiable xISE 6 ∈ lwG := s_9 (List.mem_of_getElem? (i := 132) rfl) rfl
theorem wS_3 : Cond.initialized xISE ∈ lwG := s_1 (List.mem_of_getElem? (i := 27) rfl) rfl
theorem wS_4 : Cond.classLink "MarkupJudgeLaw" 13 xISE ∈ lwG := s_9 (List.mem_of_getElem? (i := 125) rfl) rfl
theorem d_J_feed_9 : decode b_J_feed 9 = .ok (.new 114, 3) := by decide +kernel
theorem d_J_feed_12 : decode b_J_feed 12 = .ok (.dup, 1) := by decide +kernel
theorem d_J_feed_13 : decode b_J_feed 13 = .ok (.ldc 116, 2) := by decide +kernel
theorem d_J_feed_15 : decode b_J_feed 15 = .ok (.invokespecial 118, 3) := by decide +kernel
theorem d_J_feed_18 : decode b_J_feed 18 = .ok (.athrow, 1) := by decide +kernel
theorem d_L_feed_14 : decode b_L_feed 14 = .ok (.astore 6, 2) := by decide +kernel
theorem d_L_feed_16 : decode b_L_feed 16 = .ok (.iconst 1, 1) := by decide +kernel
theorem d_L_feed_17 : decode b_L_feed 17 = .ok (.ireturn, 1) := by decide +kernel
/-- feed, where it throws -/
theorem c_J_feed_thr (l : Launch) (D : va_G) (tI tB tZ tL : ClassId) (X : (Nat → Prop) → State → Prop) (hX : Ro X) (aJ j_bytes aS aR aE aD aO aT aC aV aM aW : Nat) (ja jf jp : Int32) (v1 v2 v3 v4 v5 ct : Int32) (hbad : ¬ ct ≤ 65516) (htr : l.stackTraces = false) (sq : Nat) (tx : String) (hk : ∀ A U, X A U → vk_R "MarkupJudge" 116 tx sq U) (hex : ∀ A U, X A U → exOkS A U) : CtT l D tI tB tZ tL X y_J_feed b_J_feed 6 none ({ frames := 6, cells := 1, slots := 6, locals := 90 }) [.ref aJ, .int v1, .int v2, .int v3, .int v4, .int v5] [(aJ, .inr (0, [.ref j_bytes, .int ct, .ref aS, .ref aR, .ref aE, .ref aD, .ref aO, .ref aT, .ref aC, .ref aV, .ref aM, .ref aW, .int ja, .int jf, .int jp]))] xISE := by
  refine CtT.start hX (by decide) (Nat.le_of_ble_eq_true rfl) ?_
  intro p e s m args below meth c A ls C hlk hnh hW hl
  have hx := C.1.1
  have hb := C.1.2.1
  have hown := C.1.2.2.2.1
  have hT := C.1.2.2.2.2
  have hl : lv_has ls 6 [(0, .ref aJ), (1, .int v1), (2, .int v2), (3, .int v3), (4, .int v4), (5, .int v5)] := hl
  refine lv_aload_n hx hb d_J_feed_0 rfl (lv_at hl 0 rfl) ?_
  refine r_get C hW 0 rfl k_J i_J 1 (by decide) rfl w_787 d_J_feed_1 ?_
  refine lv_ldc (v := 65516) hx hb hown (hT _ w_2050) d_J_feed_4 ?_
  refine lv_icmp_le (tgt := 19) hx hb d_J_feed_6 (by decide) (fun c_6 => absurd c_6 hbad) (fun c_6 => ?_)
  exact r_throwS C hl.1 hlk hnh htr wS_1 wS_2 wS_3 (hk A s C.2.2.2.1) (exS_all C.1.2.2.2.2 (hex A s C.2.2.2.1)) d_J_feed_9 d_J_feed_12 d_J_feed_13 d_J_feed_15 d_J_feed_18 (by decide) (by decide) (by decide) (by decide)
