/-! ===== THE CLAIM ===== -/
theorem arr_of {args : Array Value} {s : State} {ty : FieldType} (h : (Cond.arrayClass ty).before args s = true) : ∃ cA : ClassId, ArrOfT s cA ty ∧ s.vm.findClass ("[" ++ ty.toString) = some cA := by
  obtain ⟨cA, kA, comp, h1, h2, h3⟩ := Cond.arrayClass_spec h
  exact ⟨cA, fun n z => ⟨(fun k h => by cases h), kA, h2, comp, h3⟩, h1⟩
theorem kn_each {args : Array Value} {s : State} (ht : ∀ w ∈ lwG, w.before args s = true) : ∀ c : Nat, ∃ (cC : ClassId) (iS : Nat → Nat), ∀ q : vw_C, vC[c]? = some q → u_Kn s q.1 q.2.1 q.2.2 cC iS := fun c => by
  match c with
  | 0 =>
    obtain ⟨cC, iS, h⟩ := u_known (C := R_J) (T := T_J) (N := 15) ht i_J (ht _ (s_1 (List.mem_of_getElem? (i := 36) rfl) rfl))
    exact ⟨cC, iS, fun q hq => by cases hq; exact h⟩
  | 1 =>
    obtain ⟨cC, iS, h⟩ := u_known (C := R_Store) (T := T_Store) (N := 17) ht i_Store (ht _ (s_1 (List.mem_of_getElem? (i := 46) rfl) rfl))
    exact ⟨cC, iS, fun q hq => by cases hq; exact h⟩
  | 2 =>
    obtain ⟨cC, iS, h⟩ := u_known (C := R_Reader) (T := T_Reader) (N := 12) ht i_Reader (ht _ (s_1 (List.mem_of_getElem? (i := 227) rfl) rfl))
    exact ⟨cC, iS, fun q hq => by cases hq; exact h⟩
  | 3 =>
    obtain ⟨cC, iS, h⟩ := u_known (C := R_Entities) (T := T_Entities) (N := 17) ht i_Entities (ht _ (s_2 (List.mem_of_getElem? (i := 55) rfl) rfl))
    exact ⟨cC, iS, fun q hq => by cases hq; exact h⟩
  | 4 =>
    obtain ⟨cC, iS, h⟩ := u_known (C := R_Declared) (T := T_Declared) (N := 19) ht i_Declared (ht _ (s_2 (List.mem_of_getElem? (i := 120) rfl) rfl))
    exact ⟨cC, iS, fun q hq => by cases hq; exact h⟩
  | 5 =>
    obtain ⟨cC, iS, h⟩ := u_known (C := R_Doctype) (T := T_Doctype) (N := 10) ht i_Doctype (ht _ (s_2 (List.mem_of_getElem? (i := 209) rfl) rfl))
    exact ⟨cC, iS, fun q hq => by cases hq; exact h⟩
  | 6 =>
    obtain ⟨cC, iS, h⟩ := u_known (C := R_Tree) (T := T_Tree) (N := 17) ht i_Tree (ht _ (s_3 (List.mem_of_getElem? (i := 12) rfl) rfl))
    exact ⟨cC, iS, fun q hq => by cases hq; exact h⟩
  | 7 =>
    obtain ⟨cC, iS, h⟩ := u_known (C := R_Content) (T := T_Content) (N := 6) ht i_Content (ht _ (s_3 (List.mem_of_getElem? (i := 110) rfl) rfl))
    exact ⟨cC, iS, fun q hq => by cases hq; exact h⟩
  | 8 =>
    obtain ⟨cC, iS, h⟩ := u_known (C := R_Validator) (T := T_Validator) (N := 14) ht i_Validator (ht _ (s_3 (List.mem_of_getElem? (i := 135) rfl) rfl))
    exact ⟨cC, iS, fun q hq => by cases hq; exact h⟩
  | 9 =>
    obtain ⟨cC, iS, h⟩ := u_known (C := R_Model) (T := T_Model) (N := 13) ht i_Model (ht _ (s_3 (List.mem_of_getElem? (i := 137) rfl) rfl))
    exact ⟨cC, iS, fun q hq => by cases hq; exact h⟩
  | 10 =>
    obtain ⟨cC, iS, h⟩ := u_known (C := R_Meanings) (T := T_Meanings) (N := 8) ht i_Meanings (ht _ (s_3 (List.mem_of_getElem? (i := 231) rfl) rfl))
    exact ⟨cC, iS, fun q hq => by cases hq; exact h⟩
  | 11 =>
    obtain ⟨cC, iS, h⟩ := u_known (C := R_Writer) (T := T_Writer) (N := 11) ht i_Writer (ht _ (s_4 (List.mem_of_getElem? (i := 24) rfl) rfl))
    exact ⟨cC, iS, fun q hq => by cases hq; exact h⟩
  | 12 =>
    obtain ⟨cC, iS, h⟩ := u_known (C := R_K) (T := T_K) (N := 14) ht i_K (ht _ (s_9 (List.mem_of_getElem? (i := 163) rfl) rfl))
    exact ⟨cC, iS, fun q hq => by cases hq; exact h⟩
  | 13 =>
    obtain ⟨cC, iS, h⟩ := u_known (C := R_KBook) (T := T_KBook) (N := 7) ht i_KBook (ht _ (s_10 (List.mem_of_getElem? (i := 192) rfl) rfl))
    exact ⟨cC, iS, fun q hq => by cases hq; exact h⟩
  | 14 =>
    obtain ⟨cC, iS, h⟩ := u_known (C := R_KDoc) (T := T_KDoc) (N := 23) ht i_KDoc (ht _ (s_10 (List.mem_of_getElem? (i := 190) rfl) rfl))
    exact ⟨cC, iS, fun q hq => by cases hq; exact h⟩
  | 15 =>
    obtain ⟨cC, iS, h⟩ := u_known (C := R_KReader) (T := T_KReader) (N := 83) ht i_KReader (ht _ (s_9 (List.mem_of_getElem? (i := 170) rfl) rfl))
    exact ⟨cC, iS, fun q hq => by cases hq; exact h⟩
  | 16 =>
    obtain ⟨cC, iS, h⟩ := u_known (C := R_KWriter) (T := T_KWriter) (N := 13) ht i_KWriter (ht _ (s_11 (List.mem_of_getElem? (i := 112) rfl) rfl))
    exact ⟨cC, iS, fun q hq => by cases hq; exact h⟩
  | n + 17 => exact ⟨0, fun _ => 0, fun q hq => by have z : (none : Option vw_C) = some q := hq; cases z⟩
theorem kn_all {args : Array Value} {s : State} (ht : ∀ w ∈ lwG, w.before args s = true) : ∃ D : va_G, ∀ (c : Nat) (q : vw_C), vC[c]? = some q → u_Kn s q.1 q.2.1 q.2.2 (D.1 c) (D.2 c) :=
  ⟨(fun c => Classical.choose (kn_each ht c), fun c => Classical.choose (Classical.choose_spec (kn_each ht c))), fun c q h => Classical.choose_spec (Classical.choose_spec (kn_each ht c)) q h⟩
theorem ex_in : ∀ w ∈ exF, w ∈ lw_tbl := fun w hw => by
  simp only [exF, List.mem_cons, List.not_mem_nil, or_false] at hw
  rcases hw with rfl | rfl | rfl | rfl
  · exact t_4 (List.mem_of_getElem? (i := 138) rfl)
  · exact t_4 (List.mem_of_getElem? (i := 140) rfl)
  · exact t_4 (List.mem_of_getElem? (i := 142) rfl)
  · exact t_4 (List.mem_of_getElem? (i := 136) rfl)
theorem ex_start {args : Array Value} {s : State} {A : Nat → Prop} (hn : ∀ c ∈ flatC narrow_1_1 ++ (flatC narrow_1_2 ++ (flatC narrow_1_3 ++ (flatC narrow_1_4 ++ (flatC narrow_1_5 ++ flatC narrow_1_6)))), c.before args s = true) (hT : ∀ w ∈ lw_tbl, w.before args s = true) (hA : ∀ a : Nat, a < s.heap.size → ¬ A a) : exOk A s := by
  have e1 : Cond.isRef (.static Bundle.tN "UNASSIGNED_STACK" Bundle.steD) ∈ flatC narrow_1_1 := by decide +kernel
  have e2 : Cond.isRef (.static Bundle.tN "SUPPRESSED_SENTINEL" Bundle.listD) ∈ flatC narrow_1_1 := by decide +kernel
  refine ⟨fun w hw a => ?_, stW.of (hT _ (t_4 (List.mem_of_getElem? (i := 161) rfl))) (hn _ (by simp [e1])) hA, stW.of (hT _ (t_4 (List.mem_of_getElem? (i := 163) rfl))) (hn _ (by simp [e2])) hA⟩
  have z : w.before args (s.setVm s.vm) = true := by rw [State.setVm_self]; exact hT w (ex_in w hw)
  rw [Cond.onTables_vm (A' := a) (U' := s) s.vm w (exF_face w hw).2, State.setVm_self] at z
  exact z
theorem exS_in : ∀ w ∈ exS, w ∈ lw_tbl := fun w hw => by
  simp only [exS, List.mem_cons, List.not_mem_nil, or_false] at hw
  rcases hw with rfl | rfl | rfl | rfl
  · exact t_4 (List.mem_of_getElem? (i := 138) rfl)
  · exact t_4 (List.mem_of_getElem? (i := 140) rfl)
  · exact t_4 (List.mem_of_getElem? (i := 142) rfl)
  · exact t_9 (List.mem_of_getElem? (i := 133) rfl)
theorem exS_start {args : Array Value} {s : State} {A : Nat → Prop} (hx : exOk A s) (hT : ∀ w ∈ lw_tbl, w.before args s = true) : exOkS A s := by
  refine ⟨fun w hw a => ?_, hx.2.1, hx.2.2⟩
  have z : w.before args (s.setVm s.vm) = true := by rw [State.setVm_self]; exact hT w (exS_in w hw)
  rw [Cond.onTables_vm (A' := a) (U' := s) s.vm w (exS_face w hw).2, State.setVm_self] at z
  exact z
/-- what the law needs of the start, for good -/
def Gl2 (adr : Nat → Nat) (q3 q4 b L : Nat) (xs : Nat → Int32) (A : Nat → Prop) (U : State) : Prop := MX adr A U ∧ vk_R "MarkupJudge" 116 "more than 65536 bytes" q4 U ∧ vk_R "MarkupJudge" 126 "not so many bytes" q3 U ∧ exOk A U ∧ exOkS A U ∧ scAt b L xs A U
theorem Gl2.ro {adr : Nat → Nat} {q3 q4 b L : Nat} {xs : Nat → Int32} : Ro (Gl2 adr q3 q4 b L xs) := Ro.and MX.ro (Ro.and vk_R.ro (Ro.and vk_R.ro (Ro.and exOk.ro (Ro.and exOkS.ro sc_ro))))
set_option maxHeartbeats 4000000 in
theorem whole_start {p : Program} {e : Env} {s : State} {m : MethodId} {below : List Frame} {meth : Method} {c : Code} (l : Launch) (htr : l.stackTraces = false) {b L : Nat} {xs : Nat → Int32} (hL : L ≤ 3074) (C0 : lw_At p s m meth c b L xs) : W p l e room_1 s m #[Value.ref b] below meth c s.heap [] 0 0 (lw_Z below #[Value.ref b] s) (entryFrame m ([Value.ref b] : List Value).toArray 7) := by
  obtain ⟨hx, hb, hr, hml, hown, hts, hXs, hbl, hlk, hgv⟩ := C0
  have hn := nar_all hgv
  have htG : ∀ w ∈ lwG, w.before #[Value.ref b] s = true := fun w h => hts w (List.mem_filter.mp h).1
  obtain ⟨D, hD⟩ := kn_all htG
  obtain ⟨tI, aI, fI⟩ := arr_of (ty := .int) (hts _ (t_1 (List.mem_of_getElem? (i := 225) rfl)))
  obtain ⟨tB, aB, fB⟩ := arr_of (ty := .byte) (hts _ (t_1 (List.mem_of_getElem? (i := 224) rfl)))
  obtain ⟨tZ, aZ, fZ⟩ := arr_of (ty := .boolean) (hts _ (t_2 (List.mem_of_getElem? (i := 118) rfl)))
  obtain ⟨tL, aL, fL⟩ := arr_of (ty := .long) (hts _ (t_15 (List.mem_of_getElem? (i := 82) rfl)))
  have hA : ∀ a : Nat, a < s.heap.size → ¬ (fun q : Nat => s.heap.size ≤ q) a := fun a h => Nat.not_le.mpr h
  obtain ⟨adr, hM⟩ := MX_start hn hts hA
  obtain ⟨q4, v4, -, hk4⟩ := txm_1000 hn hts hA
  obtain ⟨q3, v3, -, hk3⟩ := txm_1001 hn hts hA
  have hE := ex_start hn hts hA
  have hG : Gl2 adr q3 q4 b L xs (fun q : Nat => s.heap.size ≤ q) s := ⟨hM, hk4, hk3, hE, exS_start hE hts, hXs, hbl, hA b hbl⟩
  have hK : va_K D vC (tyL tI tB tZ tL) s := ⟨hD, fun k q hk => by
    match k with
    | 0 => cases hk; exact ⟨aI, fI⟩
    | 1 => cases hk; exact ⟨aB, fB⟩
    | 2 => cases hk; exact ⟨aZ, fZ⟩
    | 3 => cases hk; exact ⟨aL, fL⟩
    | n + 4 => have z : (none : Option (ClassId × FieldType)) = some q := hk; cases z⟩
  rw [lg_entry_eq]
  exact law_body2 l htr hL D tI tB tZ tL (Gl2 adr q3 q4 b L xs) Gl2.ro (A := fun q : Nat => s.heap.size ≤ q) ⟨⟨hx, hb, hml, hown, htG⟩, hK, fun q h => h, hG, Gl2.ro⟩ rfl hr hlk adr (fun A U h => h.1) (fun A U h => h.2.1) (fun A U h => h.2.2.1) (fun A U h => h.2.2.2.1) (fun A U h => h.2.2.2.2.1) (fun A U h => h.2.2.2.2.2) ⟨fun k q h => by simp at h, ⟨fun i j p q h => by simp at h, fun k q h => by simp at h⟩, va_S.rf⟩ _ (lv_entry [.ref b] (Nat.le_of_ble_eq_true rfl))
set_option maxHeartbeats 4000000 in
theorem lw_walk (l : Launch) (htr : l.stackTraces = false) (b : Addr) (xs : List Int32) : MetFree l x (headSpec (Jvm.Cond.code x code maxLocals ret :: tables_1) room_1) (lw_P b xs) (fun _ _ _ _ _ => True) lw_Q := by
  refine MetFree.of_bodyS (code := code) (maxLocals := maxLocals) (ret := ret) (by decide) ?_ ?_
  · intro args s m h hn
    obtain ⟨meth, c, h1, h2, h3, h4, h5, h6, -, -⟩ := Cond.code_spec hn (atoms_spec (ws := Jvm.Cond.code x code maxLocals ret :: tables_1) h _ List.mem_cons_self)
    exact ⟨meth, c, h1, h2, h3, h4, h5, h6⟩
  · intro p e s m args below meth c s₁ B hml0 hP _
    obtain ⟨rfl, hx, hbd, hgv⟩ := hP
    obtain ⟨scr, harrAt, hlist, hof, hsmall⟩ := hx
    obtain ⟨hcb, hkn, -, -⟩ := State.arrayAt?_spec harrAt
    have hown : s.vm.findClass R_law = some m.cls := findClass_of_methodNamed B.named
    have hts0 : ∀ c ∈ (Jvm.Cond.code x code maxLocals ret :: tables_1), c.before #[Value.ref b] s = true := atoms_spec (ws := Jvm.Cond.code x code maxLocals ret :: tables_1) B.pre
    have hts : ∀ w ∈ lw_tbl, w.before #[Value.ref b] s = true := k2_hts_sels lw_privs (fun w hw => hts0 w (List.mem_cons_of_mem _ hw)) lw_privs_ok
    have hml : c.maxLocals = 7 := B.maxLocals_eq (hts0 _ List.mem_cons_self)
    have X₀ : Stand p l e room_1 s m #[Value.ref b] below meth c s₁ [] 0 0 := Stand.of_body B
    have hh0 : s₁.heap = s.heap := by rw [B.state]; rfl
    have hsz : scr.slots.size = xs.length := by rw [← Array.length_toList, hlist, List.length_map]
    have hval : ∀ j : Nat, j < xs.length → scr.slots[j]? = some (.int (xs.getD j 0)) := fun j hj => by
      rw [← Array.getElem?_toList, hlist]
      simp [hj]
    have hbl : b < s.heap.size := (Array.getElem?_eq_some_iff.mp hcb).1
    have hX : va_X b xs.length (fun j => xs.getD j 0) s s.heap := ⟨scr, hcb, hof, hkn, hsz, hval⟩
    have K : W p l e room_1 s m #[Value.ref b] below meth c s₁.heap [] 0 0 (lw_Z below #[Value.ref b] s) (entryFrame m ([Value.ref b] : List Value).toArray 7) := by
      rw [hh0]
      exact whole_start l htr hbd ⟨B.exec, B.bytes, B.returns, hml, hown, hts, hX, hbl, B.notSynchronized, hgv⟩
    obtain ⟨t, a1, o, b1, b2, b3⟩ := K s₁ rfl X₀
    exact ⟨t, o, a1, b1, b2, b3⟩
theorem lw_pre_spec {args : Array Value} {s : State} (h : (Jvm.Cond.and given_1 narrow_1).before args s = true) (hr : rest_1_c.before args s = true) : ∃ (b : Addr) (xs : List Int32), lw_P b xs args s := by
  have hs := flat_of_before _ h
  have hq := flat_of_before _ hr
  have hc : (Cond.count 1).before args s = true := hs _ (by decide +kernel)
  have harr : (Cond.arrayOf (.arg 0) .int).before args s = true := hs _ (by decide +kernel)
  have hle : (Cond.le (.length (.arg 0)) (.int 3074)).before args s = true := hs _ (by decide +kernel)
  have hlen : (Cond.isInt (.length (.arg 0))).before args s = true := hq _ (by decide +kernel)
  have hall : (Cond.all (.arg 0) (.isInt (.elem (.arg 0) (.index 0)))).before args s = true := hq _ (by decide +kernel)
  obtain ⟨b, xs, hb, hx⟩ := State.ints_of_pre rfl harr hlen hall
  have hsm : xs.length < 2 ^ 31 := hx.choose_spec.2.2.2
  have hev : (Term.length (.arg 0)).eval args s none [] s = some (.int xs.length.toInt32) := hx.length_eval hb
  have hv := Cond.le_ints hev (show (Term.int 3074).eval args s none [] s = some (.int 3074) from rfl)
  have hd : xs.length.toInt32 ≤ 3074 := by
    simpa [Cond.before, Cond.holds, hv] using hle
  have hN : xs.length ≤ 3074 := (Int32.ofNat_le_ofNat hsm (by decide)).mp (show Int32.ofNat xs.length ≤ Int32.ofNat 3074 from hd)
  exact ⟨b, xs, Cond.one_arg hc (show args[0]? = some (.ref b) from hb), hx, hN, h⟩
theorem lw_comes (l : Launch) (htr : l.stackTraces = false) : Comes l x (Jvm.Cond.code x code maxLocals ret :: tables_1) room_1 (fun tb e args s => Calls_1 tb e args s ∧ rest_1 tb e args s ∧ Pre_1 tb e args s)
    (fun _ _ args s o t => lw_Q args s o t) := by
  intro p e ha hc hk s m args below hf hfit hheap happ hpre
  obtain ⟨b, xs, hP⟩ := lw_pre_spec hpre.2.2 hpre.2.1
  obtain ⟨k, o, h1, h2, h3, hQ⟩ := lw_walk l htr b xs p e ha hc hk s m args below hf ((Spec.applies_iff_loose hf).mp happ).1 hP trivial
  exact ⟨k, o, h1, h2, h3, hQ⟩
theorem lw_frame {s t : State} {o : Outcome} {args : Array Value} (h : Framed s o t [] 123806 8724654) :
    Framed s o t (fieldLocs frame_1_writes args s ++ arrayLocs frame_1_arrays args s ++ staticLocs frame_1_statics s) 123806 8724654 := h
theorem lw_limb (L : Cond) (hL : ∀ (args : Array Value) (s t : State), L.after args s (.returned (some (.int 1))) t = true) :
    ArmFor flags0 classFile x code maxLocals ret World_1 tables_1 room_1 Calls_1 rest_1 Pre_1
      (fun tb e a s o t => postC L tb e a s o t ∧ Framed s o t (fieldLocs frame_1_writes a s ++ arrayLocs frame_1_arrays a s ++ staticLocs frame_1_statics s) 123806 8724654) := by
  intro l hfl _ _ p e ha hc hk s m args below hf hfit hheap happ hpre
  have htr : l.stackTraces = false := by unfold Launch.stackTraces; rw [hfl]; decide
  obtain ⟨k, o, h1, h2, h3, rfl, hF⟩ := lw_comes l htr p e ha hc hk s m args below hf hfit hheap happ hpre
  exact ⟨k, _, h1, h2, h3, hL args s _, lw_frame hF⟩
theorem i_vc : Claimed_1_1 ∧ Claimed_1_2 := ⟨lw_limb limb_1_1 (fun args s t => by simp [limb_1_1, Cond.after, Cond.holds, Cond.value]), lw_limb limb_1_2 (fun args s t => Cond.after_iff.mpr (by
  first | (rw [show limb_1_2 = Cond.eq .result (.int 1) from rfl, Cond.eq_ints (x := 1) (y := 1) rfl rfl]; simp; done) | (simp [limb_1_2, Cond.value, Term.eval]; done)))⟩
