theorem w_minC : Cond.code Lib.Math.min.name Lib.Math.min.code 2 (some .int) ∈ lwG := s_1 (List.mem_of_getElem? (i := 54) (by decide +kernel)) rfl
theorem w_minS : Cond.static Lib.Math.min.name ∈ lwG := s_1 (List.mem_of_getElem? (i := 53) rfl) rfl
theorem w_minI : Cond.initialized "java/lang/Math" ∈ lwG := s_1 (List.mem_of_getElem? (i := 3) rfl) rfl
theorem nI_min {a b : Nat} (ha : a < 2 ^ 31) (hb : b < 2 ^ 31) : (if nI b < nI a then nI b else nI a) = nI (min a b) := by
  by_cases h : b < a
  · rw [if_pos (nI_lt h ha), Nat.min_eq_right (Nat.le_of_lt h)]
  · rw [if_neg (nI_nlt (Nat.le_of_not_lt h) hb), Nat.min_eq_left (Nat.le_of_not_lt h)]
section OwnRows2
variable {p : Program} {l : Launch} {e : Env} {R : Room} {s : State} {m : MethodId} {args : Array Value} {below : List Frame} {meth : Method} {c : Code} {H : Heap} {locs : List Loc} {cells slots : Nat} {Q : State → Prop} {cc : ByteArray} {nL : Nat} {own : String} {D : va_G} {tI tB tZ tL : ClassId} {X : (Nat → Prop) → State → Prop} {A : Nat → Prop} {ws : va_W} {ls : Array Slot} {rest : List Value} {pc : Nat}
theorem r_min (C : Cx p m c cc nL s args own D tI tB tZ tL X A) (hsz : ls.size = nL) {index : Nat} (hl : Cond.methodLink own index Lib.Math.min.name ∈ lwG) (hfr : 1 ≤ R.frames) (hlo : (rest.map fun v => v.category).sum + 13 ≤ R.locals) (hc : cells ≤ R.cells) (hs : slots ≤ R.slots) {x y : Int32} (a b : Nat) (hx : x = nI a) (hy : y = nI b) (ha : a < 2 ^ 31) (hb : b < 2 ^ 31) (hdg : decode cc pc = .ok (.invokestatic index, 3))
    (kk : W p l e R s m args below meth c H locs cells slots Q (F0 m (pc + 3) ls (.int (nI (min a b)) :: rest))) : W p l e R s m args below meth c H locs cells slots Q (F0 m pc ls (.int y :: .int x :: rest)) := by
  subst hx; subst hy
  refine va_mmin C.1.1 C.1.2.1 (by rw [C.1.2.2.1, hsz]) C.1.2.2.2.1 (C.1.2.2.2.2 _ hl) (C.1.2.2.2.2 _ w_minS) (C.1.2.2.2.2 _ w_minI) (C.1.2.2.2.2 _ w_minC) hfr hlo hc hs hdg ?_
  rw [nI_min ha hb]
  exact kk
theorem r_ldI (C : Cx p m c cc nL s args own D tI tB tZ tL X A) (hW : Wd D A s ws H locs) (q0 : Nat) {a n : Nat} {f : Nat → Int32} (ha : ws[q0]? = some (a, .inl (tI, n, .inl f))) {i : Int32} (k : Nat) (hi : i = nI k) (hk : k < n) (hn : n < 2 ^ 31) (hdg : decode cc pc = .ok (.iaload, 1))
    (kk : W p l e R s m args below meth c H locs cells slots Q (F0 m (pc + 1) ls (.int (f k) :: rest))) : W p l e R s m args below meth c H locs cells slots Q (F0 m pc ls (.int i :: .ref a :: rest)) := by
  subst hi
  exact r_ild C hW q0 ha (vp_in_nI hk hn) (by rw [nI_clamp (Nat.lt_trans hk hn)]) hdg kk
theorem r_ldB (C : Cx p m c cc nL s args own D tI tB tZ tL X A) (hW : Wd D A s ws H locs) (q0 : Nat) {a n : Nat} {f : Nat → Int32} (ha : ws[q0]? = some (a, .inl (tB, n, .inl f))) {i : Int32} (k : Nat) (hi : i = nI k) (hk : k < n) (hn : n < 2 ^ 31) (hdg : decode cc pc = .ok (.baload, 1))
    (kk : W p l e R s m args below meth c H locs cells slots Q (F0 m (pc + 1) ls (.int (f k) :: rest))) : W p l e R s m args below meth c H locs cells slots Q (F0 m pc ls (.int i :: .ref a :: rest)) := by
  subst hi
  exact r_bld C hW q0 ha (vp_in_nI hk hn) (by rw [nI_clamp (Nat.lt_trans hk hn)]) hdg kk
theorem r_ldZ (C : Cx p m c cc nL s args own D tI tB tZ tL X A) (hW : Wd D A s ws H locs) (q0 : Nat) {a n : Nat} {f : Nat → Int32} (ha : ws[q0]? = some (a, .inl (tZ, n, .inl f))) {i : Int32} (k : Nat) (hi : i = nI k) (hk : k < n) (hn : n < 2 ^ 31) (hdg : decode cc pc = .ok (.baload, 1))
    (kk : W p l e R s m args below meth c H locs cells slots Q (F0 m (pc + 1) ls (.int (f k) :: rest))) : W p l e R s m args below meth c H locs cells slots Q (F0 m pc ls (.int i :: .ref a :: rest)) := by
  subst hi
  exact r_zld C hW q0 ha (vp_in_nI hk hn) (by rw [nI_clamp (Nat.lt_trans hk hn)]) hdg kk
theorem r_stI (C : Cx p m c cc nL s args own D tI tB tZ tL X A) (hW : Wd D A s ws H locs) (q0 : Nat) {a n : Nat} {f : Nat → Int32} (ha : ws[q0]? = some (a, .inl (tI, n, .inl f))) {i x : Int32} (k : Nat) (hi : i = nI k) (hk : k < n) (hn : n < 2 ^ 31) (hdg : decode cc pc = .ok (.iastore, 1))
    (kk : ∀ (H1 : Heap) (locs1 : List Loc), Wd D A s (ws.set q0 (a, .inl (tI, n, .inl (upd f k x)))) H1 locs1 → W p l e R s m args below meth c H1 locs1 cells slots Q (F0 m (pc + 1) ls rest)) : W p l e R s m args below meth c H locs cells slots Q (F0 m pc ls (.int x :: .int i :: .ref a :: rest)) := by
  subst hi
  refine r_ist C hW q0 ha (vp_in_nI hk hn) hdg (fun H1 l1 h => ?_)
  rw [nI_clamp (Nat.lt_trans hk hn)] at h
  exact kk H1 l1 h
theorem r_stB (C : Cx p m c cc nL s args own D tI tB tZ tL X A) (hW : Wd D A s ws H locs) (q0 : Nat) {a n : Nat} {f : Nat → Int32} (ha : ws[q0]? = some (a, .inl (tB, n, .inl f))) {i x : Int32} (k : Nat) (hi : i = nI k) (hk : k < n) (hn : n < 2 ^ 31) (hdg : decode cc pc = .ok (.bastore, 1))
    (kk : ∀ (H1 : Heap) (locs1 : List Loc), Wd D A s (ws.set q0 (a, .inl (tB, n, .inl (upd f k (vp_nar .byte x))))) H1 locs1 → W p l e R s m args below meth c H1 locs1 cells slots Q (F0 m (pc + 1) ls rest)) : W p l e R s m args below meth c H locs cells slots Q (F0 m pc ls (.int x :: .int i :: .ref a :: rest)) := by
  subst hi
  refine r_bst C hW q0 ha (vp_in_nI hk hn) hdg (fun H1 l1 h => ?_)
  rw [nI_clamp (Nat.lt_trans hk hn)] at h
  exact kk H1 l1 h
theorem r_stZ (C : Cx p m c cc nL s args own D tI tB tZ tL X A) (hW : Wd D A s ws H locs) (q0 : Nat) {a n : Nat} {f : Nat → Int32} (ha : ws[q0]? = some (a, .inl (tZ, n, .inl f))) {i x : Int32} (k : Nat) (hi : i = nI k) (hk : k < n) (hn : n < 2 ^ 31) (hdg : decode cc pc = .ok (.bastore, 1))
    (kk : ∀ (H1 : Heap) (locs1 : List Loc), Wd D A s (ws.set q0 (a, .inl (tZ, n, .inl (upd f k (vp_nar .boolean x))))) H1 locs1 → W p l e R s m args below meth c H1 locs1 cells slots Q (F0 m (pc + 1) ls rest)) : W p l e R s m args below meth c H locs cells slots Q (F0 m pc ls (.int x :: .int i :: .ref a :: rest)) := by
  subst hi
  refine r_zst C hW q0 ha (vp_in_nI hk hn) hdg (fun H1 l1 h => ?_)
  rw [nI_clamp (Nat.lt_trans hk hn)] at h
  exact kk H1 l1 h
theorem Wd.sub {ws' : va_W} (h : Wd D A s ws H locs) (is : List Nat) (hnd : va_nd is = true) (hs : is.map (fun i => ws[i]?) = ws'.map some) : Wd D A s ws' H locs := ⟨h.1.sub is (by
    have e := congrArg (fun x : List (Option (Nat × va_E)) => x.filterMap id) hs
    simpa [List.filterMap_map] using e), h.2.1.sub is hnd hs, h.2.2⟩
theorem r_recv {q : Nat} {E : String} (C : Cx p m c cc nL s args own D tI tB tZ tL X A) (hW : Wd D A s ws H locs) (h : va_O E q A s s.heap) : ∃ cell : Cell, H[q]? = some cell ∧ cell.vm.isStatics = false ∧ s.vm.findClass E = some cell.cls := by
  obtain ⟨cell, h1, h2, h3, -⟩ := h.kept hW.2.2.2.1
  exact ⟨cell, h1, h2, h3⟩
theorem r_callXi {S : Type} {post : Int32 → S → Prop} {w1 : S → va_W} {y : MethodName} {cd : ByteArray} {ret : FieldType} {n b index : Nat} {rm : Room} {wc wr : va_W} {st : List Value} (As : List Value) (rest : List Value) (C : Cx p m c cc nL s args own D tI tB tZ tL X A) (hsz : ls.size = nL) (hW : Wd D A s ws H locs) (hM : CtI l D tI tB tZ tL X y cd n ret rm (.ref b :: As) wc post w1) (ok : okV y cd n (some ret) As.length) (hl : Cond.methodLink own index y ∈ lwG)
    (isC isR : List Nat) (hC : isC.map (fun i => ws[i]?) = wc.map some) (hR : isR.map (fun i => ws[i]?) = wr.map some) (hnC : va_nd isC = true) (hnR : va_nd isR = true) (hdis : ∀ i ∈ isR, i ∉ isC) (hrecv : ∃ cell : Cell, H[b]? = some cell ∧ cell.vm.isStatics = false ∧ s.vm.findClass y.cls = some cell.cls)
    (hst : st = As.reverse ++ .ref b :: rest) (hro : rm.frames + 1 ≤ R.frames ∧ 8 + (n + 11) + rm.locals ≤ R.locals) (hw8 : (rest.map fun v => v.category).sum ≤ 8) (hf : cells + rm.cells ≤ R.cells ∧ slots + rm.slots ≤ R.slots) (hdg : decode cc pc = .ok (.invokevirtual index, 3))
    (kk : ∀ (r : Int32) (u : S) (H1 : Heap) (locs1 : List Loc), post r u → Wd D A s (wr ++ w1 u) H1 locs1 → W p l e R s m args below meth c H1 locs1 (cells + rm.cells) (slots + rm.slots) Q (F0 m (pc + 3) ls (.int r :: rest))) : W p l e R s m args below meth c H locs cells slots Q (F0 m pc ls st) := by
  have hFc := va_free hW.2.1 hW.2.2 C.2.2.1 isC hC
  refine va_calli (va_runV (C := y.cls) (As := As) (rest := rest) (n := As.length) C.1 (hM H.size) ⟨callB_of As.length C.1.2.2.2.2 (gT ok.1) rfl rfl rfl (C.1.2.2.2.2 _ ok.2.2.2.1) (C.1.2.2.2.2 _ hl) ok.2.2.2.2 hro, C.1.2.2.2.2 _ ok.2.1, C.1.2.2.2.2 _ ok.2.2.1⟩ ⟨c_pre_blind C.2.2.2.2, hrecv, c_pre_at C hW isC hnC hC⟩ rfl rfl hsz hst (lv_room hw8) hdg hf) hW.2.2 (fun q _ h => hFc q h) hFc (fun r u t H1 locs1 ht hvm hw hB hz1 hk1 hS => ?_)
  obtain ⟨hP1, hK1, hD1⟩ := hB
  rw [ht] at hP1
  obtain ⟨hP, hD⟩ := va_join hW.1 hW.2.1 isC isR hC hR hnR hdis hk1 hFc hP1 hD1
  exact kk r u H1 locs1 hw ⟨hP, hD, hS⟩
theorem W.nameQ {g : JFrame} (h : ∀ Q' : State → Prop, Q' = Q → W p l e R s m args below meth c H locs cells slots Q' g) : W p l e R s m args below meth c H locs cells slots Q g := h Q rfl
end OwnRows2
/-- the new contents of a row at its own place, and elsewhere -/
theorem upd_lt {f : Nat → Int32} {k : Nat} {x : Int32} {P : Nat → Int32 → Prop} (h : ∀ j, j < k → P j (f j)) (hx : P k x) : ∀ j, j < k + 1 → P j (upd f k x j) := fun j hj => by
  by_cases e : j = k
  · subst e; rw [pk_us]; exact hx
  · rw [pk_un e]; exact h j (by omega)
theorem k_le {a b : Nat} (h : nI a ≤ nI b) (ha : a < 2 ^ 31) (hb : b < 2 ^ 31) : a ≤ b := (nI_leI ha hb).mp h
theorem k_nle {a b : Nat} (h : ¬ nI a ≤ nI b) (ha : a < 2 ^ 31) (hb : b < 2 ^ 31) : b < a := Nat.lt_of_not_le (fun q => h ((nI_leI ha hb).mpr q))
theorem k_lt {a b : Nat} (h : nI a < nI b) (ha : a < 2 ^ 31) (hb : b < 2 ^ 31) : a < b := (nI_ltI ha hb).mp h
theorem k_nlt {a b : Nat} (h : ¬ nI a < nI b) (ha : a < 2 ^ 31) (hb : b < 2 ^ 31) : b ≤ a := Nat.le_of_not_lt (fun q => h ((nI_ltI ha hb).mpr q))
theorem k_eq {a b : Nat} (h : nI a = nI b) (ha : a < 2 ^ 31) (hb : b < 2 ^ 31) : a = b := (nI_eq ha hb).mp h
theorem k_ne {a b : Nat} (h : ¬ nI a = nI b) (ha : a < 2 ^ 31) (hb : b < 2 ^ 31) : a ≠ b := fun q => h ((nI_eq ha hb).mpr q)
