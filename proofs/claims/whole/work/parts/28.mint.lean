theorem ok_Str_indexOf0 : okV y_Str_indexOf0 b_Str_indexOf0 2 (some .int) 1 := ⟨s_7 (List.mem_of_getElem? (i := 68) rfl) rfl, s_7 (List.mem_of_getElem? (i := 66) rfl) rfl, s_7 (List.mem_of_getElem? (i := 67) rfl) rfl, s_1 (List.mem_of_getElem? (i := 5) rfl) rfl, ⟨by decide +kernel, by decide +kernel, by decide +kernel⟩⟩
theorem w_acN : Cond.native arraycopyName ∈ lwG := s_5 (List.mem_of_getElem? (i := 8) rfl) rfl
theorem w_acS : Cond.static arraycopyName ∈ lwG := s_5 (List.mem_of_getElem? (i := 7) rfl) rfl
theorem w_acI : Cond.initialized "java/lang/System" ∈ lwG := s_1 (List.mem_of_getElem? (i := 32) rfl) rfl
/-! ===== the JDK's members, as the small machine has them ===== -/
theorem arrV_congr {t : ClassId} {n : Nat} {f g : Nat → Value} (h : ∀ j, j < n → f j = g j) : arrV t n f = arrV t n g := by
  unfold arrV
  congr 1
  apply Array.ext
  · simp
  · intro i h1 h2
    simp only [Array.getElem_ofFn]
    exact h i (by simpa using h1)
section MintW
variable {p : Program} {l : Launch} {e : Env} {R : Room} {s : State} {m : MethodId} {args : Array Value} {below : List Frame} {meth : Method} {c : Code} {H H1 : Heap} {locs locs1 : List Loc} {cells slots : Nat} {Q : State → Prop} {cc cd : ByteArray} {nL : Nat} {own : String} {D : va_G} {tI tB tZ tL : ClassId} {X : (Nat → Prop) → State → Prop} {A : Nat → Prop} {ws : va_W} {ls : Array Slot} {rest : List Value} {pc : Nat}
/-- a callee that was given one cell alone -/
theorem Wd.one {k : Nat} {c0 c1 : Nat × va_E} (hW : Wd D A s ws H locs) (hk : ws[k]? = some c0) (ha : c1.1 = c0.1) (h1 : Wd D A s (ws.eraseIdx k ++ [c1]) H1 locs1) : Wd D A s (ws.set k c1) H1 locs1 := by
  have hlt : k < ws.length := (List.getElem?_eq_some_iff.mp hk).1
  refine ⟨fun j q hq => ?_, ⟨fun i j q q' hi hj he => ?_, fun j q hq => ?_⟩, h1.2.2⟩
  · rw [List.getElem?_set] at hq
    by_cases e : k = j
    · rw [if_pos e, if_pos (by omega)] at hq
      cases hq
      obtain ⟨i, hi⟩ := List.mem_iff_getElem?.mp (List.mem_append_right (ws.eraseIdx k) (List.mem_singleton.mpr rfl : c1 ∈ [c1]))
      exact h1.1 i _ hi
    · rw [if_neg e] at hq
      have hm : q ∈ ws.eraseIdx k := List.mem_eraseIdx_iff_getElem?.mpr ⟨j, fun z => e z.symm, hq⟩
      obtain ⟨i, hi⟩ := List.mem_iff_getElem?.mp (List.mem_append_left [c1] hm)
      exact h1.1 i _ hi
  · have key : ∀ (j : Nat) (q : Nat × va_E), (ws.set k c1)[j]? = some q → ∃ q0, ws[j]? = some q0 ∧ q0.1 = q.1 := by
      intro j q hq
      rw [List.getElem?_set] at hq
      by_cases e : k = j
      · rw [if_pos e, if_pos (by omega)] at hq
        cases hq
        exact ⟨c0, e ▸ hk, ha.symm⟩
      · rw [if_neg e] at hq
        exact ⟨q, hq, rfl⟩
    obtain ⟨q0, g1, g2⟩ := key i q hi
    obtain ⟨q1, g3, g4⟩ := key j q' hj
    exact hW.2.1.1 i j q0 q1 g1 g3 (by rw [g2, g4]; exact he)
  · rw [List.getElem?_set] at hq
    by_cases e : k = j
    · rw [if_pos e, if_pos (by omega)] at hq
      cases hq
      rw [ha]
      exact hW.2.1.2 k c0 hk
    · rw [if_neg e] at hq
      exact hW.2.1.2 j q hq
/-- a row's places beyond its length say nothing -/
theorem Wd.cong {k a n : Nat} {t : ClassId} {f g : Nat → Int32} (hk : k < ws.length) (h : Wd D A s (ws.set k (a, .inl (t, n, .inl f))) H locs) (hfg : ∀ j, j < n → f j = g j) : Wd D A s (ws.set k (a, .inl (t, n, .inl g))) H locs := by
  have key : ∀ (j : Nat) (q : Nat × va_E), (ws.set k (a, .inl (t, n, .inl g)))[j]? = some q → ∃ q0, (ws.set k (a, .inl (t, n, .inl f)))[j]? = some q0 ∧ q0.1 = q.1 ∧ (va_at D vC q0 H → va_at D vC q H) := by
    intro j q hq
    rw [List.getElem?_set] at hq ⊢
    by_cases e : k = j
    · rw [if_pos e, if_pos (by omega)] at hq ⊢
      cases hq
      refine ⟨_, rfl, rfl, fun z => ?_⟩
      have e2 : vp_cell t (n, .inl f) = vp_cell t (n, .inl g) := by
        show arrV t n (fun j => Value.int (f j)) = arrV t n (fun j => Value.int (g j))
        exact arrV_congr (fun j hj => congrArg Value.int (hfg j hj))
      show H[a]? = some (vp_cell t (n, .inl g))
      rw [← e2]
      exact z
    · rw [if_neg e] at hq ⊢
      exact ⟨q, hq, rfl, fun z => z⟩
  refine ⟨fun j q hq => ?_, ⟨fun i j q q' hi hj he => ?_, fun j q hq => ?_⟩, h.2.2⟩
  · obtain ⟨q0, g1, -, g3⟩ := key j q hq
    exact g3 (h.1 j q0 g1)
  · obtain ⟨q0, g1, g2, -⟩ := key i q hi
    obtain ⟨q1, g3, g4, -⟩ := key j q' hj
    exact h.2.1.1 i j q0 q1 g1 g3 (by rw [g2, g4]; exact he)
  · obtain ⟨q0, g1, g2, -⟩ := key j q hq
    rw [← g2]
    exact h.2.1.2 j q0 g1
theorem er_map {k : Nat} : ((List.range ws.length).eraseIdx k).map (fun i => ws[i]?) = (ws.eraseIdx k).map some := by
  have key : ∀ j : Nat, ((List.range ws.length)[j]?).map (fun i => ws[i]?) = (ws[j]?).map some := fun j => by
    rw [← List.getElem?_map, ← List.getElem?_map, rng_map]
  apply List.ext_getElem?
  intro j
  rw [List.getElem?_map, List.getElem?_map, List.getElem?_eraseIdx, List.getElem?_eraseIdx]
  split
  · exact key j
  · exact key (j + 1)
theorem er_nd {k n : Nat} : va_nd ((List.range n).eraseIdx k) = true := va_nd_of (List.Nodup.sublist (List.eraseIdx_sublist _ _) List.nodup_range)
theorem er_dis {k n : Nat} : ∀ i ∈ (List.range n).eraseIdx k, i ∉ [k] := by
  intro i hi hk
  rw [List.mem_singleton] at hk
  subst hk
  obtain ⟨j, hj, hg⟩ := List.mem_eraseIdx_iff_getElem?.mp hi
  have hlt : j < (List.range n).length := (List.getElem?_eq_some_iff.mp hg).1
  rw [List.getElem?_range (by simpa using hlt)] at hg
  exact hj (Option.some.inj hg)
/-- a static call that is given one cell -/
theorem r_callS1 {S : Type} {post : S → Prop} {w1 : S → Nat × va_E} {y : MethodName} {n index : Nat} {rm : Room} {k : Nat} {c0 : Nat × va_E} {st : List Value} (As : List Value) (C : Cx p m c cc nL s args own D tI tB tZ tL X A) (hsz : ls.size = nL) (hW : Wd D A s ws H locs) (hk : ws[k]? = some c0) (hM : CtV l D tI tB tZ tL X y cd n rm As [c0] post (fun u => [w1 u])) (ok : okS y cd n none As.length) (hl : Cond.methodLink own index y ∈ lwG) (ha : ∀ u, (w1 u).1 = c0.1)
    (hst : st = As.reverse ++ rest) (hro : rm.frames + 1 ≤ R.frames ∧ 8 + (n + 11) + rm.locals ≤ R.locals) (hw8 : (rest.map fun v => v.category).sum ≤ 8) (hf : cells + rm.cells ≤ R.cells ∧ slots + rm.slots ≤ R.slots) (hdg : decode cc pc = .ok (.invokestatic index, 3))
    (kk : ∀ (u : S) (H1 : Heap) (locs1 : List Loc), post u → Wd D A s (ws.set k (w1 u)) H1 locs1 → W p l e R s m args below meth c H1 locs1 (cells + rm.cells) (slots + rm.slots) Q (F0 m (pc + 3) ls rest)) : W p l e R s m args below meth c H locs cells slots Q (F0 m pc ls st) :=
  r_callS As rest C hsz hW hM ok hl [k] ((List.range ws.length).eraseIdx k) (by simp [hk]) er_map rfl er_nd er_dis hst hro hw8 hf hdg (fun u H1 l1 hp hW1 => kk u H1 l1 hp (hW.one hk (ha u) hW1))
end MintW
theorem nI_ofn {c : Int32} (h : 0 ≤ c) : c = nI c.toNatClampNeg ∧ c.toNatClampNeg < 2 ^ 31 := by
  have z := Int32.le_iff_toInt_le.mp h
  have e0 : (0 : Int32).toInt = 0 := by decide
  have e2 : c.toNatClampNeg = c.toInt.toNat := rfl
  have hu := Int32.toInt_lt c
  have hlt : c.toNatClampNeg < 2 ^ 31 := by omega
  refine ⟨?_, hlt⟩
  apply Int32.toInt_inj.mp
  rw [nI_toInt hlt]
  omega
set_option maxRecDepth 100000 in
theorem stx_asc : ∀ bs ∈ stxT, bs.length < 1000 ∧ ∀ b ∈ bs, 0 ≤ b ∧ b ≤ 127 ∧ b &&& 255 = b := by decide +kernel
theorem stx_ok {q : Nat} {bs : List Int32} (h : stx q = some bs) : bs.length < 1000 ∧ ∀ j, j < bs.length → 0 ≤ bs.getD j 0 ∧ bs.getD j 0 ≤ 127 ∧ bs.getD j 0 &&& 255 = bs.getD j 0 := by
  unfold stx at h
  split at h
  · have hm := List.mem_of_getElem? h
    refine ⟨(stx_asc bs hm).1, fun j hj => ?_⟩
    rw [List.getD_eq_getElem?_getD, List.getElem?_eq_getElem hj]
    exact (stx_asc bs hm).2 _ (List.getElem_mem hj)
  · cases h
theorem rm_j {d a b : Nat} (h1 : a ≤ 7) (h2 : b ≤ 340) : a + 1 ≤ (rmD d).frames ∧ 8 + (20 + 11) + b ≤ (rmD d).locals := by simp only [rmD]; omega
theorem nfw_ac : nativeFrameWords "java/lang/System" "arraycopy" 5 ≤ 300 := by decide +kernel
theorem mint_row {B : MB} {q : Nat} (h : inQ B q) : 100 + (q - 100) = q ∧ hvQ B (q - 100) := by
  have h1 := h.1
  have h2 := h.2.1
  exact ⟨by omega, by omega, by omega⟩
/-- a text's member with no cell of the world -/
theorem IntS_all {l : Launch} {D : va_G} {tI tB tZ tL : ClassId} {X : (Nat → Prop) → State → Prop} {B : MB} {adr ln : Nat → Nat} (hX : Ro X) (hmx : ∀ A U, X A U → MX adr A U) (hln : ∀ q, ln q < 2 ^ 30) (hw20 : ∀ (oc idx : Nat), Cond.methodLink (clsN oc) idx y_KReader_wordOf ∈ lwG → ∀ (t : Int32) (r : List MV) (σ : MS), r.length ≤ 8 → ∀ (d nL pc : Nat) (cd : ByteArray) (Q : State → Prop) (p : Program) (e : Env) (s : State) (m : MethodId) (args : Array Value) (below : List Frame) (meth : Method) (c : Code) (A : Nat → Prop) (H : Heap) (locs : List Loc) (ls : Array Slot), Cx p m c cd nL s args (clsN oc) D tI tB tZ tL X A → Wd D A s (wld B adr ln tI tB tZ σ) H locs → ls.size = nL → decode cd pc = .ok (.invokestatic idx, 3) → (∀ (H' : Heap) (locs' : List Loc), Wd D A s (wld B adr ln tI tB tZ σ) H' locs' → W p l e (rmD d) s m args below meth c H' locs' 0 0 Q (F0 m (pc + 3) ls (.ref (adr (if t.toInt < 0 ∨ 6 < t.toInt then 1000 + wordD else 1000 + wordT.getD t.toNatClampNeg 0)) :: r.map (mv adr)))) → W p l e (rmD d) s m args below meth c H locs 0 0 Q (F0 m pc ls (.int t :: r.map (mv adr)))) : IntS l D tI tB tZ tL X B adr ln := by
  intro oc idx kd q hml hkd st st' σ σ' h h8 d nL pc cd Q p e s m args below meth c A H locs ls C hMX hW hsz hdg kk
  have hT := C.1.2.2.2.2
  unfold mint at h
  split at h
  · rename_i s0 r
    cases hs : stx s0 with
    | none => rw [hs] at h; cases h
    | some bs =>
      rw [hs] at h
      cases h
      have hv : ∀ A U, X A U → sAt (adr s0) (adr (3000 + s0)) bs A U := fun A U hx => (hmx A U hx).2.1 s0 bs hs
      have hb31 : bs.length < 2 ^ 31 := Nat.lt_trans (stx_ok hs).1 (by decide)
      have hr8 : r.length ≤ 8 := by simp only [List.length_cons] at h8; omega
      refine r_callXi [] (r.map (mv adr)) C hsz hW (c_Str_length l D tI tB tZ tL X hX (adr s0) (adr (3000 + s0)) bs (fun A U hx => (hmx A U hx).1) hv hb31) ok_Str_length hml (wr := wld B adr ln tI tB tZ σ) [] (List.range (nW B)) rfl wld_rng rfl nd_rng (fun i hi => List.not_mem_nil) (r_recv C hW (hv A s C.2.2.2.1).1) rfl (by simp only [rmD]; omega) (by rw [cat_sum]; exact hr8) ⟨Nat.le_refl 0, Nat.le_refl 0⟩ (by simpa using hdg) (fun w u H1 locs1 hu hW1 => ?_)
      subst hu
      rw [List.append_nil] at hW1
      exact kk H1 locs1 hW1
  · rename_i i s0 r
    split at h
    · rename_i bs hs
      split at h
      · rename_i hin
        cases h
        have hin' := min_in hin
        have hi0 : 0 ≤ i := Int32.not_lt.mp (fun z => hin' (Or.inl z))
        have hk : i.toNatClampNeg < bs.length := Nat.lt_of_not_le (fun z => hin' (Or.inr z))
        have hv : ∀ A U, X A U → sAt (adr s0) (adr (3000 + s0)) bs A U := fun A U hx => (hmx A U hx).2.1 s0 bs hs
        have hb31 : bs.length < 2 ^ 31 := Nat.lt_trans (stx_ok hs).1 (by decide)
        have hr8 : r.length ≤ 8 := by simp only [List.length_cons] at h8; omega
        have hM := c_Str_charAt l D tI tB tZ tL X hX (adr s0) (adr (3000 + s0)) bs (fun A U hx => (hmx A U hx).1) hv i.toNatClampNeg hk hb31
        rw [← (nI_ofn hi0).1] at hM
        refine r_callXi [.int i] (r.map (mv adr)) C hsz hW hM ok_Str_charAt hml (wr := wld B adr ln tI tB tZ σ) [] (List.range (nW B)) rfl wld_rng rfl nd_rng (fun i hi => List.not_mem_nil) (r_recv C hW (hv A s C.2.2.2.1).1) rfl (by simp only [rmD]; omega) (by rw [cat_sum]; exact hr8) ⟨Nat.le_refl 0, Nat.le_refl 0⟩ (by simpa using hdg) (fun w u H1 locs1 hu hW1 => ?_)
        rw [((stx_ok hs).2 _ hk).2.2] at hu
        subst hu
        rw [List.append_nil] at hW1
        exact kk H1 locs1 hW1
      · cases h
    · cases h
  · rename_i ch s0 r
    cases hs : stx s0 with
    | none => rw [hs] at h; cases h
    | some bs =>
      rw [hs] at h
      cases h
      have hv : ∀ A U, X A U → sAt (adr s0) (adr (3000 + s0)) bs A U := fun A U hx => (hmx A U hx).2.1 s0 bs hs
      have hb31 : bs.length < 2 ^ 31 := Nat.lt_trans (stx_ok hs).1 (by decide)
      have hr8 : r.length ≤ 8 := by simp only [List.length_cons] at h8; omega
      refine r_callXi [.int ch] (r.map (mv adr)) C hsz hW (c_Str_indexOf1 l D tI tB tZ tL X hX (adr s0) (adr (3000 + s0)) bs (fun A U hx => (hmx A U hx).1) hv hb31 (fun j hj => ⟨((stx_ok hs).2 j hj).1, ((stx_ok hs).2 j hj).2.1⟩) ch) ok_Str_indexOf0 hml (wr := wld B adr ln tI tB tZ σ) [] (List.range (nW B)) rfl wld_rng rfl nd_rng (fun i hi => List.not_mem_nil) (r_recv C hW (hv A s C.2.2.2.1).1) rfl (by simp only [rmD]; omega) (by rw [cat_sum]; exact hr8) ⟨Nat.le_refl 0, Nat.le_refl 0⟩ (by simpa using hdg) (fun w u H1 locs1 hu hW1 => ?_)
      subst hu
      rw [List.append_nil] at hW1
      exact kk H1 locs1 hW1
  · rename_i y x r
    cases h
    have hr8 : r.length ≤ 8 := by simp only [List.length_cons] at h8; omega
    exact r_minx C hsz hml (by simp only [rmD]; omega) (by rw [cat_sum]; simp only [rmD]; omega) (Nat.le_refl 0) (Nat.le_refl 0) (by simpa using hdg) (kk H locs hW)
  · rename_i y x r
    cases h
    have hr8 : r.length ≤ 8 := by simp only [List.length_cons] at h8; omega
    exact r_maxx C hsz hml (by simp only [rmD]; omega) (by rw [cat_sum]; simp only [rmD]; omega) (Nat.le_refl 0) (Nat.le_refl 0) (by simpa using hdg) (kk H locs hW)
  · rename_i v q0 r
    split at h
    · rename_i h3
      obtain ⟨hQ, hrk⟩ := h3
      cases h
      obtain ⟨er, hq⟩ := mint_row hQ
      have hr8 : st'.length ≤ 8 := by simp only [List.length_cons] at h8; omega
      have ha := mrow_at (B := B) (adr := adr) (ln := ln) (σ := σ) hq (rk_ty (tI := tI) (tB := tB) (tZ := tZ) hrk)
      rw [er] at ha
      refine r_callS1 [.ref (adr q0), .int v] C hsz hW ha (c_fill l D tI tB tZ tL X hX (adr q0) (ln (q0 - 100)) v (σ.2 (q0 - 100)) (hln _)) ok_Arrays_fill0 hml (fun u => rfl) rfl (by simp only [rmD]; omega) (by rw [cat_sum]; exact hr8) ⟨Nat.le_refl 0, Nat.le_refl 0⟩ (by simpa using hdg) (fun g H1 locs1 hg hW1 => ?_)
      have hW2 := Wd.cong (by have g1 := hq.1; have g2 := hq.2; rw [wld_len]; unfold ixQ nW; omega) hW1 (g := fun _ => v) hg
      have e3 := wld_setR (B := B) (adr := adr) (ln := ln) (tI := tI) (tB := tB) (tZ := tZ) (σ := σ) (τ := (σ.1, fun p => if p = q0 - 100 then fun _ => v else σ.2 p)) (q := (adr q0, .inl (tI, ln (q0 - 100), .inl (fun _ => v)))) hq rfl (by
        unfold mrow
        rw [er, rk_ty hrk]
        simp) (fun p hp => if_neg hp)
      rw [e3] at hW2
      exact kk H1 locs1 hW2
    · cases h
  · rename_i v t f q0 r
    split at h
    · rename_i h3
      obtain ⟨hQ, hrk, hf0, hft, htl⟩ := h3
      cases h
      obtain ⟨er, hq⟩ := mint_row hQ
      have hr8 : st'.length ≤ 8 := by simp only [List.length_cons] at h8; omega
      have ha := mrow_at (B := B) (adr := adr) (ln := ln) (σ := σ) hq (rk_ty (tI := tI) (tB := tB) (tZ := tZ) hrk)
      rw [er] at ha
      have ht0 : 0 ≤ t := Int32.le_trans hf0 hft
      obtain ⟨ef, hf31⟩ := nI_ofn hf0
      obtain ⟨et, ht31⟩ := nI_ofn ht0
      have hle : f.toNatClampNeg ≤ t.toNatClampNeg := (nI_leI hf31 ht31).mp (by rw [← ef, ← et]; exact hft)
      have hM := c_fillr l D tI tB tZ tL X hX (adr q0) (ln (q0 - 100)) f.toNatClampNeg t.toNatClampNeg v (σ.2 (q0 - 100)) hle htl (hln _)
      rw [← ef, ← et] at hM
      refine r_callS1 [.ref (adr q0), .int f, .int t, .int v] C hsz hW ha hM ok_Arrays_fill1 hml (fun u => rfl) rfl (by simp only [rmD]; omega) (by rw [cat_sum]; exact hr8) ⟨Nat.le_refl 0, Nat.le_refl 0⟩ (by simpa using hdg) (fun g H1 locs1 hg hW1 => ?_)
      have e3 := wld_setR (B := B) (adr := adr) (ln := ln) (tI := tI) (tB := tB) (tZ := tZ) (σ := σ) (τ := (σ.1, fun p => if p = q0 - 100 then fun j => if f.toNatClampNeg ≤ j ∧ j < t.toNatClampNeg then v else σ.2 p j else σ.2 p)) (q := (adr q0, .inl (tI, ln (q0 - 100), .inl g))) hq rfl (by
        unfold mrow
        rw [er, rk_ty hrk]
        have eg : g = fun j => if f.toNatClampNeg ≤ j ∧ j < t.toNatClampNeg then v else σ.2 (q0 - 100) j := funext hg
        rw [eg]
        simp) (fun p hp => if_neg hp)
      rw [e3] at hW1
      exact kk H1 locs1 hW1
    · cases h
  · rename_i n dp d0 sp s0 r
    split at h
    · rename_i h3
      obtain ⟨hs1, hd1, hrk, hfit, hn0, hsp0, hdp0, hsl, hdl⟩ := h3
      cases h
      obtain ⟨er1, hq1⟩ := mint_row hs1
      obtain ⟨er2, hq2⟩ := mint_row hd1
      have hr8 : st'.length ≤ 8 := by simp only [List.length_cons] at h8; omega
      have ha1 := mrow_at (B := B) (adr := adr) (ln := ln) (σ := σ) hq1 (rfl : tyN tI tB tZ (rk (s0 - 100)) = _)
      have ha2 := mrow_at (B := B) (adr := adr) (ln := ln) (σ := σ) hq2 (show tyN tI tB tZ (rk (d0 - 100)) = tyN tI tB tZ (rk (s0 - 100)) by rw [hrk])
      rw [er1] at ha1
      rw [er2] at ha2
      have key : ∀ (t0 : Nat) (ty : FieldType), (tyL tI tB tZ tL)[t0]? = some (tyN tI tB tZ (rk (s0 - 100)), ty) → refKind ty = false → (∀ i, i < n.toNatClampNeg → fits ty (.int (σ.2 (s0 - 100) (sp.toNatClampNeg + i))) = true) → W p l e (rmD d) s m args below meth c H locs 0 0 Q (F0 m pc ls ((Sum.inl n :: Sum.inl dp :: Sum.inr d0 :: Sum.inl sp :: Sum.inr s0 :: st' : List MV).map (mv adr))) := by
        intro t0 ty ht hp hfi
        refine va_copyi C.1.1 C.1.2.1 (by rw [C.1.2.2.1, hsz]) C.1.2.2.2.1 (hT _ hml) (hT _ w_acN) (hT _ w_acS) (hT _ w_acI) C.2.1 hW.1 hW.2.1 hW.2.2 (ixQ B (s0 - 100)) (ixQ B (d0 - 100)) t0 t0 ha1 ha2 ht ht hp (Int32.not_lt.mpr hsp0) (Int32.not_lt.mpr hdp0) (Int32.not_lt.mpr hn0) hsl hdl hfi (by simp only [rmD]; omega) (by rw [cat_sum]; simp only [rmD]; have hz := nfw_ac; omega) (by simpa using hdg) (fun H1 locs1 hP1 hD1 hS1 => ?_)
        have e3 := wld_setR (B := B) (adr := adr) (ln := ln) (tI := tI) (tB := tB) (tZ := tZ) (σ := σ) (τ := (σ.1, fun p => if p = d0 - 100 then va_cpy (σ.2 (s0 - 100)) (σ.2 (d0 - 100)) sp.toNatClampNeg dp.toNatClampNeg n.toNatClampNeg else σ.2 p)) (q := (adr d0, .inl (tyN tI tB tZ (rk (s0 - 100)), ln (d0 - 100), .inl (va_cpy (σ.2 (s0 - 100)) (σ.2 (d0 - 100)) sp.toNatClampNeg dp.toNatClampNeg n.toNatClampNeg)))) hq2 rfl (by
          unfold mrow
          rw [er2, hrk]
          simp) (fun p hp => if_neg hp)
        rw [e3] at hP1 hD1
        exact kk H1 locs1 ⟨hP1, hD1, hS1⟩
      rcases hfit with h0 | ⟨h0, hfi⟩
      · exact key 0 .int (by rw [h0]; rfl) rfl (fun i hi => rfl)
      · exact key 1 .byte (by rw [h0]; rfl) rfl hfi
    · cases h
  · rename_i t r
    cases h
    have hr8 : r.length ≤ 8 := by simp only [List.length_cons] at h8; omega
    exact hw20 oc idx hml t r σ hr8 d nL pc cd Q p e s m args below meth c A H locs ls C hW hsz (by simpa using hdg) kk
  · cases h
