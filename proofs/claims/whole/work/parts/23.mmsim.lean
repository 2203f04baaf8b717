/-! ===== one instruction of the small machine is one of the large one ===== -/
def MX (adr : Nat → Nat) (A : Nat → Prop) (U : State) : Prop := sJ A U ∧ (∀ s bs, stx s = some bs → sAt (adr s) (adr (3000 + s)) bs A U) ∧ (∀ oc idx s, mks oc idx = some (.inr s) → ∃ tx, vk_R (clsN oc) idx tx (adr s) U) ∧ (∀ r l, srow r = some l → va_T .int (adr r) l.length (fun j => .int (l.getD j 0)) A U U.heap) ∧ va_Z "MarkupJudge$Store" "LEAST" "[I" (.ref (adr 2000)) A U U.heap ∧ va_Z "MarkupJudge$Reader" "NAME_STARTS" "[I" (.ref (adr 2001)) A U U.heap ∧ (∀ w ∈ nsT, ∀ a : Array Value, w.before a U = true)
theorem mfl_ok {oc idx ci f : Nat} (h : mfl oc idx = some (ci, f)) : ∃ q : vw_C, vC[ci]? = some q ∧ f < q.2.2 ∧ Cond.fieldLink (clsN oc) idx (q.2.1 f).1 (q.2.1 f).2.1 (q.2.1 f).2.2.1 ∈ lwG := by
  unfold mfl at h
  cases hf : (flT.getD oc []).find? (fun e => e.1 == idx) with
  | none => rw [hf] at h; cases h
  | some e =>
    rw [hf] at h
    have h2 : e.2 = (ci, f) := Option.some.inj h
    have hm := List.mem_of_find?_eq_some hf
    have hi : e.1 = idx := by simpa using List.find?_some hf
    have hp := flOk oc e hm
    unfold FlP at hp
    rw [hi, h2] at hp
    exact hp
theorem mks_int {oc idx : Nat} {v : Int32} (h : mks oc idx = some (.inl v)) : Cond.constant (clsN oc) idx v ∈ lwG := by
  unfold mks at h
  cases hf : (ksT.getD oc []).find? (fun e => e.1 == idx) with
  | none => rw [hf] at h; cases h
  | some e =>
    rw [hf] at h
    have h2 : e.2 = .inl v := Option.some.inj h
    have hm := List.mem_of_find?_eq_some hf
    have hi : e.1 = idx := by simpa using List.find?_some hf
    have hp := ksOk oc e hm
    unfold KsP at hp
    rw [hi, h2] at hp
    exact hp
theorem mlk_ok {oc idx : Nat} {e : ML} (h : mlk oc idx = some e) : MlP oc (idx, e) := by
  unfold mlk at h
  cases hf : (mlT.getD oc []).find? (fun e => e.1 == idx) with
  | none => rw [hf] at h; cases h
  | some q =>
    rw [hf] at h
    have h2 : q.2 = e := Option.some.inj h
    have hm := List.mem_of_find?_eq_some hf
    have hi : q.1 = idx := by simpa using List.find?_some hf
    have hp := mlOk oc q hm
    have e3 : q = (idx, e) := by rw [← hi, ← h2]
    rw [e3] at hp
    exact hp
theorem mss_ok {oc idx v : Nat} (h : mss oc idx = some v) : (oc = 1 ∧ idx = 137 ∧ v = 2000) ∨ (oc = 2 ∧ idx = 49 ∧ v = 2001) := by
  unfold mss at h
  cases hf : (ssT.getD oc []).find? (fun e => e.1 == idx) with
  | none => rw [hf] at h; cases h
  | some e =>
    rw [hf] at h
    have h2 : e.2 = v := Option.some.inj h
    have hm := List.mem_of_find?_eq_some hf
    have hi : e.1 = idx := by simpa using List.find?_some hf
    match oc, hm with
    | 1, hm =>
      have hm' : e ∈ [(137, 2000)] := hm
      rw [List.mem_singleton] at hm'
      subst hm'
      exact Or.inl ⟨rfl, hi.symm, h2.symm⟩
    | 2, hm =>
      have hm' : e ∈ [(49, 2001)] := hm
      rw [List.mem_singleton] at hm'
      subst hm'
      exact Or.inr ⟨rfl, hi.symm, h2.symm⟩
    | 0, hm => exact absurd (show e ∈ [] from hm) List.not_mem_nil
    | 3, hm => exact absurd (show e ∈ [] from hm) List.not_mem_nil
    | 4, hm => exact absurd (show e ∈ [] from hm) List.not_mem_nil
    | 5, hm => exact absurd (show e ∈ [] from hm) List.not_mem_nil
    | 6, hm => exact absurd (show e ∈ [] from hm) List.not_mem_nil
    | 7, hm => exact absurd (show e ∈ [] from hm) List.not_mem_nil
    | 8, hm => exact absurd (show e ∈ [] from hm) List.not_mem_nil
    | 9, hm => exact absurd (show e ∈ [] from hm) List.not_mem_nil
    | 10, hm => exact absurd (show e ∈ [] from hm) List.not_mem_nil
    | 11, hm => exact absurd (show e ∈ [] from hm) List.not_mem_nil
    | 12, hm => exact absurd (show e ∈ [] from hm) List.not_mem_nil
    | 13, hm => exact absurd (show e ∈ [] from hm) List.not_mem_nil
    | 14, hm => exact absurd (show e ∈ [] from hm) List.not_mem_nil
    | 15, hm => exact absurd (show e ∈ [] from hm) List.not_mem_nil
    | 16, hm => exact absurd (show e ∈ [] from hm) List.not_mem_nil
    | k + 17, hm => exact absurd (show e ∈ [] from hm) List.not_mem_nil
theorem w_LEAST : Cond.fieldLink "MarkupJudge$Store" 137 "MarkupJudge$Store" "LEAST" "[I" ∈ lwG := s_5 (List.mem_of_getElem? (i := 224) rfl) rfl
theorem w_NSTARTS : Cond.fieldLink "MarkupJudge$Reader" 49 "MarkupJudge$Reader" "NAME_STARTS" "[I" ∈ lwG := s_6 (List.mem_of_getElem? (i := 114) rfl) rfl
theorem mjmp_ok {pc t : Nat} {off : Int} (h : mjmp pc off = some t) : (pc : Int) + off = (t : Int) := by
  unfold mjmp at h
  split at h
  · cases h
    omega
  · cases h
theorem min_in {i : Int32} {n : Nat} (h : min? i n = true) : vp_in i n := of_decide_eq_true (p := ¬ (i < 0 ∨ n ≤ i.toNatClampNeg)) h
theorem rk_ty {tI tB tZ : ClassId} {q : Nat} (h : rk q = 0) : tyN tI tB tZ (rk q) = tI := by rw [h]; rfl
section SimOps
variable {p : Program} {l : Launch} {e : Env} {R : Room} {s : State} {m : MethodId} {args : Array Value} {below : List Frame} {meth : Method} {c : Code} {H : Heap} {locs : List Loc} {cells slots : Nat} {Q : State → Prop} {cd : ByteArray} {nL : Nat} {oc : Nat} {D : va_G} {tI tB tZ tL : ClassId} {X : (Nat → Prop) → State → Prop} {A : Nat → Prop} {ls : Array Slot} {rest : List Value} {pc : Nat} {B : MB} {adr ln : Nat → Nat} {σ : MS}
theorem s_get (C : Cx p m c cd nL s args (clsN oc) D tI tB tZ tL X A) (hW : Wd D A s (wld B adr ln tI tB tZ σ) H locs) {idx o ci f : Nat} {v : MV} (hf : mfl oc idx = some (ci, f)) (ho : inO B o) (hk : kls o = ci) (hg : mget σ o f = some v) (hdg : decode cd pc = .ok (.getfield idx, 3))
    (kk : W p l e R s m args below meth c H locs cells slots Q (F0 m (pc + 3) ls (mv adr v :: rest))) : W p l e R s m args below meth c H locs cells slots Q (F0 m pc ls (.ref (adr o) :: rest)) := by
  obtain ⟨q, h1, h2, h3⟩ := mfl_ok hf
  obtain ⟨kd, h4, h5⟩ := mget_fv (adr := adr) hg
  have hlt : ci < 17 := (List.getElem?_eq_some_iff.mp h1).1
  obtain ⟨q', ty, c1, c2, -, -⟩ := clOk ci hlt
  cases h1.symm.trans c1
  obtain ⟨Cn, T, N⟩ := q
  exact r_get (fs := (fkL o).mapIdx (fun j q => fv adr q (σ.1 o j))) C hW (ixO B o) (wld_o ho) (by rw [hk]; exact h1) c2 f h2 (by rw [fs_at h4, h5]) h3 hdg kk
theorem s_put (C : Cx p m c cd nL s args (clsN oc) D tI tB tZ tL X A) (hW : Wd D A s (wld B adr ln tI tB tZ σ) H locs) {idx o ci f : Nat} {v : MV} {τ : MS} (hf : mfl oc idx = some (ci, f)) (ho : inO B o) (hk : kls o = ci) (hg : mput σ o f v = some τ) (hdg : decode cd pc = .ok (.putfield idx, 3))
    (kk : ∀ (H1 : Heap) (locs1 : List Loc), Wd D A s (wld B adr ln tI tB tZ τ) H1 locs1 → W p l e R s m args below meth c H1 locs1 cells slots Q (F0 m (pc + 3) ls rest)) : W p l e R s m args below meth c H locs cells slots Q (F0 m pc ls (mv adr v :: .ref (adr o) :: rest)) := by
  obtain ⟨q, h1, h2, h3⟩ := mfl_ok hf
  obtain ⟨kd, x, ty1, g1, g2, g3, g4, g5, g6, g7⟩ := mput_ok (adr := adr) (q := q) ho.2.2 (by rw [hk]; exact h1) hg
  have hlt : ci < 17 := (List.getElem?_eq_some_iff.mp h1).1
  obtain ⟨q', ty, c1, c2, c3, c4⟩ := clOk ci hlt
  cases h1.symm.trans c1
  obtain ⟨Cn, T, N⟩ := q
  refine r_put (fs := (fkL o).mapIdx (fun j q => fv adr q (σ.1 o j))) C hW (ixO B o) (wld_o ho) (by rw [hk]; exact h1) c2 ty c3 c4 f h2 h3 g4 g5 g6 g7 (by rw [List.length_mapIdx]; exact (List.getElem?_eq_some_iff.mp g1).1) hdg (fun H1 l1 hW1 => kk H1 l1 ?_)
  subst g2
  have e := wld_setO (B := B) (adr := adr) (ln := ln) (tI := tI) (tB := tB) (tZ := tZ) (σ := σ) (τ := (ud σ.1 o f x, σ.2)) ho rfl (mobj_eq (g := σ.1) (x := x) g1) (fun p hp => mobj_ne p hp)
  rw [← e]
  rw [g3]
  exact hW1
theorem mrow_at {q : Nat} (hq : hvQ B q) {t : ClassId} (ht : tyN tI tB tZ (rk q) = t) : (wld B adr ln tI tB tZ σ)[ixQ B q]? = some (adr (100 + q), .inl (t, ln q, .inl (σ.2 q))) := by
  rw [wld_r hq]
  unfold mrow
  rw [ht]
theorem s_ld (C : Cx p m c cd nL s args (clsN oc) D tI tB tZ tL X A) (hW : Wd D A s (wld B adr ln tI tB tZ σ) H locs) (hmx : MX adr A s) {b : Bool} {r : Nat} {i v : Int32} (h : mld B ln σ b r i = some v) (hdg : decode cd pc = .ok (if b = true then .baload else .iaload, 1))
    (kk : W p l e R s m args below meth c H locs cells slots Q (F0 m (pc + 1) ls (.int v :: rest))) : W p l e R s m args below meth c H locs cells slots Q (F0 m pc ls (.int i :: .ref (adr r) :: rest)) := by
  unfold mld at h
  split at h
  · split at h
    · rename_i h2
      obtain ⟨hQ, hb, hin⟩ := h2
      have hQ1 := hQ.1
      have hQ2 := hQ.2.1
      have hv := Option.some.inj h
      have er : 100 + (r - 100) = r := by omega
      have hq : hvQ B (r - 100) := ⟨by omega, by omega⟩
      cases b with
      | false =>
        have hk : rk (r - 100) = 0 := by
          rcases Nat.eq_zero_or_pos (rk (r - 100)) with z | z
          · exact z
          · exact absurd (hb.mpr (by omega)) (by decide)
        have ha := mrow_at (B := B) (adr := adr) (ln := ln) (σ := σ) hq (rk_ty (tI := tI) (tB := tB) (tZ := tZ) hk)
        rw [er] at ha
        exact r_ild C hW (ixQ B (r - 100)) ha (min_in hin) hv hdg kk
      | true =>
        have hk : rk (r - 100) ≠ 0 := hb.mp rfl
        by_cases h1 : rk (r - 100) = 1
        · have ha := mrow_at (B := B) (adr := adr) (ln := ln) (σ := σ) hq (show tyN tI tB tZ (rk (r - 100)) = tB by rw [h1]; rfl)
          rw [er] at ha
          exact r_bld C hW (ixQ B (r - 100)) ha (min_in hin) hv hdg kk
        · have ha := mrow_at (B := B) (adr := adr) (ln := ln) (σ := σ) hq (show tyN tI tB tZ (rk (r - 100)) = tZ by
            unfold tyN
            split
            · exact absurd (by assumption) hk
            · exact absurd (by assumption) h1
            · rfl)
          rw [er] at ha
          exact r_zld C hW (ixQ B (r - 100)) ha (min_in hin) hv hdg kk
    · cases h
  · split at h
    · rename_i lst hs
      split at h
      · rename_i h2
        obtain ⟨hb, hin⟩ := h2
        subst hb
        have hv := Option.some.inj h
        exact va_ti C.1.1 C.1.2.1 (hmx.2.2.2.1 r lst hs) hW.2.2 (min_in hin) (by rw [hv]) hdg kk
      · cases h
    · cases h
theorem s_st (C : Cx p m c cd nL s args (clsN oc) D tI tB tZ tL X A) (hW : Wd D A s (wld B adr ln tI tB tZ σ) H locs) {b : Bool} {r : Nat} {i x : Int32} {τ : MS} (h : msto B ln σ b r i x = some τ) (hdg : decode cd pc = .ok (if b = true then .bastore else .iastore, 1))
    (kk : ∀ (H1 : Heap) (locs1 : List Loc), Wd D A s (wld B adr ln tI tB tZ τ) H1 locs1 → W p l e R s m args below meth c H1 locs1 cells slots Q (F0 m (pc + 1) ls rest)) : W p l e R s m args below meth c H locs cells slots Q (F0 m pc ls (.int x :: .int i :: .ref (adr r) :: rest)) := by
  unfold msto at h
  split at h
  · rename_i h2
    obtain ⟨hQ, hb, hin⟩ := h2
    have hQ1 := hQ.1
    have hQ2 := hQ.2.1
    cases h
    have er : 100 + (r - 100) = r := by omega
    have hq : hvQ B (r - 100) := ⟨by omega, by omega⟩
    have key : ∀ (t : ClassId) (y : Int32), tyN tI tB tZ (rk (r - 100)) = t → mnar (rk (r - 100)) x = y → (wld B adr ln tI tB tZ σ).set (ixQ B (r - 100)) (adr r, .inl (t, ln (r - 100), .inl (upd (σ.2 (r - 100)) i.toNatClampNeg y))) = wld B adr ln tI tB tZ (σ.1, ud σ.2 (r - 100) i.toNatClampNeg (mnar (rk (r - 100)) x)) := by
      intro t y ht hy
      refine wld_setR hq rfl ?_ (fun p hp => ud_ne hp)
      unfold mrow
      dsimp only
      rw [ud_eq, ht, hy, er]
    cases b with
    | false =>
      have hk : rk (r - 100) = 0 := by
        rcases Nat.eq_zero_or_pos (rk (r - 100)) with z | z
        · exact z
        · exact absurd (hb.mpr (by omega)) (by decide)
      have ha := mrow_at (B := B) (adr := adr) (ln := ln) (σ := σ) hq (rk_ty (tI := tI) (tB := tB) (tZ := tZ) hk)
      rw [er] at ha
      refine r_ist C hW (ixQ B (r - 100)) ha (min_in hin) hdg (fun H1 l1 hW1 => kk H1 l1 ?_)
      rw [← key tI x (rk_ty hk) (by rw [hk]; rfl)]
      exact hW1
    | true =>
      have hk : rk (r - 100) ≠ 0 := hb.mp rfl
      by_cases h1 : rk (r - 100) = 1
      · have ht : tyN tI tB tZ (rk (r - 100)) = tB := by rw [h1]; rfl
        have ha := mrow_at (B := B) (adr := adr) (ln := ln) (σ := σ) hq ht
        rw [er] at ha
        refine r_bst C hW (ixQ B (r - 100)) ha (min_in hin) hdg (fun H1 l1 hW1 => kk H1 l1 ?_)
        rw [← key tB (vp_nar .byte x) ht (by rw [h1]; rfl)]
        exact hW1
      · have ht : tyN tI tB tZ (rk (r - 100)) = tZ := by
          unfold tyN
          split
          · exact absurd (by assumption) hk
          · exact absurd (by assumption) h1
          · rfl
        have hy : mnar (rk (r - 100)) x = vp_nar .boolean x := by
          unfold mnar
          split
          · exact absurd (by assumption) hk
          · exact absurd (by assumption) h1
          · rfl
        have ha := mrow_at (B := B) (adr := adr) (ln := ln) (σ := σ) hq ht
        rw [er] at ha
        refine r_zst C hW (ixQ B (r - 100)) ha (min_in hin) hdg (fun H1 l1 hW1 => kk H1 l1 ?_)
        rw [← key tZ _ ht hy]
        exact hW1
  · cases h
theorem s_len (C : Cx p m c cd nL s args (clsN oc) D tI tB tZ tL X A) (hW : Wd D A s (wld B adr ln tI tB tZ σ) H locs) (hmx : MX adr A s) {r : Nat} {v : Int32} (h : mlen B ln r = some v) (hdg : decode cd pc = .ok (.arraylength, 1))
    (kk : W p l e R s m args below meth c H locs cells slots Q (F0 m (pc + 1) ls (.int v :: rest))) : W p l e R s m args below meth c H locs cells slots Q (F0 m pc ls (.ref (adr r) :: rest)) := by
  unfold mlen at h
  split at h
  · rename_i h2
    cases h
    have hQ1 := h2.1
    have hQ2 := h2.2.1
    have er : 100 + (r - 100) = r := by omega
    have hq : hvQ B (r - 100) := ⟨by omega, by omega⟩
    have ha := mrow_at (B := B) (adr := adr) (ln := ln) (σ := σ) (tI := tI) (tB := tB) (tZ := tZ) hq rfl
    rw [er] at ha
    by_cases h0 : rk (r - 100) = 0
    · exact r_len C hW (ixQ B (r - 100)) 0 ha (ty := .int) (by rw [h0]; rfl) hdg kk
    · by_cases h1 : rk (r - 100) = 1
      · exact r_len C hW (ixQ B (r - 100)) 1 ha (ty := .byte) (by rw [h1]; rfl) hdg kk
      · refine r_len C hW (ixQ B (r - 100)) 2 ha (ty := .boolean) ?_ hdg kk
        have ht : tyN tI tB tZ (rk (r - 100)) = tZ := by
          unfold tyN
          split
          · exact absurd (by assumption) h0
          · exact absurd (by assumption) h1
          · rfl
        rw [ht]
        rfl
  · cases hs : srow r with
    | none => rw [hs] at h; cases h
    | some lst =>
      rw [hs] at h
      cases h
      exact va_tlen C.1.1 C.1.2.1 (hmx.2.2.2.1 r lst hs) hW.2.2 rfl hdg kk
end SimOps
