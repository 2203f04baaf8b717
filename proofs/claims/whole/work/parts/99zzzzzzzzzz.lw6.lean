/-! ===== the law calls ===== -/
theorem cons_rng {α : Type} (x : α) (w : List α) : ((List.range w.length).map (· + 1)).map (fun i => (x :: w)[i]?) = w.map some := by
  apply List.ext_getElem?
  intro i
  rw [List.getElem?_map, List.getElem?_map, List.getElem?_map]
  by_cases hi : i < w.length
  · rw [List.getElem?_range hi, Option.map_some, Option.map_some, List.getElem?_cons_succ, List.getElem?_eq_getElem hi]
    rfl
  · rw [List.getElem?_eq_none (by rw [List.length_range]; omega), List.getElem?_eq_none (by omega)]
    rfl
theorem wld_ln {adr ln ln' : Nat → Nat} {tI tB tZ : ClassId} {σ : MS} (h : ∀ q, q < 148 → ln' q = ln q) : wld BF adr ln' tI tB tZ σ = wld BF adr ln tI tB tZ σ := by
  unfold wld
  congr 1
  apply List.map_congr_left
  intro q hq
  have : q < 148 := by
    have := List.mem_range'.mp hq
    obtain ⟨i, h1, h2⟩ := this
    have h1 : i < 148 := h1
    have h2 : q = 0 + 1 * i := h2
    omega
  unfold mrow
  rw [h q this]
theorem LE.wld {L L' : Nat → Nat} {adr : Nat → Nat} {tI tB tZ : ClassId} {σ : MS} (h : LE L L') : wld BF adr (LNf L') tI tB tZ σ = wld BF adr (LNf L) tI tB tZ σ := wld_ln (fun q hq => h (100 + q) (by omega))
theorem av_i (As : List Int32) : ((As.map Sum.inl : List MV).map iv).map some = As.map (fun v => some (Sum.inl v.toInt : IV)) := by
  rw [List.map_map, List.map_map]
  rfl
theorem av_v (adr : Nat → Nat) (As : List Int32) : (As.map Sum.inl : List MV).map (mv adr) = As.map Value.int := by
  rw [List.map_map]
  rfl
theorem rng_1 {n : Nat} : va_nd ((List.range n).map (· + 1)) = true := va_nd_of (by
  refine List.Pairwise.map _ ?_ List.nodup_range
  intro a b h
  omega)
section LC
variable {p : Program} {l : Launch} {e : Env} {R : Room} {s : State} {m : MethodId} {args : Array Value} {below : List Frame} {meth : Method} {c : Code} {H : Heap} {locs : List Loc} {cells slots : Nat} {Q : State → Prop} {cc : ByteArray} {nL : Nat} {own : String} {D : va_G} {tI tB tZ tL : ClassId} {X : (Nat → Prop) → State → Prop} {A : Nat → Prop} {ls : Array Slot} {pc : Nat} {L L' adr : Nat → Nat} {τ : MS} {x0 : Nat × va_E}
theorem r_okI {y : MethodName} {cd : ByteArray} {ty : FieldType} {o oc dd rt n index : Nat} {st : List Value} {Q0 : Int → IS → Prop} (As : List Int32) (rest : List Value) (C : Cx p m c cc nL s args own D tI tB tZ tL X A) (hsz : ls.size = nL) (hmx : ∀ A U, X A U → MX adr A U) (hb : ∀ r, L' r < 1073741824) (hle : LE L L') (hW : Wd D A s (x0 :: wld BF adr (LNf L) tI tB tZ τ) H locs)
    (hok : OkI BF L' dd oc cd n rt 0 [] (some (.inr o) :: As.map (fun v => some (.inl v.toInt))) (iS τ) (qi Q0)) (hrt : rtT rt = some ty) (hr2 : rt ≤ 2) (ok : okV y cd n (some ty) As.length) (hcls : y.cls = clsN oc) (hpn : plainName y.cls = true) (ho : inO BF o) (hko : kls o = oc) (hoc : oc < 17) (hn : As.length + 1 ≤ n) (hl : Cond.methodLink own index y ∈ lwG)
    (hst : st = (As.map Value.int).reverse ++ .ref (adr o) :: rest) (hro : (rmD dd).frames + 1 ≤ R.frames ∧ 8 + (n + 11) + (rmD dd).locals ≤ R.locals) (hw8 : (rest.map fun v => v.category).sum ≤ 8) (hf : cells ≤ R.cells ∧ slots ≤ R.slots) (hdg : decode cc pc = .ok (.invokevirtual index, 3))
    (kk : ∀ (v : Int32) (τ' : MS) (H1 : Heap) (locs1 : List Loc), Q0 v.toInt (iS τ') → Wd D A s (x0 :: wld BF adr (LNf L) tI tB tZ τ') H1 locs1 → W p l e R s m args below meth c H1 locs1 cells slots Q (F0 m (pc + 3) ls (.int v :: rest))) : W p l e R s m args below meth c H locs cells slots Q (F0 m pc ls st) := by
  have hX := C.2.2.2.2
  obtain ⟨n0, r, τ', h1, h2⟩ := hok [] (mlv 0 (.inr o :: As.map Sum.inl)) τ rfl (by have := LR_args (.inr o :: As.map Sum.inl); rw [List.map_cons, List.map_cons, av_i] at this; exact this) rfl
  obtain ⟨v0, e1, h3⟩ := h2
  cases r with
  | none => cases e1
  | some v =>
    have e2 : v.toInt = v0 := Option.some.inj e1
    subst e2
    have hln : ∀ q, LNf L' q < 2 ^ 30 := fun q => hb (100 + q)
    have hct := sim_ctI (adr := adr) (tI := tI) (tB := tB) (tZ := tZ) (tL := tL) (l := l) (D := D) (av := .inr o :: As.map Sum.inl) hX (sim_ok hX hmx hln n0) hcls hpn (by rw [List.length_cons, List.length_map]; exact hn) hrt hr2 (h1 n0 (Nat.le_refl _))
    rw [hle.wld, hle.wld, List.map_cons, av_v] at hct
    obtain ⟨q, ty', c1, -, -, -⟩ := clOk oc hoc
    have hq1 : q.1 = y.cls := by
      rw [hcls]
      unfold clsN
      rw [List.getD_eq_getElem?_getD, List.getElem?_map, c1]
      rfl
    obtain ⟨Cn, T, N⟩ := q
    dsimp only at hq1
    subst hq1
    rw [← hko] at c1
    have hW0 := wld_o (B := BF) (adr := adr) (ln := LNf L) (tI := tI) (tB := tB) (tZ := tZ) (σ := τ) ho
    have hCr := cons_rng x0 (wld BF adr (LNf L) tI tB tZ τ)
    rw [wld_len] at hCr
    exact r_callVi (As.map Value.int) rest C hsz hW hct (by rw [List.length_map]; exact ok) hl (wr := [x0]) ((List.range (nW BF)).map (· + 1)) [0] hCr rfl rng_1 (by decide) (fun i hi => by
      rw [List.mem_singleton.mp hi]
      intro z
      obtain ⟨k, -, hk⟩ := List.mem_map.mp z
      omega) (ixO BF o) hW0 c1 hst hro hw8 hf hdg (fun w u H1 locs1 hw hW1 => by
        subst hw
        exact kk w τ' H1 locs1 h3 hW1)
theorem r_okV {y : MethodName} {cd : ByteArray} {o oc dd n index : Nat} {st : List Value} {Q0 : IS → Prop} (As : List Int32) (rest : List Value) (C : Cx p m c cc nL s args own D tI tB tZ tL X A) (hsz : ls.size = nL) (hmx : ∀ A U, X A U → MX adr A U) (hb : ∀ r, L' r < 1073741824) (hle : LE L L') (hW : Wd D A s (x0 :: wld BF adr (LNf L) tI tB tZ τ) H locs)
    (hok : OkI BF L' dd oc cd n 0 0 [] (some (.inr o) :: As.map (fun v => some (.inl v.toInt))) (iS τ) (qv Q0)) (ok : okV y cd n none As.length) (hcls : y.cls = clsN oc) (hpn : plainName y.cls = true) (ho : inO BF o) (hko : kls o = oc) (hoc : oc < 17) (hn : As.length + 1 ≤ n) (hl : Cond.methodLink own index y ∈ lwG)
    (hst : st = (As.map Value.int).reverse ++ .ref (adr o) :: rest) (hro : (rmD dd).frames + 1 ≤ R.frames ∧ 8 + (n + 11) + (rmD dd).locals ≤ R.locals) (hw8 : (rest.map fun v => v.category).sum ≤ 8) (hf : cells ≤ R.cells ∧ slots ≤ R.slots) (hdg : decode cc pc = .ok (.invokevirtual index, 3))
    (kk : ∀ (τ' : MS) (H1 : Heap) (locs1 : List Loc), Q0 (iS τ') → Wd D A s (x0 :: wld BF adr (LNf L) tI tB tZ τ') H1 locs1 → W p l e R s m args below meth c H1 locs1 cells slots Q (F0 m (pc + 3) ls rest)) : W p l e R s m args below meth c H locs cells slots Q (F0 m pc ls st) := by
  have hX := C.2.2.2.2
  obtain ⟨n0, r, τ', h1, h2⟩ := hok [] (mlv 0 (.inr o :: As.map Sum.inl)) τ rfl (by have := LR_args (.inr o :: As.map Sum.inl); rw [List.map_cons, List.map_cons, av_i] at this; exact this) rfl
  obtain ⟨e1, h3⟩ := h2
  cases r with
  | some v => cases e1
  | none =>
    have hln : ∀ q, LNf L' q < 2 ^ 30 := fun q => hb (100 + q)
    have hct := sim_ctV (adr := adr) (tI := tI) (tB := tB) (tZ := tZ) (tL := tL) (l := l) (D := D) (av := .inr o :: As.map Sum.inl) hX (sim_ok hX hmx hln n0) hcls hpn (by rw [List.length_cons, List.length_map]; exact hn) (h1 n0 (Nat.le_refl _))
    rw [hle.wld, hle.wld, List.map_cons, av_v] at hct
    obtain ⟨q, ty', c1, -, -, -⟩ := clOk oc hoc
    have hq1 : q.1 = y.cls := by
      rw [hcls]
      unfold clsN
      rw [List.getD_eq_getElem?_getD, List.getElem?_map, c1]
      rfl
    obtain ⟨Cn, T, N⟩ := q
    dsimp only at hq1
    subst hq1
    rw [← hko] at c1
    have hW0 := wld_o (B := BF) (adr := adr) (ln := LNf L) (tI := tI) (tB := tB) (tZ := tZ) (σ := τ) ho
    have hCr := cons_rng x0 (wld BF adr (LNf L) tI tB tZ τ)
    rw [wld_len] at hCr
    exact r_callV (As.map Value.int) rest C hsz hW hct (by rw [List.length_map]; exact ok) hl (wr := [x0]) ((List.range (nW BF)).map (· + 1)) [0] hCr rfl rng_1 (by decide) (fun i hi => by
      rw [List.mem_singleton.mp hi]
      intro z
      obtain ⟨k, -, hk⟩ := List.mem_map.mp z
      omega) (ixO BF o) hW0 c1 hst hro hw8 hf hdg (fun u H1 locs1 hw hW1 => kk τ' H1 locs1 h3 hW1)
end LC
