/-! ===== the small machine runs as the large one does ===== -/
def rmD (d : Nat) : Room := { frames := d + 8, cells := 0, slots := 0, locals := 64 * d + 400 }
theorem rng_map {α : Type} (ws : List α) : (List.range ws.length).map (fun i => ws[i]?) = ws.map some := by
  apply List.ext_getElem?
  intro j
  rw [List.getElem?_map, List.getElem?_map]
  by_cases h : j < ws.length
  · rw [List.getElem?_range h, List.getElem?_eq_getElem h]
    simp [h]
  · rw [List.getElem?_eq_none_iff.mpr (by simpa using h), List.getElem?_eq_none_iff.mpr (by omega)]
    rfl
theorem wld_rng {B : MB} {adr ln : Nat → Nat} {tI tB tZ : ClassId} {σ : MS} : (List.range (nW B)).map (fun i => (wld B adr ln tI tB tZ σ)[i]?) = (wld B adr ln tI tB tZ σ).map some := by
  have h := rng_map (wld B adr ln tI tB tZ σ)
  rw [wld_len] at h
  exact h
theorem va_nd_of {l : List Nat} (h : l.Nodup) : va_nd l = true := by
  induction l with
  | nil => rfl
  | cons a r ih =>
    rw [List.nodup_cons] at h
    show (decide (a ∉ r) && va_nd r) = true
    rw [ih h.2]
    simp [h.1]
theorem nd_rng {B : MB} : va_nd (List.range (nW B)) = true := va_nd_of List.nodup_range
theorem mlv_args (adr : Nat → Nat) (av : List MV) : ∀ k : Nat, lv_args k (av.map (mv adr)) = lvm adr (mlv k av) := by
  induction av with
  | nil => intro k; rfl
  | cons v r ih =>
    intro k
    show (k, mv adr v) :: lv_args (if (mv adr v).category = 2 then k + 2 else k + 1) (r.map (mv adr)) = (k, mv adr v) :: lvm adr (mlv (k + 1) r)
    rw [mv_cat, if_neg (by decide), ih]
theorem sl_len (adr : Nat → Nat) (av : List MV) : (lg_sl (av.map (mv adr))).length = av.length := by
  induction av with
  | nil => rfl
  | cons v r ih =>
    have e : lg_sl ((v :: r).map (mv adr)) = [Slot.val (mv adr v)] ++ lg_sl (r.map (mv adr)) := by
      show (if (mv adr v).category = 2 then [Slot.val (mv adr v), .second] else [Slot.val (mv adr v)]) ++ lg_sl (r.map (mv adr)) = _
      rw [mv_cat, if_neg (by decide)]
    rw [e, List.length_append, ih]
    simp [Nat.add_comm]
theorem cat_sum (adr : Nat → Nat) (r : List MV) : ((r.map (mv adr)).map fun v => v.category).sum = r.length := by
  induction r with
  | nil => rfl
  | cons v r ih => simp only [List.map_cons, List.sum_cons, mv_cat, ih, List.length_cons]; omega
def mQ (D : va_G) (tI tB tZ tL : ClassId) (A : Nat → Prop) (B : MB) (adr ln : Nat → Nat) (below : List Frame) (args : Array Value) (s : State) (r : Option Int32) (σ : MS) : State → Prop := match r with
  | none => MQ below (va_Qv (fun _ : Unit => True) (cPost D tI tB tZ tL A (fun _ : Unit => wld B adr ln tI tB tZ σ)) A) args s 0 0 A
  | some v => MQ below (va_Qi (fun (w : Int32) (_ : Unit) => w = v) (cPost D tI tB tZ tL A (fun _ : Unit => wld B adr ln tI tB tZ σ)) A) args s 0 0 A
def SimP (l : Launch) (D : va_G) (tI tB tZ tL : ClassId) (X : (Nat → Prop) → State → Prop) (B : MB) (adr ln : Nat → Nat) (n : Nat) : Prop :=
  ∀ (d oc : Nat) (cd : ByteArray) (nL rt pc : Nat) (st : List MV) (lv : List (Nat × MV)) (σ : MS) (r : Option Int32) (σ' : MS), mrun B ln n d oc cd nL rt pc st lv σ = some (r, σ') → rt ≤ 2 →
    ∀ (p : Program) (e : Env) (s : State) (m : MethodId) (args : Array Value) (below : List Frame) (meth : Method) (c : Code) (A : Nat → Prop) (H : Heap) (locs : List Loc) (ls : Array Slot), Cx p m c cd nL s args (clsN oc) D tI tB tZ tL X A → meth.sig.returnType = rtT rt → meth.locks = false → Wd D A s (wld B adr ln tI tB tZ σ) H locs → lv_has ls nL (lvm adr lv) →
      W p l e (rmD d) s m args below meth c H locs 0 0 (mQ D tI tB tZ tL A B adr ln below args s r σ') (F0 m pc ls (st.map (mv adr)))
/-- the answer is there where the kind says so -/
theorem mrun_ret {B : MB} {ln : Nat → Nat} : ∀ (n d oc : Nat) (cd : ByteArray) (nL rt pc : Nat) (st : List MV) (lv : List (Nat × MV)) (σ : MS) (r : Option Int32) (σ' : MS), mrun B ln n d oc cd nL rt pc st lv σ = some (r, σ') → (r = none ∧ rt = 0) ∨ (∃ v, r = some v ∧ (rt = 1 ∨ rt = 2 ∧ (v = 0 ∨ v = 1))) := by
  intro n
  induction n with
  | zero => intro d oc cd nL rt pc st lv σ r σ' h; cases h
  | succ n ih =>
    intro d oc cd nL rt pc st lv σ r σ' h
    unfold mrun at h
    split at h
    · cases h
    · split at h
      · split at h
        · rename_i h2; cases h; exact Or.inl ⟨rfl, h2.2.1⟩
        · cases h
      · split at h
        · split at h
          · rename_i h2; cases h; exact Or.inr ⟨_, rfl, h2.2⟩
          · cases h
        · cases h
      · split at h
        · split at h
          · cases h
          · split at h
            · split at h
              · split at h
                · split at h
                  · cases h
                  · exact ih _ _ _ _ _ _ _ _ _ _ _ h
                · cases h
              · cases h
            · split at h
              · split at h
                · cases h
                · exact ih _ _ _ _ _ _ _ _ _ _ _ h
              · cases h
        · cases h
      · split at h
        · split at h
          · cases h
          · split at h
            · split at h
              · split at h
                · split at h
                  · cases h
                  · exact ih _ _ _ _ _ _ _ _ _ _ _ h
                · cases h
              · cases h
            · split at h
              · split at h
                · cases h
                · exact ih _ _ _ _ _ _ _ _ _ _ _ h
              · cases h
        · cases h
      · split at h
        · split at h
          · cases h
          · exact ih _ _ _ _ _ _ _ _ _ _ _ h
        · cases h
section SimC
variable {l : Launch} {D : va_G} {tI tB tZ tL : ClassId} {X : (Nat → Prop) → State → Prop} {B : MB} {adr ln : Nat → Nat} {n d oc nL : Nat} {cd : ByteArray} {y : MethodName} {av : List MV} {σ σ' : MS}
theorem sim_ctV (hX : Ro X) (hP : SimP l D tI tB tZ tL X B adr ln n) (hc : y.cls = clsN oc) (hp : plainName y.cls = true) (hav : av.length ≤ nL) (h : mrun B ln n d oc cd nL 0 0 [] (mlv 0 av) σ = some (none, σ')) :
    CtV l D tI tB tZ tL X y cd nL (rmD d) (av.map (mv adr)) (wld B adr ln tI tB tZ σ) (fun _ : Unit => True) (fun _ => wld B adr ln tI tB tZ σ') := by
  refine CtV.start hX hp (by rw [sl_len]; exact hav) ?_
  intro p e s m args below meth c A ls C hr hlk _ hW hl
  rw [mlv_args] at hl
  rw [hc] at C
  exact hP d oc cd nL 0 0 [] (mlv 0 av) σ none σ' h (by decide) p e s m args below meth c A s.heap [] ls C hr hlk hW hl
theorem sim_ctI (hX : Ro X) (hP : SimP l D tI tB tZ tL X B adr ln n) (hc : y.cls = clsN oc) (hp : plainName y.cls = true) (hav : av.length ≤ nL) {rt : Nat} {ty : FieldType} (hrt : rtT rt = some ty) (h2 : rt ≤ 2) {v : Int32} (h : mrun B ln n d oc cd nL rt 0 [] (mlv 0 av) σ = some (some v, σ')) :
    CtI l D tI tB tZ tL X y cd nL ty (rmD d) (av.map (mv adr)) (wld B adr ln tI tB tZ σ) (fun (w : Int32) (_ : Unit) => w = v) (fun _ => wld B adr ln tI tB tZ σ') := by
  refine CtI.start hX hp (by rw [sl_len]; exact hav) ?_
  intro p e s m args below meth c A ls C hr hlk hW hl
  rw [mlv_args] at hl
  rw [hc] at C
  exact hP d oc cd nL rt 0 [] (mlv 0 av) σ (some v) σ' h h2 p e s m args below meth c A s.heap [] ls C (by rw [hrt]; exact hr) hlk hW hl
end SimC
section OwnRows7
variable {p : Program} {l : Launch} {e : Env} {R : Room} {s : State} {m : MethodId} {args : Array Value} {below : List Frame} {meth : Method} {c : Code} {H : Heap} {locs : List Loc} {cells slots : Nat} {Q : State → Prop} {cc : ByteArray} {nL : Nat} {own : String} {D : va_G} {tI tB tZ tL : ClassId} {X : (Nat → Prop) → State → Prop} {A : Nat → Prop} {ws : va_W} {ls : Array Slot} {pc : Nat}
theorem r_callSnI {S : Type} {post : Int32 → S → Prop} {w1 : S → va_W} {y : MethodName} {cd : ByteArray} {ret : FieldType} {n index : Nat} {rm : Room} {wc wr : va_W} {st : List Value} {host : String} (As : List Value) (rest : List Value) (C : Cx p m c cc nL s args own D tI tB tZ tL X A) (hsz : ls.size = nL) (hW : Wd D A s ws H locs) (hM : CtI l D tI tB tZ tL X y cd n ret rm As wc post w1) (ok : okS y cd n (some ret) As.length) (hl : ∀ a : Array Value, (Cond.methodLinkNest own index y host).before a s = true)
    (isC isR : List Nat) (hC : isC.map (fun i => ws[i]?) = wc.map some) (hR : isR.map (fun i => ws[i]?) = wr.map some) (hnC : va_nd isC = true) (hnR : va_nd isR = true) (hdis : ∀ i ∈ isR, i ∉ isC)
    (hst : st = As.reverse ++ rest) (hro : rm.frames + 1 ≤ R.frames ∧ 8 + (n + 11) + rm.locals ≤ R.locals) (hw8 : (rest.map fun v => v.category).sum ≤ 8) (hf : cells + rm.cells ≤ R.cells ∧ slots + rm.slots ≤ R.slots) (hdg : decode cc pc = .ok (.invokestatic index, 3))
    (kk : ∀ (r : Int32) (u : S) (H1 : Heap) (locs1 : List Loc), post r u → Wd D A s (wr ++ w1 u) H1 locs1 → W p l e R s m args below meth c H1 locs1 (cells + rm.cells) (slots + rm.slots) Q (F0 m (pc + 3) ls (.int r :: rest))) : W p l e R s m args below meth c H locs cells slots Q (F0 m pc ls st) := by
  have hFc := va_free hW.2.1 hW.2.2 C.2.2.1 isC hC
  have hws := pay_in C.1.2.2.2.2 (gT ok.1)
  refine va_calli (va_runSN (As := As) (rest := rest) (n := As.length) (host := host) (bytes := cd) (maxL := n) (ret := some ret) C.1 (hM H.size) ⟨⟨⟨rfl, rfl, hro.1, hro.2, hws, List.mem_cons_self⟩, C.1.2.2.2.2 _ ok.1, C.1.2.2.2.2 _ ok.2.2.1, ⟨ok.2.2.2.1, ok.2.2.2.2.1⟩, (fun sig h => by
    have h2 := ok.2.2.2.2.2
    rw [h] at h2
    exact (Option.some.inj h2).symm), hl args⟩, C.1.2.2.2.2 _ ok.2.1, trivial⟩ ⟨c_pre_blind C.2.2.2.2, c_pre_at C hW isC hnC hC⟩ rfl rfl hsz hst (lv_room hw8) hdg hf) hW.2.2 (fun q _ h => hFc q h) hFc (fun r u t H1 locs1 ht hvm hw hB hz1 hk1 hS => ?_)
  obtain ⟨hP1, hK1, hD1⟩ := hB
  rw [ht] at hP1
  obtain ⟨hP, hD⟩ := va_join hW.1 hW.2.1 isC isR hC hR hnR hdis hk1 hFc hP1 hD1
  exact kk r u H1 locs1 hw ⟨hP, hD, hS⟩
end OwnRows7
