/-! ===== the world under reading and writing ===== -/
def lvm (adr : Nat → Nat) (lv : List (Nat × MV)) : List (Nat × Value) := lv.map (fun q => (q.1, mv adr q.2))
theorem mv_cat (adr : Nat → Nat) (v : MV) : (mv adr v).category = 1 := by cases v <;> rfl
theorem lo_mem {lv : List (Nat × MV)} {k : Nat} {v : MV} (h : mlo lv k = some v) : (k, v) ∈ lv := by
  induction lv with
  | nil => cases h
  | cons q r ih =>
    obtain ⟨j, w⟩ := q
    unfold mlo List.lookup at h
    by_cases e : k = j
    · subst e
      simp at h
      subst h
      exact List.mem_cons_self
    · have e2 : (k == j) = false := by simpa using e
      rw [e2] at h
      exact List.mem_cons_of_mem _ (ih h)
theorem lo_at {adr : Nat → Nat} {ls : Array Slot} {nL : Nat} {lv : List (Nat × MV)} {k : Nat} {v : MV} (hl : lv_has ls nL (lvm adr lv)) (h : mlo lv k = some v) : ls[k]? = some (.val (mv adr v)) := hl.2.2 (k, mv adr v) (List.mem_map.mpr ⟨(k, v), lo_mem h, rfl⟩)
theorem st_eq {adr : Nat → Nat} {lv : List (Nat × MV)} {k : Nat} {v : MV} : (k, mv adr v) :: (lvm adr lv).filter (fun q => !(q.1 == k) && !(q.1 + 1 == k && q.2.category == 2)) = lvm adr (mst lv k v) := by
  unfold lvm mst
  rw [List.map_cons, List.filter_map]
  congr 1
  congr 1
  congr 1
  funext q
  simp [mv_cat]
def nW (B : MB) : Nat := B.2.1 + B.2.2.2
def ixO (B : MB) (o : Nat) : Nat := o - B.1
def ixQ (B : MB) (q : Nat) : Nat := B.2.1 + (q - B.2.2.1)
abbrev hvQ (B : MB) (q : Nat) : Prop := B.2.2.1 ≤ q ∧ q < B.2.2.1 + B.2.2.2
theorem wld_len {B : MB} {adr ln : Nat → Nat} {tI tB tZ : ClassId} {σ : MS} : (wld B adr ln tI tB tZ σ).length = nW B := by simp [wld, nW]
theorem wld_at {B : MB} {adr ln : Nat → Nat} {tI tB tZ : ClassId} {σ : MS} {j : Nat} : (wld B adr ln tI tB tZ σ)[j]? = if j < B.2.1 then some (mobj adr σ.1 (B.1 + j)) else if j < nW B then some (mrow adr ln tI tB tZ σ.2 (B.2.2.1 + (j - B.2.1))) else none := by
  by_cases h : j < B.2.1
  · rw [if_pos h]
    unfold wld
    rw [List.getElem?_append_left (by simpa using h), List.getElem?_map, List.getElem?_range' h]
    simp
  · rw [if_neg h]
    by_cases h2 : j < nW B
    · rw [if_pos h2]
      unfold nW at h2
      unfold wld
      rw [List.getElem?_append_right (by simp; omega), List.getElem?_map, List.length_map, List.length_range', List.getElem?_range' (by omega)]
      simp
    · rw [if_neg h2]
      exact List.getElem?_eq_none_iff.mpr (by rw [wld_len]; omega)
theorem wld_o {B : MB} {adr ln : Nat → Nat} {tI tB tZ : ClassId} {σ : MS} {o : Nat} (h : inO B o) : (wld B adr ln tI tB tZ σ)[ixO B o]? = some (mobj adr σ.1 o) := by
  have h1 := h.1
  have h2 := h.2.1
  rw [wld_at, if_pos (by unfold ixO; omega), show B.1 + ixO B o = o by unfold ixO; omega]
theorem wld_r {B : MB} {adr ln : Nat → Nat} {tI tB tZ : ClassId} {σ : MS} {q : Nat} (h : hvQ B q) : (wld B adr ln tI tB tZ σ)[ixQ B q]? = some (mrow adr ln tI tB tZ σ.2 q) := by
  have h1 := h.1
  have h2 := h.2
  rw [wld_at, if_neg (by unfold ixQ; omega), if_pos (by unfold ixQ nW; omega), show B.2.2.1 + (ixQ B q - B.2.1) = q by unfold ixQ; omega]
theorem wld_setO {B : MB} {adr ln : Nat → Nat} {tI tB tZ : ClassId} {σ τ : MS} {o : Nat} {q : Nat × va_E} (h : inO B o) (ha : τ.2 = σ.2) (hq : mobj adr τ.1 o = q) (hn : ∀ p, p ≠ o → mobj adr τ.1 p = mobj adr σ.1 p) : (wld B adr ln tI tB tZ σ).set (ixO B o) q = wld B adr ln tI tB tZ τ := by
  have h1 := h.1
  have h2 := h.2.1
  apply List.ext_getElem?
  intro j
  rw [List.getElem?_set, wld_at, wld_at, wld_len, ha]
  by_cases e : ixO B o = j
  · subst e
    rw [if_pos rfl, if_pos (by unfold ixO nW; omega), if_pos (by unfold ixO; omega), show B.1 + ixO B o = o by unfold ixO; omega, hq]
  · rw [if_neg e]
    by_cases e2 : j < B.2.1
    · rw [if_pos e2, if_pos e2, hn (B.1 + j) (fun z => e (by unfold ixO; omega))]
    · rw [if_neg e2, if_neg e2]
theorem wld_setR {B : MB} {adr ln : Nat → Nat} {tI tB tZ : ClassId} {σ τ : MS} {r : Nat} {q : Nat × va_E} (h : hvQ B r) (ha : τ.1 = σ.1) (hq : mrow adr ln tI tB tZ τ.2 r = q) (hn : ∀ p, p ≠ r → τ.2 p = σ.2 p) : (wld B adr ln tI tB tZ σ).set (ixQ B r) q = wld B adr ln tI tB tZ τ := by
  have g1 := h.1
  have g2 := h.2
  apply List.ext_getElem?
  intro j
  rw [List.getElem?_set, wld_at, wld_at, wld_len, ha]
  by_cases e : ixQ B r = j
  · subst e
    rw [if_pos rfl, if_pos (by unfold ixQ nW; omega), if_neg (by unfold ixQ; omega), if_pos (by unfold ixQ nW; omega), show B.2.2.1 + (ixQ B r - B.2.1) = r by unfold ixQ; omega, hq]
  · rw [if_neg e]
    by_cases h1 : j < B.2.1
    · rw [if_pos h1, if_pos h1]
    · rw [if_neg h1, if_neg h1]
      by_cases h2 : j < nW B
      · rw [if_pos h2, if_pos h2]
        unfold mrow
        rw [hn (B.2.2.1 + (j - B.2.1)) (fun z => e (by unfold ixQ; omega))]
      · rw [if_neg h2, if_neg h2]
theorem ud_ne {f : Nat → Nat → Int32} {o k p : Nat} {x : Int32} (h : p ≠ o) : ud f o k x p = f p := if_neg h
theorem ud_eq {f : Nat → Nat → Int32} {o k : Nat} {x : Int32} : ud f o k x o = upd (f o) k x := if_pos rfl
theorem mobj_ne {adr : Nat → Nat} {g : Nat → Nat → Int32} {o k : Nat} {x : Int32} (p : Nat) (h : p ≠ o) : mobj adr (ud g o k x) p = mobj adr g p := by
  unfold mobj
  rw [ud_ne h]
theorem mobj_eq {adr : Nat → Nat} {g : Nat → Nat → Int32} {o k : Nat} {x : Int32} {kd : Nat ⊕ Nat} (hk : (fkL o)[k]? = some kd) : mobj adr (ud g o k x) o = (adr o, .inr (kls o, ((fkL o).mapIdx (fun j q => fv adr q (g o j))).set k (fv adr kd x))) := by
  unfold mobj
  rw [ud_eq]
  congr 3
  apply List.ext_getElem?
  intro j
  rw [List.getElem?_set, List.getElem?_mapIdx, List.getElem?_mapIdx, List.length_mapIdx]
  have hlt : k < (fkL o).length := (List.getElem?_eq_some_iff.mp hk).1
  by_cases e : k = j
  · subst e
    rw [if_pos rfl, if_pos hlt, hk]
    simp [pk_us]
  · rw [if_neg e]
    cases (fkL o)[j]? with
    | none => rfl
    | some q => simp [pk_un (Ne.symm e)]
theorem fs_at {adr : Nat → Nat} {g : Nat → Nat → Int32} {o k : Nat} {kd : Nat ⊕ Nat} (hk : (fkL o)[k]? = some kd) : ((fkL o).mapIdx (fun j q => fv adr q (g o j)))[k]? = some (fv adr kd (g o k)) := by
  rw [List.getElem?_mapIdx, hk]
  rfl
theorem mget_fv {adr : Nat → Nat} {σ : MS} {o k : Nat} {v : MV} (h : mget σ o k = some v) : ∃ kd, (fkL o)[k]? = some kd ∧ fv adr kd (σ.1 o k) = mv adr v := by
  unfold mget at h
  split at h
  · cases h
  · cases h
    exact ⟨_, by assumption, rfl⟩
  · split at h
    · cases h
    · rename_i hne
      cases h
      exact ⟨_, by assumption, by simp [fv, mv, hne]⟩
  · rename_i n hn2 hk
    cases h
    refine ⟨_, hk, ?_⟩
    unfold fv
    split
    · rename_i h2; cases h2
    · rename_i h2
      cases h2
      exact absurd rfl hn2
    · rfl
/-- the kinds of fields as the classes have them -/
def kchk (o k : Nat) (kd : Nat ⊕ Nat) (q : vw_C) : Bool := match kd with
  | .inl 0 => !(q.2.1 k).2.2.2 && (q.2.1 k).2.2.1 == "I"
  | .inl 1 => !(q.2.1 k).2.2.2 && (q.2.1 k).2.2.1 == "Z"
  | .inl 2 => !(q.2.1 k).2.2.2 && ((q.2.1 k).2.2.1 == "[B" || (q.2.1 k).2.2.1 == "LMarkupJudgeModel$Doc;" || (q.2.1 k).2.2.1 == "LMarkupJudgeModel$Reader;")
  | _ => true
set_option maxRecDepth 100000 in
theorem kchk_all : ∀ o : Nat, o < 18 → (match vC[kls o]? with
    | some q => decide ((fkL o).length = q.2.2) && (List.range (fkL o).length).all (fun k => kchk o k ((fkL o).getD k (.inl 9)) q)
    | none => false) = true := by decide +kernel
theorem kchk_at {o k : Nat} {kd : Nat ⊕ Nat} {q : vw_C} (ho : o < 18) (hq : vC[kls o]? = some q) (hk : (fkL o)[k]? = some kd) : kchk o k kd q = true ∧ k < q.2.2 ∧ (fkL o).length = q.2.2 := by
  have h := kchk_all o ho
  rw [hq] at h
  simp only [Bool.and_eq_true, decide_eq_true_eq, List.all_eq_true, List.mem_range] at h
  have hlt : k < (fkL o).length := (List.getElem?_eq_some_iff.mp hk).1
  have e : (fkL o).getD k (.inl 9) = kd := by rw [List.getD_eq_getElem?_getD, hk]; rfl
  have h2 := h.2 k hlt
  rw [e] at h2
  exact ⟨h2, h.1 ▸ hlt, h.1⟩
theorem pd_I : parseFieldDescriptor "I" = some .int := by decide +kernel
theorem pd_Z : parseFieldDescriptor "Z" = some .boolean := by decide +kernel
theorem pd_R : ∀ d ∈ ["[B", "LMarkupJudgeModel$Doc;", "LMarkupJudgeModel$Reader;"], ∃ ty, parseFieldDescriptor d = some ty ∧ ∀ a : Nat, narrow ty (.ref a) = .ref a ∧ fits ty (.ref a) = true := by
  intro d hd
  simp only [List.mem_cons, List.not_mem_nil, or_false] at hd
  rcases hd with rfl | rfl | rfl
  · exact ⟨.array .byte, by decide +kernel, fun a => ⟨rfl, rfl⟩⟩
  · exact ⟨.object "MarkupJudgeModel$Doc", by decide +kernel, fun a => ⟨rfl, rfl⟩⟩
  · exact ⟨.object "MarkupJudgeModel$Reader", by decide +kernel, fun a => ⟨rfl, rfl⟩⟩
theorem mput_ok {adr : Nat → Nat} {σ τ : MS} {o k : Nat} {v : MV} {q : vw_C} (ho : o < 18) (hq : vC[kls o]? = some q) (h : mput σ o k v = some τ) : ∃ (kd : Nat ⊕ Nat) (x : Int32) (ty : FieldType), (fkL o)[k]? = some kd ∧ τ = (ud σ.1 o k x, σ.2) ∧ fv adr kd x = mv adr v ∧ (q.2.1 k).2.2.2 = false ∧ parseFieldDescriptor (q.2.1 k).2.2.1 = some ty ∧ narrow ty (mv adr v) = mv adr v ∧ fits ty (mv adr v) = true := by
  unfold mput at h
  split at h
  · rename_i x hk
    cases h
    have c := (kchk_at ho hq hk).1
    simp only [kchk, Bool.and_eq_true, Bool.not_eq_true', beq_iff_eq] at c
    exact ⟨_, x, .int, hk, rfl, rfl, c.1, by rw [c.2]; exact pd_I, rfl, rfl⟩
  · rename_i x hk
    have c := (kchk_at ho hq hk).1
    simp only [kchk, Bool.and_eq_true, Bool.not_eq_true', beq_iff_eq] at c
    split at h
    · rename_i hx
      cases h
      refine ⟨_, x, .boolean, hk, rfl, rfl, c.1, by rw [c.2]; exact pd_Z, ?_, ?_⟩
      · rcases hx with rfl | rfl <;> rfl
      · rcases hx with rfl | rfl <;> rfl
    · cases h
  · rename_i r hk
    have c := (kchk_at ho hq hk).1
    simp only [kchk, Bool.and_eq_true, Bool.not_eq_true', Bool.or_eq_true, beq_iff_eq] at c
    split at h
    · rename_i hr
      cases h
      obtain ⟨ty, h1, h2⟩ := pd_R (q.2.1 k).2.2.1 (by rcases c.2 with (z | z) | z <;> simp [z])
      refine ⟨_, nI r, ty, hk, rfl, ?_, c.1, h1, (h2 _).1, (h2 _).2⟩
      have e1 : ¬ nI r = -1 := fun z => by
        have z2 := congrArg Int32.toInt z
        rw [nI_toInt (by omega)] at z2
        have z3 : (-1 : Int32).toInt = -1 := by decide
        omega
      simp [fv, mv, e1, nI_clamp (show r < 2 ^ 31 by omega)]
    · cases h
  · cases h
