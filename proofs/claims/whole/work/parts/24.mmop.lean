/-! ===== every instruction that is no call and no return ===== -/
section SimOp
variable {p : Program} {l : Launch} {e : Env} {R : Room} {s : State} {m : MethodId} {args : Array Value} {below : List Frame} {meth : Method} {c : Code} {H : Heap} {locs : List Loc} {cells slots : Nat} {Q : State → Prop} {cd : ByteArray} {nL : Nat} {oc : Nat} {D : va_G} {tI tB tZ tL : ClassId} {X : (Nat → Prop) → State → Prop} {A : Nat → Prop} {ls : Array Slot} {pc len : Nat} {B : MB} {adr ln : Nat → Nat} {σ σ' : MS} {st st' : List MV} {lv lv' : List (Nat × MV)} {pc' : Nat}
/-- from what an instruction leaves, the rest -/
def Kt (p : Program) (l : Launch) (e : Env) (R : Room) (s : State) (m : MethodId) (args : Array Value) (below : List Frame) (meth : Method) (c : Code) (cells slots : Nat) (Q : State → Prop) (nL : Nat) (D : va_G) (tI tB tZ : ClassId) (A : Nat → Prop) (B : MB) (adr ln : Nat → Nat) (pc' : Nat) (st' : List MV) (lv' : List (Nat × MV)) (σ' : MS) : Prop :=
  ∀ (H' : Heap) (locs' : List Loc) (ls' : Array Slot), Wd D A s (wld B adr ln tI tB tZ σ') H' locs' → lv_has ls' nL (lvm adr lv') → W p l e R s m args below meth c H' locs' cells slots Q (F0 m pc' ls' (st'.map (mv adr)))
theorem mldi_ok {k q : Nat} (h : mldi q k st lv σ = some (pc', st', lv', σ')) : ∃ v, mlo lv k = some (.inl v) ∧ pc' = q ∧ st' = .inl v :: st ∧ lv' = lv ∧ σ' = σ := by
  unfold mldi at h
  split at h
  · cases h; exact ⟨_, by assumption, rfl, rfl, rfl, rfl⟩
  · cases h
theorem mlda_ok {k q : Nat} (h : mlda q k st lv σ = some (pc', st', lv', σ')) : ∃ v, mlo lv k = some (.inr v) ∧ pc' = q ∧ st' = .inr v :: st ∧ lv' = lv ∧ σ' = σ := by
  unfold mlda at h
  split at h
  · cases h; exact ⟨_, by assumption, rfl, rfl, rfl, rfl⟩
  · cases h
theorem msti_ok {k q : Nat} (h : msti nL q k st lv σ = some (pc', st', lv', σ')) : ∃ v, st = .inl v :: st' ∧ k < nL ∧ pc' = q ∧ lv' = mst lv k (.inl v) ∧ σ' = σ := by
  unfold msti at h
  split at h
  · split at h
    · cases h; exact ⟨_, rfl, by assumption, rfl, rfl, rfl⟩
    · cases h
  · cases h
theorem msta_ok {k q : Nat} (h : msta nL q k st lv σ = some (pc', st', lv', σ')) : ∃ v, st = .inr v :: st' ∧ k < nL ∧ pc' = q ∧ lv' = mst lv k (.inr v) ∧ σ' = σ := by
  unfold msta at h
  split at h
  · split at h
    · cases h; exact ⟨_, rfl, by assumption, rfl, rfl, rfl⟩
    · cases h
  · cases h
theorem mbin_ok {i : Jvm.ClassFile.Instr} (h : mbin pc i st lv σ = some (pc', st', lv', σ')) : ∃ x y v r, st = .inl y :: .inl x :: r ∧ mop2 i x y = some v ∧ pc' = pc + 1 ∧ st' = .inl v :: r ∧ lv' = lv ∧ σ' = σ := by
  unfold mbin at h
  split at h
  · rename_i y x r
    cases hv : mop2 i x y with
    | none => rw [hv] at h; cases h
    | some v => rw [hv] at h; cases h; exact ⟨x, y, v, r, rfl, hv, rfl, rfl, rfl, rfl⟩
  · cases h
set_option maxHeartbeats 4000000 in
theorem sim_op {i : Jvm.ClassFile.Instr} (C : Cx p m c cd nL s args (clsN oc) D tI tB tZ tL X A) (hW : Wd D A s (wld B adr ln tI tB tZ σ) H locs) (hl : lv_has ls nL (lvm adr lv)) (hmx : MX adr A s) (hdg : decode cd pc = .ok (i, len)) (hlen : len = mln i ∨ msw i = true) (h : mop B ln oc nL pc i st lv σ = some (pc', st', lv', σ'))
    (kk : Kt p l e R s m args below meth c cells slots Q nL D tI tB tZ A B adr ln pc' st' lv' σ') : W p l e R s m args below meth c H locs cells slots Q (F0 m pc ls (st.map (mv adr))) := by
  have hx := C.1.1
  have hb := C.1.2.1
  have hown := C.1.2.2.2.1
  have hT := C.1.2.2.2.2
  cases i with
  | iconst n =>
    have hn : len = 1 := by simpa [mln, msw] using hlen
    subst hn
    simp only [mop] at h
    cases h
    exact lv_iconst hx hb hdg rfl (kk H locs ls hW hl)
  | bipush n =>
    have hn : len = 2 := by simpa [mln, msw] using hlen
    subst hn
    simp only [mop] at h
    cases h
    exact lv_bipush hx hb hdg rfl (kk H locs ls hW hl)
  | sipush n =>
    have hn : len = 3 := by simpa [mln, msw] using hlen
    subst hn
    simp only [mop] at h
    cases h
    exact lv_sipush hx hb hdg rfl (kk H locs ls hW hl)
  | ldc k =>
    have hn : len = 2 := by simpa [mln, msw] using hlen
    subst hn
    simp only [mop] at h
    cases hk : mks oc k with
    | none => rw [hk] at h; cases h
    | some v =>
      rw [hk] at h
      cases h
      cases v with
      | inl v => exact lv_ldc hx hb hown (hT _ (mks_int hk)) hdg (kk H locs ls hW hl)
      | inr r =>
        obtain ⟨tx, ht⟩ := hmx.2.2.1 oc k r hk
        exact va_ldcS hx hb hown ht hdg (kk H locs ls hW hl)
  | ldc_w k =>
    have hn : len = 3 := by simpa [mln, msw] using hlen
    subst hn
    simp only [mop] at h
    cases hk : mks oc k with
    | none => rw [hk] at h; cases h
    | some v =>
      rw [hk] at h
      cases h
      cases v with
      | inl v => exact lv_ldcw hx hb hown (hT _ (mks_int hk)) hdg (kk H locs ls hW hl)
      | inr r =>
        obtain ⟨tx, ht⟩ := hmx.2.2.1 oc k r hk
        exact r_ldcwS hx hb hown ht hdg (kk H locs ls hW hl)
  | iload k =>
    have hn : len = 2 := by simpa [mln, msw] using hlen
    subst hn
    simp only [mop] at h
    obtain ⟨v, h1, rfl, rfl, rfl, rfl⟩ := mldi_ok h
    exact lv_iload hx hb hdg (lo_at hl h1) (kk H locs ls hW hl)
  | iload_n k =>
    have hn : len = 1 := by simpa [mln, msw] using hlen
    subst hn
    simp only [mop] at h
    obtain ⟨v, h1, rfl, rfl, rfl, rfl⟩ := mldi_ok h
    exact lv_iload_n hx hb hdg rfl (lo_at hl h1) (kk H locs ls hW hl)
  | aload k =>
    have hn : len = 2 := by simpa [mln, msw] using hlen
    subst hn
    simp only [mop] at h
    obtain ⟨v, h1, rfl, rfl, rfl, rfl⟩ := mlda_ok h
    exact lv_aload hx hb hdg (lo_at hl h1) (kk H locs ls hW hl)
  | aload_n k =>
    have hn : len = 1 := by simpa [mln, msw] using hlen
    subst hn
    simp only [mop] at h
    obtain ⟨v, h1, rfl, rfl, rfl, rfl⟩ := mlda_ok h
    exact lv_aload_n hx hb hdg rfl (lo_at hl h1) (kk H locs ls hW hl)
  | istore k =>
    have hn : len = 2 := by simpa [mln, msw] using hlen
    subst hn
    simp only [mop] at h
    obtain ⟨v, rfl, h1, rfl, rfl, rfl⟩ := msti_ok h
    exact lv_istore hx hb hdg hl h1 (st_eq (v := .inl v)) (fun ls2 hl2 => kk H locs ls2 hW hl2)
  | istore_n k =>
    have hn : len = 1 := by simpa [mln, msw] using hlen
    subst hn
    simp only [mop] at h
    obtain ⟨v, rfl, h1, rfl, rfl, rfl⟩ := msti_ok h
    exact lv_istore_n hx hb hdg rfl hl h1 (st_eq (v := .inl v)) (fun ls2 hl2 => kk H locs ls2 hW hl2)
  | astore k =>
    have hn : len = 2 := by simpa [mln, msw] using hlen
    subst hn
    simp only [mop] at h
    obtain ⟨v, rfl, h1, rfl, rfl, rfl⟩ := msta_ok h
    exact lv_astore hx hb hdg hl h1 (st_eq (v := .inr v)) (fun ls2 hl2 => kk H locs ls2 hW hl2)
  | astore_n k =>
    have hn : len = 1 := by simpa [mln, msw] using hlen
    subst hn
    simp only [mop] at h
    obtain ⟨v, rfl, h1, rfl, rfl, rfl⟩ := msta_ok h
    exact lv_astore_n hx hb hdg rfl hl h1 (st_eq (v := .inr v)) (fun ls2 hl2 => kk H locs ls2 hW hl2)
  | iinc k n =>
    have hn : len = 3 := by simpa [mln, msw] using hlen
    subst hn
    simp only [mop] at h
    split at h
    · rename_i v hv
      split at h
      · rename_i hk
        cases h
        obtain ⟨j, hj⟩ := List.mem_iff_getElem?.mp (List.mem_map.mpr ⟨(k, .inl v), lo_mem hv, rfl⟩ : (k, mv adr (.inl v)) ∈ lvm adr lv)
        exact lv_iinc hx hb hdg hl hj rfl hk (st_eq (v := .inl (v + Int32.ofInt n))) (fun ls2 hl2 => kk H locs ls2 hW hl2)
      · cases h
    · cases h
  | iadd =>
    have hn : len = 1 := by simpa [mln, msw] using hlen
    subst hn
    simp only [mop] at h
    obtain ⟨x, y, v, r, rfl, h1, rfl, rfl, rfl, rfl⟩ := mbin_ok h
    cases h1
    exact lv_iadd hx hb hdg (kk H locs ls hW hl)
  | isub =>
    have hn : len = 1 := by simpa [mln, msw] using hlen
    subst hn
    simp only [mop] at h
    obtain ⟨x, y, v, r, rfl, h1, rfl, rfl, rfl, rfl⟩ := mbin_ok h
    cases h1
    exact lv_isub hx hb hdg (kk H locs ls hW hl)
  | imul =>
    have hn : len = 1 := by simpa [mln, msw] using hlen
    subst hn
    simp only [mop] at h
    obtain ⟨x, y, v, r, rfl, h1, rfl, rfl, rfl, rfl⟩ := mbin_ok h
    cases h1
    exact lv_imul hx hb hdg (kk H locs ls hW hl)
  | iand =>
    have hn : len = 1 := by simpa [mln, msw] using hlen
    subst hn
    simp only [mop] at h
    obtain ⟨x, y, v, r, rfl, h1, rfl, rfl, rfl, rfl⟩ := mbin_ok h
    cases h1
    exact lv_iand hx hb hdg (kk H locs ls hW hl)
  | ior =>
    have hn : len = 1 := by simpa [mln, msw] using hlen
    subst hn
    simp only [mop] at h
    obtain ⟨x, y, v, r, rfl, h1, rfl, rfl, rfl, rfl⟩ := mbin_ok h
    cases h1
    exact lv_ior hx hb hdg (kk H locs ls hW hl)
  | ixor =>
    have hn : len = 1 := by simpa [mln, msw] using hlen
    subst hn
    simp only [mop] at h
    obtain ⟨x, y, v, r, rfl, h1, rfl, rfl, rfl, rfl⟩ := mbin_ok h
    cases h1
    exact lv_ixor hx hb hdg (kk H locs ls hW hl)
  | ishl =>
    have hn : len = 1 := by simpa [mln, msw] using hlen
    subst hn
    simp only [mop] at h
    obtain ⟨x, y, v, r, rfl, h1, rfl, rfl, rfl, rfl⟩ := mbin_ok h
    cases h1
    exact lv_ishl hx hb hdg (kk H locs ls hW hl)
  | ishr =>
    have hn : len = 1 := by simpa [mln, msw] using hlen
    subst hn
    simp only [mop] at h
    obtain ⟨x, y, v, r, rfl, h1, rfl, rfl, rfl, rfl⟩ := mbin_ok h
    cases h1
    exact lv_ishr hx hb hdg (kk H locs ls hW hl)
  | iushr =>
    have hn : len = 1 := by simpa [mln, msw] using hlen
    subst hn
    simp only [mop] at h
    obtain ⟨x, y, v, r, rfl, h1, rfl, rfl, rfl, rfl⟩ := mbin_ok h
    cases h1
    exact lv_iushr hx hb hdg rfl (kk H locs ls hW hl)
  | idiv =>
    have hn : len = 1 := by simpa [mln, msw] using hlen
    subst hn
    simp only [mop] at h
    obtain ⟨x, y, v, r, rfl, h1, rfl, rfl, rfl, rfl⟩ := mbin_ok h
    simp only [mop2] at h1
    split at h1
    · cases h1
    · rename_i hy
      cases h1
      exact lv_idiv hx hb hdg hy (kk H locs ls hW hl)
  | i2b =>
    have hn : len = 1 := by simpa [mln, msw] using hlen
    subst hn
    simp only [mop] at h
    split at h
    · cases h
      exact lv_i2b hx hb hdg rfl (kk H locs ls hW hl)
    · cases h
  | i2c =>
    have hn : len = 1 := by simpa [mln, msw] using hlen
    subst hn
    simp only [mop] at h
    split at h
    · cases h
      exact lv_i2c hx hb hdg rfl (kk H locs ls hW hl)
    · cases h
  | dup =>
    have hn : len = 1 := by simpa [mln, msw] using hlen
    subst hn
    simp only [mop] at h
    split at h
    · cases h
      exact lv_dup hx hb hdg (mv_cat adr _) (kk H locs ls hW hl)
    · cases h
  | pop =>
    have hn : len = 1 := by simpa [mln, msw] using hlen
    subst hn
    simp only [mop] at h
    split at h
    · cases h
      exact lv_pop hx hb hdg (mv_cat adr _) (kk H locs ls hW hl)
    · cases h
  | dup2 =>
    have hn : len = 1 := by simpa [mln, msw] using hlen
    subst hn
    simp only [mop] at h
    split at h
    · cases h
      exact lv_dup2_11 hx hb hdg (mv_cat adr _) (mv_cat adr _) (kk H locs ls hW hl)
    · cases h
  | goto off =>
    have hn : len = 3 := by simpa [mln, msw] using hlen
    subst hn
    simp only [mop] at h
    cases hj : mjmp pc off with
    | none => rw [hj] at h; cases h
    | some t =>
      rw [hj] at h
      cases h
      exact lv_goto hx hb hdg (mjmp_ok hj) (kk H locs ls hW hl)
  | ifCond cn off =>
    have hn : len = 3 := by simpa [mln, msw] using hlen
    subst hn
    simp only [mop] at h
    split at h
    · rename_i hj
      cases h
      cases cn with
      | eq => exact lv_if_eq hx hb hdg (mjmp_ok hj) (fun hc => by have z := kk H locs ls hW hl; rw [if_pos (by simpa [mbr] using hc)] at z; exact z) (fun hc => by have z := kk H locs ls hW hl; rw [if_neg (by simpa [mbr] using hc)] at z; exact z)
      | ne => exact lv_if_ne hx hb hdg (mjmp_ok hj) (fun hc => by have z := kk H locs ls hW hl; rw [if_pos (by simpa [mbr] using hc)] at z; exact z) (fun hc => by have z := kk H locs ls hW hl; rw [if_neg (by simpa [mbr] using hc)] at z; exact z)
      | lt => exact lv_if_lt hx hb hdg (mjmp_ok hj) (fun hc => by have z := kk H locs ls hW hl; rw [if_pos (by simpa [mbr] using hc)] at z; exact z) (fun hc => by have z := kk H locs ls hW hl; rw [if_neg (by simpa [mbr] using hc)] at z; exact z)
      | ge => exact lv_if_ge hx hb hdg (mjmp_ok hj) (fun hc => by have z := kk H locs ls hW hl; rw [if_pos (by simpa [mbr] using hc)] at z; exact z) (fun hc => by have z := kk H locs ls hW hl; rw [if_neg (by simpa [mbr] using hc)] at z; exact z)
      | gt => exact lv_if_gt hx hb hdg (mjmp_ok hj) (fun hc => by have z := kk H locs ls hW hl; rw [if_pos (by simpa [mbr] using hc)] at z; exact z) (fun hc => by have z := kk H locs ls hW hl; rw [if_neg (by simpa [mbr] using hc)] at z; exact z)
      | le => exact lv_if_le hx hb hdg (mjmp_ok hj) (fun hc => by have z := kk H locs ls hW hl; rw [if_pos (by simpa [mbr] using hc)] at z; exact z) (fun hc => by have z := kk H locs ls hW hl; rw [if_neg (by simpa [mbr] using hc)] at z; exact z)
    · cases h
  | if_icmp cn off =>
    have hn : len = 3 := by simpa [mln, msw] using hlen
    subst hn
    simp only [mop] at h
    split at h
    · rename_i hj
      cases h
      cases cn with
      | eq => exact lv_icmp_eq hx hb hdg (mjmp_ok hj) (fun hc => by have z := kk H locs ls hW hl; rw [if_pos (by simpa [mbr] using hc)] at z; exact z) (fun hc => by have z := kk H locs ls hW hl; rw [if_neg (by simpa [mbr] using hc)] at z; exact z)
      | ne => exact lv_icmp_ne hx hb hdg (mjmp_ok hj) (fun hc => by have z := kk H locs ls hW hl; rw [if_pos (by simpa [mbr] using hc)] at z; exact z) (fun hc => by have z := kk H locs ls hW hl; rw [if_neg (by simpa [mbr] using hc)] at z; exact z)
      | lt => exact lv_icmp_lt hx hb hdg (mjmp_ok hj) (fun hc => by have z := kk H locs ls hW hl; rw [if_pos (by simpa [mbr] using hc)] at z; exact z) (fun hc => by have z := kk H locs ls hW hl; rw [if_neg (by simpa [mbr] using hc)] at z; exact z)
      | ge => exact lv_icmp_ge hx hb hdg (mjmp_ok hj) (fun hc => by have z := kk H locs ls hW hl; rw [if_pos (by simpa [mbr] using hc)] at z; exact z) (fun hc => by have z := kk H locs ls hW hl; rw [if_neg (by simpa [mbr] using hc)] at z; exact z)
      | gt => exact lv_icmp_gt hx hb hdg (mjmp_ok hj) (fun hc => by have z := kk H locs ls hW hl; rw [if_pos (by simpa [mbr] using hc)] at z; exact z) (fun hc => by have z := kk H locs ls hW hl; rw [if_neg (by simpa [mbr] using hc)] at z; exact z)
      | le => exact lv_icmp_le hx hb hdg (mjmp_ok hj) (fun hc => by have z := kk H locs ls hW hl; rw [if_pos (by simpa [mbr] using hc)] at z; exact z) (fun hc => by have z := kk H locs ls hW hl; rw [if_neg (by simpa [mbr] using hc)] at z; exact z)
    · cases h
  | getfield k =>
    have hn : len = 3 := by simpa [mln, msw] using hlen
    subst hn
    simp only [mop] at h
    split at h
    · rename_i o r ci f hf
      split at h
      · rename_i h2
        cases hg : mget σ o f with
        | none => rw [hg] at h; cases h
        | some v =>
          rw [hg] at h
          cases h
          exact s_get C hW hf h2.1 h2.2 hg hdg (kk H locs ls hW hl)
      · cases h
    · cases h
  | putfield k =>
    have hn : len = 3 := by simpa [mln, msw] using hlen
    subst hn
    simp only [mop] at h
    split at h
    · rename_i v o r ci f hf
      split at h
      · rename_i h2
        cases hg : mput σ o f v with
        | none => rw [hg] at h; cases h
        | some τ =>
          rw [hg] at h
          cases h
          exact s_put C hW hf h2.1 h2.2 hg hdg (fun H1 l1 hW1 => kk H1 l1 ls hW1 hl)
      · cases h
    · cases h
  | getstatic k =>
    have hn : len = 3 := by simpa [mln, msw] using hlen
    subst hn
    simp only [mop] at h
    cases hk : mss oc k with
    | none => rw [hk] at h; cases h
    | some v =>
      rw [hk] at h
      cases h
      rcases mss_ok hk with ⟨rfl, rfl, rfl⟩ | ⟨rfl, rfl, rfl⟩
      · exact va_gets hx hb hmx.2.2.2.2.1 hW.2.2 hown (hT _ w_LEAST) (fun x hx => hx) hdg (kk H locs ls hW hl)
      · exact va_gets hx hb hmx.2.2.2.2.2.1 hW.2.2 hown (hT _ w_NSTARTS) (fun x hx => hx) hdg (kk H locs ls hW hl)
  | iaload =>
    have hn : len = 1 := by simpa [mln, msw] using hlen
    subst hn
    simp only [mop] at h
    split at h
    · rename_i i r rest
      cases hg : mld B ln σ false r i with
      | none => rw [hg] at h; cases h
      | some v =>
        rw [hg] at h
        cases h
        exact s_ld (b := false) C hW hmx hg hdg (kk H locs ls hW hl)
    · cases h
  | baload =>
    have hn : len = 1 := by simpa [mln, msw] using hlen
    subst hn
    simp only [mop] at h
    split at h
    · rename_i i r rest
      cases hg : mld B ln σ true r i with
      | none => rw [hg] at h; cases h
      | some v =>
        rw [hg] at h
        cases h
        exact s_ld (b := true) C hW hmx hg hdg (kk H locs ls hW hl)
    · cases h
  | iastore =>
    have hn : len = 1 := by simpa [mln, msw] using hlen
    subst hn
    simp only [mop] at h
    split at h
    · rename_i x i r rest
      cases hg : msto B ln σ false r i x with
      | none => rw [hg] at h; cases h
      | some τ =>
        rw [hg] at h
        cases h
        exact s_st (b := false) C hW hg hdg (fun H1 l1 hW1 => kk H1 l1 ls hW1 hl)
    · cases h
  | bastore =>
    have hn : len = 1 := by simpa [mln, msw] using hlen
    subst hn
    simp only [mop] at h
    split at h
    · rename_i x i r rest
      cases hg : msto B ln σ true r i x with
      | none => rw [hg] at h; cases h
      | some τ =>
        rw [hg] at h
        cases h
        exact s_st (b := true) C hW hg hdg (fun H1 l1 hW1 => kk H1 l1 ls hW1 hl)
    · cases h
  | arraylength =>
    have hn : len = 1 := by simpa [mln, msw] using hlen
    subst hn
    simp only [mop] at h
    split at h
    · rename_i r rest
      cases hg : mlen B ln r with
      | none => rw [hg] at h; cases h
      | some v =>
        rw [hg] at h
        cases h
        exact s_len C hW hmx hg hdg (kk H locs ls hW hl)
    · cases h
  | tableswitch dflt lo hi offs =>
    simp only [mop] at h
    split at h
    · rename_i x r
      split at h
      · rename_i hx1
        cases hj : mjmp pc dflt with
        | none => rw [hj] at h; cases h
        | some t =>
          rw [hj] at h
          cases h
          exact lv_tableOut hx hb hdg hx1 (mjmp_ok hj) (kk H locs ls hW hl)
      · rename_i hx1
        split at h
        · rename_i off ho
          cases hj : mjmp pc off with
          | none => rw [hj] at h; cases h
          | some t =>
            rw [hj] at h
            cases h
            exact lv_tableIn hx hb hdg (fun z => hx1 (Or.inl z)) (fun z => hx1 (Or.inr z)) ho (mjmp_ok hj) (kk H locs ls hW hl)
        · cases h
    · cases h
  | lookupswitch dflt ps =>
    simp only [mop] at h
    split at h
    · rename_i x r
      split at h
      · rename_i hp
        cases hj : mjmp pc (Op.lookupswitch.offset ps.toList dflt x.toInt) with
        | none => rw [hj] at h; cases h
        | some t =>
          rw [hj] at h
          cases h
          exact lv_lookup hx hb hdg hp rfl (mjmp_ok hj) (kk H locs ls hW hl)
      · cases h
    · cases h
  | _ => exact absurd h (by simp [mop])
end SimOp
