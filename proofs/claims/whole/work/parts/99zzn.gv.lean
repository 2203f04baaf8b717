/-! ===== attributes know their declarations, elements their parents (pure) ===== -/
def GV (a : AS) : Prop := (∀ x ∈ aB a, ∀ d, x.2.2 = some d → d < (aA a).length) ∧ ∀ (i : Nat) (x : Str × Int × Nat × Nat × Nat), ((aL a).map e5)[i]? = some x → x.2.1 = -1 ∨ (0 ≤ x.2.1 ∧ x.2.1 < (i : Int))
section Gvp
variable {rm nd : Nat} {a a' X : AS} {k : Nat}
theorem adf_lt {ad : List ADc} {el nm : Str} {d : Nat} (h : adf ad el nm = some d) : d < ad.length := by
  unfold adf at h
  rw [List.findIdx?_eq_some_iff_getElem] at h
  exact h.1
theorem gvs_dec {T : Nat → Int} {el : Str} : ∀ (l : List (Nat × Nat × Nat × Nat)) (c m : Nat) (acc : List Att) (r : Nat × Nat × List Att), gvs rm a T el l c m acc = .inr r → (∀ x ∈ acc, ∀ d, x.2.2 = some d → d < (aA a).length) → ∀ x ∈ r.2.2, ∀ d, x.2.2 = some d → d < (aA a).length := by
  intro l
  induction l with
  | nil => intro c m acc r h ha; cases h; exact ha
  | cons q l ih =>
    intro c m acc r h ha
    obtain ⟨x, b, v, j⟩ := q
    unfold gvs at h
    split at h
    · cases h
    · split at h
      · cases h
      · refine ih _ _ _ r h (fun y hy d hd => ?_)
        rcases List.mem_append.mp hy with z | z
        · exact ha y z d hd
        · rw [List.mem_singleton.mp z] at hd
          exact adf_lt hd
theorem dfl_dec {ad : List ADc} {el : Str} {gv : List Att} : ∀ x ∈ dfl ad el gv, ∀ d, x.2.2 = some d → d < ad.length := by
  intro x hx d hd
  unfold dfl at hx
  rw [List.mem_filterMap] at hx
  obtain ⟨i, hi, hs⟩ := hx
  split at hs
  · cases hs
    cases hd
    exact List.mem_range.mp hi
  · cases hs
theorem par_lt (h : och (aL a) (aO a)) : par a = -1 ∨ (0 ≤ par a ∧ par a < ((aL a).length : Int)) := by
  unfold par
  cases hO : aO a with
  | nil => exact Or.inl rfl
  | cons e r =>
    rw [hO] at h
    have := h.1
    exact Or.inr ⟨by show (0 : Int) ≤ (e : Int); omega, by show (e : Int) < _; omega⟩
theorem GV.of_S0 (h : GV a) (hs : S0 a a') : GV a' := by
  obtain ⟨s1, s2, s3, -⟩ := hs
  refine ⟨fun x hx d hd => ?_, fun i x hx => ?_⟩
  · rw [s3]; rw [s2] at hx; exact h.1 x hx d hd
  · rw [s1] at hx; exact h.2 i x hx
theorem GV.nelE {nm : Str} {gv al : List Att} {c m : Nat} (h : GV a) (ho : och (aL a) (aO a)) (hal : ∀ x ∈ al, ∀ d, x.2.2 = some d → d < (aA a).length) : GV (nel a nm gv al k c m) := by
  have hA : aA (nel a nm gv al k c m) = aA a := ((S0.tchE (a := a) (b := false)).advE (k := k)).2.2.1
  have hB : aB (nel a nm gv al k c m) = aB a ++ al := rfl
  have hL : (aL (nel a nm gv al k c m)).map e5 = (aL a).map e5 ++ [(nm, par a, (aB a).length, al.length, gv.length)] := by
    show (aL (tch a false) ++ [(nm, par a, (aB a).length, al.length, gv.length, false, false)]).map e5 = _
    rw [List.map_append, (S0.tchE (a := a) (b := false)).1]
    rfl
  refine ⟨fun x hx d hd => ?_, fun i x hx => ?_⟩
  · rw [hA]
    rw [hB] at hx
    rcases List.mem_append.mp hx with z | z
    · exact h.1 x z d hd
    · exact hal x z d hd
  · rw [hL, List.getElem?_append] at hx
    split at hx
    · exact h.2 i x hx
    · rename_i hi
      rw [List.length_map] at hi hx
      cases hk : i - (aL a).length with
      | zero =>
        rw [hk] at hx
        cases hx
        have := par_lt ho
        show par a = -1 ∨ (0 ≤ par a ∧ par a < (i : Int))
        omega
      | succ j => rw [hk] at hx; simp at hx
theorem dfs_len {T : Nat → Int} {e : Nat} {el : Str} : ∀ (l : List Nat) (c m : Nat) (ad : List ADc) (r : Nat × Nat × List ADc), dfs rm a T e el l c m ad = .inr r → ad.length ≤ r.2.2.length := by
  intro l
  induction l with
  | nil => intro c m ad r h; cases h; exact Nat.le_refl _
  | cons x l ih =>
    intro c m ad r h
    unfold dfs at h
    split at h
    · cases h
    · rename_i c1 m1 ad1 hd
      refine Nat.le_trans ?_ (ih _ _ _ r h)
      unfold dfa at hd
      split at hd
      · cases hd
      · split at hd
        · cases hd
        · split at hd
          · cases hd
          · split at hd
            · cases hd
              split
              · exact Nat.le_refl _
              · rw [List.length_append]; omega
            · split at hd
              · cases hd
              · split at hd
                · cases hd
                · cases hd
                  split
                  · exact Nat.le_refl _
                  · rw [List.length_append]; omega
theorem GV.stpE (hG : GI rm nd a) (h : GV a) (hs : stp rm nd a = .inr a') : GV a' := by
  have ho := hG.1.2.2.2.2.2.2.1
  rcases stp_shp hs with h1 | h1 | h1 | h1
  · exact h.of_S0 h1
  · unfold iEld at h1
    split at h1
    · split at h1
      · split at h1
        · cases h1
        · cases h1
          obtain ⟨-, -, -, -, h5, -, h7, h8, -, -⟩ := adv_other (a := sD a (aD a ++ [(sl (gd (cur a)) _ _, cnK (gd (cur a)) (cur a).length _, sl (gd (cur a)) _ _)])) (k := _)
          refine ⟨fun x hx d hd => ?_, fun i x hx => ?_⟩
          · rw [h5]; rw [h8] at hx; exact h.1 x hx d hd
          · rw [h7] at hx; exact h.2 i x hx
      · cases h1
    · cases h1
  · unfold iAtl at h1
    split at h1
    · split at h1
      · split at h1
        · cases h1
        · rename_i c m ad hd
          cases h1
          have hl := dfs_len _ _ _ _ _ hd
          have hA : ∀ k, aA (adv (sN (sN (sA a ad) 0 c) 1 m) k) = ad := fun k => (adv_other (a := sN (sN (sA a ad) 0 c) 1 m) (k := k)).2.2.2.2.1
          have hB : ∀ k, aB (adv (sN (sN (sA a ad) 0 c) 1 m) k) = aB a := fun k => (adv_other (a := sN (sN (sA a ad) 0 c) 1 m) (k := k)).2.2.2.2.2.2.2.1
          have hL : ∀ k, aL (adv (sN (sN (sA a ad) 0 c) 1 m) k) = aL a := fun k => (adv_other (a := sN (sN (sA a ad) 0 c) 1 m) (k := k)).2.2.2.2.2.2.1
          refine ⟨fun x hx d hd' => ?_, fun i x hx => ?_⟩
          · rw [hA]; rw [hB] at hx; exact Nat.lt_of_lt_of_le (h.1 x hx d hd') hl
          · rw [hL] at hx; exact h.2 i x hx
      · cases h1
    · cases h1
  · unfold iTag at h1
    split at h1
    · split at h1
      · cases h1
      · rename_i c m gv hg
        split at h1
        · cases h1
        · cases h1
          have hgv := gvs_dec _ _ _ _ _ hg (fun x hx => by cases hx)
          have hal : ∀ (el : Str), ∀ x ∈ gv ++ dfl (aA a) el gv, ∀ d, x.2.2 = some d → d < (aA a).length := fun el x hx d hd => by
            rcases List.mem_append.mp hx with z | z
            · exact hgv x z d hd
            · exact dfl_dec x z d hd
          split
          · exact (h.nelE ho (hal _)).of_S0 (S0.clsE S0.refl)
          · exact h.nelE ho (hal _)
    · cases h1
theorem GV_a0 {l : List Int} : GV (a0 l) := ⟨fun x hx => (by cases hx), fun i x hx => (by cases hx)⟩
end Gvp
