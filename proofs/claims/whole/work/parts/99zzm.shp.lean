/-! ===== which items change declarations, elements and attributes (pure) ===== -/
/-- an element but for what is noted of its content -/
def e5 (x : Elm) : Str × Int × Nat × Nat × Nat := (x.1, x.2.1, x.2.2.1, x.2.2.2.1, x.2.2.2.2.1)
def S0 (a a' : AS) : Prop := (aL a').map e5 = (aL a).map e5 ∧ aB a' = aB a ∧ aA a' = aA a ∧ aD a' = aD a
section Shp
variable {rm nd : Nat} {a a' X : AS} {k : Nat}
theorem S0.refl : S0 a a := ⟨rfl, rfl, rfl, rfl⟩
theorem S0.advE (h : S0 a X) : S0 a (adv X k) := by
  obtain ⟨-, -, -, h4, h5, -, h7, h8, -, -⟩ := adv_other (a := X) (k := k)
  unfold S0
  rw [h4, h5, h7, h8]
  exact h
theorem S0.tchE {b : Bool} : S0 a (tch a b) := by
  obtain ⟨-, -, -, -, h5, h6, -, h8, -, -⟩ := tch_other (a := a) (sp := b)
  refine ⟨?_, h8, h6, h5⟩
  cases hO : aO a with
  | nil => rw [tch_nil hO]
  | cons e r =>
    rw [tch_L hO]
    refine List.ext_getElem (by simp) (fun i h1 h2 => ?_)
    simp only [List.getElem_map, List.getElem_modify]
    split <;> rfl
theorem S0.clsE (h : S0 a X) : S0 a (cls X) := by
  unfold cls
  cases aO X with
  | nil => exact h
  | cons e r => exact h
theorem pH_spc (hs : iSpc a = .inr a') : S0 a a' := by
  unfold iSpc at hs
  cases hs
  exact S0.refl.advE
theorem pH_cmt (hs : iCmt a = .inr a') : S0 a a' := by
  unfold iCmt at hs
  split at hs
  · cases hs
  · cases hs
    exact S0.tchE.advE
theorem pH_pin {cn : Bool} (hs : iPin nd cn a = .inr a') : S0 a a' := by
  unfold iPin at hs
  split at hs
  · cases hs
  · split at hs
    · cases hs
    · cases hs
      refine S0.advE ?_
      cases cn with
      | true => exact S0.tchE (a := a) (b := false)
      | false => exact S0.refl
theorem pH_dtd (hs : iDtd a = .inr a') : S0 a a' := by
  unfold iDtd at hs
  split at hs
  · split at hs
    · cases hs
    · cases hs
      exact S0.advE (X := sN (sR a _) 4 _) S0.refl
  · cases hs
theorem pH_entd {i : Nat} (h : S0 a X) (hs : ent rm X i k = .inr a') : S0 a a' := by
  unfold ent at hs
  split at hs
  · cases hs
  · split at hs
    · cases hs
    · split at hs
      · cases hs
      · cases hs
        exact h
theorem pH_prf (hs : iPrf rm a = .inr a') : S0 a a' := by
  unfold iPrf at hs
  split at hs
  · split at hs
    · cases hs
    · split at hs
      · cases hs
      · rename_i he
        cases hs
        have h0 := pH_entd (S0.refl (a := a)) he
        exact h0
  · cases hs
theorem pH_sbe (hs : iSbe a = .inr a') : S0 a a' := by
  unfold iSbe at hs
  split at hs
  · cases hs
  · cases hs
    exact S0.advE (X := sN a 4 0) S0.refl
theorem pH_ent (hs : iEnt a = .inr a') : S0 a a' := by
  unfold iEnt at hs
  split at hs
  · split at hs
    · cases hs
    · split at hs
      · split at hs
        · cases hs
        · cases hs
          refine S0.advE ?_
          split
          · exact S0.refl
          · exact S0.refl
      · cases hs
  · cases hs
theorem pH_not (hs : iNot a = .inr a') : S0 a a' := by
  unfold iNot at hs
  split at hs
  · split at hs
    · cases hs
      exact S0.advE (X := sN (sT a _) 2 _) S0.refl
    · cases hs
  · cases hs
theorem pH_sec (hs : iSec a = .inr a') : S0 a a' := by
  unfold iSec at hs
  split at hs
  · cases hs
  · cases hs
    exact S0.advE (X := chr (tch a true) _) (S0.tchE (a := a) (b := true))
theorem pH_run (hs : iRun a = .inr a') : S0 a a' := by
  unfold iRun at hs
  split at hs
  · cases hs
  · cases hs
    exact S0.advE (X := chr (tch a _) _) S0.tchE
theorem pH_ref (hs : iRef rm a = .inr a') : S0 a a' := by
  unfold iRef at hs
  split at hs
  · cases hs
  · split at hs
    · cases hs
      exact S0.advE (X := chr (tch a true) _) (S0.tchE (a := a) (b := true))
    · split at hs
      · cases hs
      · split at hs
        · split at hs
          · cases hs
          · cases hs
            exact S0.advE (X := sN (tch a false) 1 _) (S0.tchE (a := a) (b := false))
        · exact pH_entd S0.tchE hs
theorem pH_end (hs : iEnd a = .inr a') : S0 a a' := by
  unfold iEnd at hs
  split at hs
  · split at hs
    · cases hs
    · split at hs
      · cases hs
      · cases hs
        exact S0.refl.advE.clsE
  · cases hs
theorem pH_fin (hs : iFin a = .inr a') : S0 a a' := by
  unfold iFin at hs
  split at hs
  · cases hs
  · cases hs
  · split at hs
    · cases hs
    · cases hs
      exact S0.refl
/-- one item -/
theorem stp_shp (hs : stp rm nd a = .inr a') : S0 a a' ∨ iEld a = .inr a' ∨ iAtl rm a = .inr a' ∨ iTag rm nd a = .inr a' := by
  unfold stp at hs
  split at hs
  · exact Or.inl (pH_fin hs)
  · split at hs
    · unfold iSub at hs
      split at hs
      · exact Or.inl (pH_spc hs)
      · split at hs
        · exact Or.inl (pH_prf hs)
        · split at hs
          · exact Or.inl (pH_sbe hs)
          · split at hs
            · exact Or.inl (pH_cmt hs)
            · split at hs
              · exact Or.inl (pH_pin hs)
              · split at hs
                · exact Or.inr (Or.inl hs)
                · split at hs
                  · exact Or.inr (Or.inr (Or.inl hs))
                  · split at hs
                    · exact Or.inl (pH_ent hs)
                    · split at hs
                      · exact Or.inl (pH_not hs)
                      · cases hs
    · split at hs
      · unfold iCon at hs
        split at hs
        · exact Or.inl (pH_ref hs)
        · split at hs
          · exact Or.inl (pH_run hs)
          · split at hs
            · exact Or.inl (pH_end hs)
            · split at hs
              · exact Or.inl (pH_cmt hs)
              · split at hs
                · exact Or.inl (pH_pin hs)
                · split at hs
                  · exact Or.inl (pH_sec hs)
                  · split at hs
                    · cases hs
                    · exact Or.inr (Or.inr (Or.inr hs))
      · unfold iOut at hs
        split at hs
        · exact Or.inl (pH_spc hs)
        · split at hs
          · exact Or.inl (pH_cmt hs)
          · split at hs
            · exact Or.inl (pH_pin hs)
            · split at hs
              · cases hs
              · split at hs
                · exact Or.inr (Or.inr (Or.inr hs))
                · split at hs
                  · cases hs
                  · exact Or.inl (pH_dtd hs)
/-- what every item keeps, a text keeps -/
theorem arn_inv (P : AS → Prop) (hP : ∀ a a', GI rm nd a → P a → stp rm nd a = .inr a' → P a') : ∀ (N : Nat) (a a' : AS), GI rm nd a → P a → arn rm nd N a = .inr a' → P a' := by
  intro N
  induction N with
  | zero => intro a a' _ _ h; cases h
  | succ N ih =>
    intro a a' hG hPa h
    have h' : (if fin a = true then (.inr a : (Nat × Nat) ⊕ AS) else match stp rm nd a with
      | .inl f => .inl (f, plc a)
      | .inr a1 => arn rm nd N a1) = .inr a' := h
    split at h'
    · cases h'; exact hPa
    · cases hst : stp rm nd a with
      | inl f => rw [hst] at h'; cases h'
      | inr a1 => rw [hst] at h'; exact ih a1 a' (stk a a1 hG hst).1 (hP a a1 hG hPa hst) h'
end Shp
