/-! ===== a fault is a number (pure) ===== -/
section KwK
variable {rm nd : Nat} {a a' : AS} {f : Nat}
theorem vst_f0 {en : List Ent} {bus : List Nat} {und : Bool} {s : VS} (h : vst rm en bus und s = .inl f) : f ≠ 0 := by
  unfold vst at h
  split at h
  · cases h
  · cases h
  · split at h
    · cases h; decide
    · split at h
      · cases h
      · split at h
        · cases h; decide
        · split at h
          · cases h
          · split at h
            · cases h; decide
            · split at h
              · split at h
                · cases h; decide
                · cases h
              · split at h
                · cases h; decide
                · split at h
                  · cases h; decide
                  · cases h
theorem vrn_f0 {en : List Ent} {bus : List Nat} {und : Bool} : ∀ (n : Nat) (s : VS), vrn rm en bus und n s = .inl f → f ≠ 0
  | 0, s, h => by
    have : f = 99 := (Sum.inl.inj h).symm
    omega
  | n + 1, s, h => by
    unfold vrn at h
    split at h
    · cases h
    · split at h
      · rename_i hv
        cases h; exact vst_f0 hv
      · exact vrn_f0 n _ h
theorem enx_f0 : ∀ (n : Nat) (l acc : List Int), enx n l acc = .inl f → f ≠ 0
  | 0, l, acc, h => by
    have : f = 99 := (Sum.inl.inj h).symm
    omega
  | n + 1, [], acc, h => by cases h
  | n + 1, x :: r, acc, h => by
    unfold enx at h
    split at h
    · cases h; decide
    · split at h
      · exact enx_f0 n _ _ h
      · split at h
        · cases h; decide
        · split at h
          · split at h
            · exact enx_f0 n _ _ h
            · cases h; decide
          · exact enx_f0 n _ _ h
theorem gvs_f0 {T : Nat → Int} {el : Str} : ∀ (l : List (Nat × Nat × Nat × Nat)) (c m : Nat) (acc : List Att), gvs rm a T el l c m acc = .inl f → f ≠ 0
  | [], c, m, acc, h => by cases h
  | (x, b, v, j) :: l, c, m, acc, h => by
    rw [gvs_cons] at h
    split at h
    · cases h; decide
    · cases hv : val rm a (sl T (v + 1) (j - 1 - (v + 1))) c m with
      | inl g => rw [hv] at h; cases h; exact vrn_f0 _ _ hv
      | inr q =>
        obtain ⟨c1, m1, o⟩ := q
        rw [hv] at h
        exact gvs_f0 l c1 m1 _ h
theorem dfs_f0 {T : Nat → Int} {e : Nat} {el : Str} : ∀ (l : List Nat) (c m : Nat) (ad : List ADc), dfs rm a T e el l c m ad = .inl f → f ≠ 0
  | [], c, m, ad, h => by cases h
  | x :: l, c, m, ad, h => by
    unfold dfs at h
    cases hd : dfa rm a T e el x c m ad with
    | inl g =>
      rw [hd] at h
      cases h
      unfold dfa at hd
      split at hd
      · cases hd; decide
      · split at hd
        · cases hd; decide
        · split at hd
          · cases hd; decide
          · split at hd
            · cases hd
            · split at hd
              · cases hd; decide
              · split at hd
                · rename_i hv
                  cases hd; exact vrn_f0 _ _ hv
                · cases hd
    | inr q =>
      obtain ⟨c1, m1, ad1⟩ := q
      rw [hd] at h
      exact dfs_f0 l c1 m1 ad1 h
theorem ent_f0 {X : AS} {i k : Nat} (h : ent rm X i k = .inl f) : f ≠ 0 := by
  unfold ent at h
  split at h
  · cases h; decide
  · split at h
    · cases h; decide
    · split at h
      · cases h; decide
      · cases h
theorem stp_f0 (h : stp rm nd a = .inl f) : f ≠ 0 := by
  have hcmt : iCmt a = .inl f → f ≠ 0 := by
    intro h
    unfold iCmt at h
    split at h
    · cases h; decide
    · cases h
  have hpin : ∀ cn, iPin nd cn a = .inl f → f ≠ 0 := by
    intro cn h
    unfold iPin at h
    split at h
    · cases h; decide
    · split at h
      · cases h; decide
      · cases h
  have htag : iTag rm nd a = .inl f → f ≠ 0 := by
    intro h
    unfold iTag at h
    split at h
    · split at h
      · rename_i hg
        cases h; exact gvs_f0 _ _ _ _ hg
      · split at h
        · cases h; decide
        · cases h
    · cases h; decide
  unfold stp at h
  split at h
  · unfold iFin at h
    split at h
    · cases h; decide
    · cases h; decide
    · split at h
      · cases h; decide
      · cases h
  · split at h
    · rw [iSub_d] at h
      rcases dSub_c (a := a) with ⟨d, -⟩ | ⟨d, -⟩ | ⟨d, -⟩ | d | ⟨d, -⟩ | ⟨d, -⟩ | ⟨d, -⟩ | ⟨d, -⟩ | ⟨d, -⟩ | d <;> rw [d] at h
      · cases h
      · have h' : iPrf rm a = .inl f := h
        unfold iPrf at h'
        split at h'
        · split at h'
          · cases h'; decide
          · split at h'
            · rename_i he
              cases h'; exact ent_f0 he
            · cases h'
        · cases h'; decide
      · have h' : iSbe a = .inl f := h
        unfold iSbe at h'
        split at h'
        · cases h'; decide
        · cases h'
      · exact hcmt h
      · exact hpin false h
      · have h' : iEld a = .inl f := h
        unfold iEld at h'
        split at h'
        · split at h'
          · split at h'
            · cases h'; decide
            · cases h'
          · cases h'; decide
        · cases h'; decide
      · have h' : iAtl rm a = .inl f := h
        unfold iAtl at h'
        split at h'
        · split at h'
          · split at h'
            · rename_i hd
              cases h'; exact dfs_f0 _ _ _ _ hd
            · cases h'
          · cases h'; decide
        · cases h'; decide
      · have h' : iEnt a = .inl f := h
        unfold iEnt at h'
        split at h'
        · split at h'
          · cases h'; decide
          · split at h'
            · split at h'
              · rename_i he
                cases h'; exact enx_f0 _ _ _ he
              · cases h'
            · cases h'; decide
        · cases h'; decide
      · have h' : iNot a = .inl f := h
        unfold iNot at h'
        split at h'
        · split at h'
          · cases h'
          · cases h'; decide
        · cases h'; decide
      · cases h; decide
    · split at h
      · rw [iCon_d] at h
        rcases dCon_c (a := a) with ⟨d, -⟩ | ⟨d, -, -⟩ | ⟨d, -⟩ | d | ⟨d, -⟩ | ⟨d, -⟩ | d | ⟨d, -⟩ <;> rw [d] at h
        · have h' : iRef rm a = .inl f := h
          unfold iRef at h'
          split at h'
          · cases h'; decide
          · split at h'
            · cases h'
            · split at h'
              · cases h'; decide
              · split at h'
                · split at h'
                  · cases h'; decide
                  · cases h'
                · exact ent_f0 h'
        · have h' : iRun a = .inl f := h
          unfold iRun at h'
          split at h'
          · cases h'; decide
          · cases h'
        · have h' : iEnd a = .inl f := h
          unfold iEnd at h'
          split at h'
          · split at h'
            · cases h'; decide
            · split at h'
              · cases h'; decide
              · cases h'
          · cases h'; decide
        · exact hcmt h
        · exact hpin true h
        · have h' : iSec a = .inl f := h
          unfold iSec at h'
          split at h'
          · cases h'; decide
          · cases h'
        · cases h; decide
        · exact htag h
      · rw [iOut_d] at h
        rcases dOut_c (a := a) with ⟨d, -⟩ | d | ⟨d, -⟩ | d | ⟨d, -⟩ | ⟨d, -, -⟩ <;> rw [d] at h
        · cases h
        · exact hcmt h
        · exact hpin true h
        · cases h; decide
        · exact htag h
        · have h' : iDtd a = .inl f := h
          unfold iDtd at h'
          split at h'
          · split at h'
            · cases h'; decide
            · cases h'
          · cases h'; decide
end KwK
