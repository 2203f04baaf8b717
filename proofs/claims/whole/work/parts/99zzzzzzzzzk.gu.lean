/-! ===== what is missing was looked for behind a declaration of the document's type (pure) ===== -/
def GU (a : AS) : Prop := aN a 1 ≠ 0 → aN a 6 ≠ 0
section Gu
variable {rm nd n k : Nat} {B : Nat → Int} {a a' X : AS} {T : Nat → Int} {e : Nat}
theorem vrn_m {en : List Ent} {bus : List Nat} : ∀ (n : Nat) (s : VS) {c m : Nat} {o : List Int}, vrn rm en bus true n s = .inr (c, m, o) → m = s.2.2.1
  | 0, s, c, m, o, h => by cases h
  | n + 1, s, c, m, o, h => by
    obtain ⟨st, c0, m0, o0⟩ := s
    cases st with
    | nil =>
      unfold vrn at h
      dsimp only at h
      cases h
      rfl
    | cons f st =>
      obtain ⟨tx, w⟩ := f
      unfold vrn at h
      dsimp only at h
      cases tx with
      | nil =>
        have hv : vst rm en bus true ((([] : List Int), w) :: st, c0, m0, o0) = .inr (st, c0, m0, o0) := rfl
        rw [hv] at h
        dsimp only at h
        have ih := vrn_m n (st, c0, m0, o0) h
        exact ih
      | cons x r =>
        cases hv : vst rm en bus true ((x :: r, w) :: st, c0, m0, o0) with
        | inl f => rw [hv] at h; cases h
        | inr s' =>
          rw [hv] at h
          dsimp only at h
          have ih := vrn_m n _ h
          rw [ih]
          unfold vst at hv
          dsimp only at hv
          split at hv
          · cases hv
          · split at hv
            · cases hv; rfl
            · split at hv
              · cases hv
              · split at hv
                · cases hv; rfl
                · split at hv
                  · cases hv
                  · split at hv
                    · rw [if_pos rfl] at hv; cases hv
                    · split at hv
                      · cases hv
                      · split at hv
                        · cases hv
                        · cases hv; rfl
theorem val_m {l : List Int} {c m c' m' : Nat} {o : List Int} (hu : und a = true) (h : val rm a l c m = .inr (c', m', o)) : m' = m := by
  unfold val at h
  rw [hu] at h
  exact vrn_m _ _ h
theorem gvs_m {el : Str} (hu : und a = true) : ∀ (pl : List (Nat × Nat × Nat × Nat)) (c m : Nat) (acc : List Att) {c' m' : Nat} {gv : List Att}, gvs rm a T el pl c m acc = .inr (c', m', gv) → m' = m
  | [], c, m, acc, c', m', gv, h => by
    unfold gvs at h
    cases h
    rfl
  | (x, b, v, j) :: pl, c, m, acc, c', m', gv, h => by
    unfold gvs at h
    split at h
    · cases h
    · split at h
      · cases h
      · rename_i c1 m1 o hv
        rw [gvs_m hu pl _ _ _ h, val_m hu hv]
theorem dfs_m {el : Str} (hu : und a = true) : ∀ (pl : List Nat) (c m : Nat) (ad : List ADc) {c' m' : Nat} {ad' : List ADc}, dfs rm a T e el pl c m ad = .inr (c', m', ad') → m' = m
  | [], c, m, ad, c', m', ad', h => by
    unfold dfs at h
    cases h
    rfl
  | x :: pl, c, m, ad, c', m', ad', h => by
    unfold dfs at h
    cases hd : dfa rm a T e el x c m ad with
    | inl f => rw [hd] at h; cases h
    | inr r =>
      obtain ⟨c1, m1, ad1⟩ := r
      rw [hd] at h
      dsimp only at h
      rw [dfs_m hu pl _ _ _ h]
      unfold dfa at hd
      split at hd
      · cases hd
      · split at hd
        · cases hd
        · split at hd
          · cases hd
          · split at hd
            · cases hd; rfl
            · split at hd
              · cases hd
              · split at hd
                · cases hd
                · rename_i c2 m2 o hv
                  cases hd
                  exact val_m hu hv
def NM (a X : AS) : Prop := (aN X 1 = aN a 1 ∨ aN a 6 ≠ 0) ∧ (aN a 6 ≠ 0 → aN X 6 ≠ 0)
theorem NM.refl : NM a a := ⟨Or.inl rfl, id⟩
theorem NM.advE (h : NM a X) : NM a (adv X k) := by
  unfold NM
  rw [adv_other.2.1]
  exact h
theorem NM.eq {Y : AS} (h : NM a X) (h1 : aN Y 1 = aN X 1) (h2 : aN Y 6 = aN X 6) : NM a Y := by
  unfold NM
  rw [h1, h2]
  exact h
theorem NM.tchE {b : Bool} : NM a (tch a b) := NM.refl.eq (congrFun tch_other.2.2.1 1) (congrFun tch_other.2.2.1 6)
theorem ent_NM {i : Nat} (h : NM a X) (hs : ent rm X i k = .inr a') : NM a a' := by
  unfold ent at hs
  split at hs
  · cases hs
  · split at hs
    · cases hs
    · split at hs
      · cases hs
      · cases hs
        exact h.eq rfl rfl
theorem und_6 (h : ¬ und a = true) : aN a 6 ≠ 0 := fun z => h (by unfold und; rw [z]; simp)
theorem iTag_NM (hs : iTag rm nd a = .inr a') : NM a a' := by
  unfold iTag at hs
  split at hs
  · split at hs
    · cases hs
    · rename_i c m gv hg
      split at hs
      · cases hs
      · cases hs
        have hm : m = aN a 1 ∨ aN a 6 ≠ 0 := by
          by_cases hu : und a = true
          · exact Or.inl (gvs_m hu _ _ _ _ hg)
          · exact Or.inr (und_6 hu)
        have key : ∀ (nm : Str) (al : List Att) (kk : Nat), NM a (nel a nm gv al kk c m) := fun nm al kk => by
          obtain ⟨v0, v1, v3, v4, v5⟩ := nel_N (a := a) (nm := nm) (gv := gv) (al := al) (k := kk) (c := c) (m := m)
          refine ⟨hm.imp (fun z => by rw [v1]; exact z) id, fun z => by rw [v5 6 (by decide) (by decide) (by decide) (by decide)]; exact z⟩
        split
        · have hcl : ∀ Y : AS, aN (cls Y) 1 = aN Y 1 ∧ aN (cls Y) 6 = aN Y 6 := fun Y => by
            unfold cls
            split
            · exact ⟨rfl, rfl⟩
            · exact ⟨rfl, rfl⟩
          exact (key _ _ _).eq (hcl _).1 (hcl _).2
        · exact key _ _ _
  · cases hs
theorem stp_NM (hs : stp rm nd a = .inr a') : NM a a' := by
  have pSpc : ∀ {b : AS}, iSpc a = .inr b → NM a b := fun h => by
    unfold iSpc at h
    cases h
    exact NM.refl.advE
  have pCmt : ∀ {b : AS}, iCmt a = .inr b → NM a b := fun h => by
    unfold iCmt at h
    split at h
    · cases h
    · cases h
      exact NM.tchE.advE
  have pPin : ∀ {b : AS} {cn : Bool}, iPin nd cn a = .inr b → NM a b := fun {b cn} h => by
    unfold iPin at h
    split at h
    · cases h
    · split at h
      · cases h
      · cases h
        cases cn with
        | true => exact NM.advE ((NM.tchE (b := false)).eq rfl rfl)
        | false => exact NM.advE (NM.refl.eq rfl rfl)
  unfold stp at hs
  split at hs
  · unfold iFin at hs
    split at hs
    · cases hs
    · cases hs
    · split at hs
      · cases hs
      · cases hs
        exact NM.refl.eq rfl rfl
  · split at hs
    · unfold iSub at hs
      split at hs
      · exact pSpc hs
      · split at hs
        · unfold iPrf at hs
          split at hs
          · split at hs
            · cases hs
            · split at hs
              · cases hs
              · rename_i he
                cases hs
                have := ent_NM NM.refl he
                exact ⟨this.1, fun _ => by show (1 : Nat) ≠ 0; decide⟩
          · cases hs
        · split at hs
          · unfold iSbe at hs
            split at hs
            · cases hs
            · cases hs
              exact (NM.refl.eq (Y := sN a 4 0) rfl rfl).advE
          · split at hs
            · exact pCmt hs
            · split at hs
              · exact pPin hs
              · split at hs
                · unfold iEld at hs
                  split at hs
                  · split at hs
                    · split at hs
                      · cases hs
                      · cases hs
                        exact (NM.refl.eq (Y := sD a _) rfl rfl).advE
                    · cases hs
                  · cases hs
                · split at hs
                  · unfold iAtl at hs
                    split at hs
                    · split at hs
                      · split at hs
                        · cases hs
                        · rename_i c m ad hd
                          cases hs
                          refine NM.advE ?_
                          by_cases hu : und a = true
                          · exact ⟨Or.inl (dfs_m hu _ _ _ _ hd), fun z => z⟩
                          · exact ⟨Or.inr (und_6 hu), fun z => z⟩
                      · cases hs
                    · cases hs
                  · split at hs
                    · unfold iEnt at hs
                      split at hs
                      · split at hs
                        · cases hs
                        · split at hs
                          · split at hs
                            · cases hs
                            · cases hs
                              refine NM.advE ?_
                              split
                              · exact NM.refl.eq rfl rfl
                              · exact NM.refl.eq rfl rfl
                          · cases hs
                      · cases hs
                    · split at hs
                      · unfold iNot at hs
                        split at hs
                        · split at hs
                          · cases hs
                            exact (NM.refl.eq (Y := sN (sT a _) 2 _) rfl rfl).advE
                          · cases hs
                        · cases hs
                      · cases hs
    · split at hs
      · unfold iCon at hs
        split at hs
        · unfold iRef at hs
          split at hs
          · cases hs
          · split at hs
            · cases hs
              exact ((NM.tchE (b := true)).eq (Y := chr (tch a true) _) rfl rfl).advE
            · split at hs
              · cases hs
              · split at hs
                · split at hs
                  · cases hs
                  · rename_i hu
                    cases hs
                    refine NM.advE ⟨Or.inr (und_6 hu), fun z => ?_⟩
                    show aN (tch a false) 6 ≠ 0
                    rw [tch_other.2.2.1]
                    exact z
                · exact ent_NM NM.tchE hs
        · split at hs
          · unfold iRun at hs
            split at hs
            · cases hs
            · cases hs
              exact (NM.tchE.eq (Y := chr (tch a _) _) rfl rfl).advE
          · split at hs
            · unfold iEnd at hs
              split at hs
              · split at hs
                · cases hs
                · split at hs
                  · cases hs
                  · cases hs
                    have hcl : ∀ Y : AS, aN (cls Y) 1 = aN Y 1 ∧ aN (cls Y) 6 = aN Y 6 := fun Y => by
                      unfold cls
                      split
                      · exact ⟨rfl, rfl⟩
                      · exact ⟨rfl, rfl⟩
                    exact NM.refl.advE.eq (hcl _).1 (hcl _).2
              · cases hs
            · split at hs
              · exact pCmt hs
              · split at hs
                · exact pPin hs
                · split at hs
                  · unfold iSec at hs
                    split at hs
                    · cases hs
                    · cases hs
                      exact ((NM.tchE (b := true)).eq (Y := chr (tch a true) _) rfl rfl).advE
                  · split at hs
                    · cases hs
                    · exact iTag_NM hs
      · unfold iOut at hs
        split at hs
        · exact pSpc hs
        · split at hs
          · exact pCmt hs
          · split at hs
            · exact pPin hs
            · split at hs
              · cases hs
              · split at hs
                · exact iTag_NM hs
                · split at hs
                  · cases hs
                  · unfold iDtd at hs
                    split at hs
                    · split at hs
                      · cases hs
                      · cases hs
                        exact (NM.refl.eq (Y := sN (sR a _) 4 _) rfl rfl).advE
                    · cases hs
theorem GU.stpE (h : GU a) (hs : stp rm nd a = .inr a') : GU a' := by
  obtain ⟨h1, h2⟩ := stp_NM hs
  intro z
  rcases h1 with y | y
  · rw [y] at z; exact h2 (h z)
  · exact h2 y
theorem jdg_GU (hn : n ≤ 65536) (h : jdg rm nd B n = .inr a') : GU a' :=
  jdg_inv GU (fun _ _ _ hV hs => GU.stpE hV hs) (fun l st k => by
    refine ⟨fun z => absurd rfl z, ?_⟩
    unfold GU
    rw [adv_other.2.1]
    exact fun z => absurd rfl z) hn h
end Gu
