/-! ===== room (6): what an item does to the texts that are gone through (pure) ===== -/
section Kw6
variable {rm nd : Nat} {a a' X : AS} {q : Nat × Nat} {t : List Frm}
/-- what one item does to the texts and to the entities -/
def FRM (a a' : AS) (q : Nat × Nat) (t : List Frm) : Prop := ∃ k, itK a = some k ∧ ((aF a' = ((cur a).drop k, q) :: t) ∨ ∃ i, i < (aE a).length ∧ aF a' = (((aE a).getD i ([], false, [])).2.2, i + 1, (aO a).length) :: ((cur a).drop k, q) :: t ∧ aN a' 4 = aN a 4 ∧ ((aN a 4 = 1 ∧ ((aE a).getD i ([], false, [])).2.1 = true) ∨ (aN a 4 = 2 ∧ ((aE a).getD i ([], false, [])).2.1 = false))) ∧ (aE a' = aE a ∨ ∃ x, aE a' = aE a ++ [x] ∧ itE a = some x) ∧ aN a' 8 = aN a 8 ∧ aN a 0 + rem a' + k ≤ aN a' 0 + rem a
theorem itK_le {k : Nat} (hk : itK a = some k) : k ≤ (cur a).length := by
  by_cases hc : cur a = []
  · unfold itK at hk; rw [if_pos hc] at hk; cases hk
  · exact (iw_k (itm_W hc) hk).2
theorem FRM.go {k : Nat} (hF : aF a = (cur a, q) :: t) (hk : itK a = some k) (hX : aF X = aF a) (hE : aE X = aE a ∨ ∃ x, aE X = aE a ++ [x] ∧ itE a = some x) (h8 : aN X 8 = aN a 8) (h0 : aN a 0 ≤ aN X 0) : FRM a (adv X k) q t := by
  obtain ⟨o1, o2, -⟩ := adv_other (a := X) (k := k)
  have hcX : cur X = cur a := by unfold cur; rw [hX]
  have hrX : rem X = rem a := by unfold rem; rw [hX]
  have hra := rem_adv (a := X) (k := k) (by rw [hcX]; exact itK_le hk)
  refine ⟨k, hk, Or.inl ?_, ?_, ?_, by rw [o2]; omega⟩
  · rw [adv_of (l := cur a) (g := q) (t := t) (by rw [hX]; exact hF)]; rfl
  · rw [o1]; exact hE
  · rw [o2]; exact h8
theorem eno_at2 {en : List Ent} {s : Str} {b : Bool} {i : Nat} (h : eno en s b = some i) : i < en.length ∧ (en.getD i ([], false, [])).2.1 = b := by
  unfold eno at h
  have h' := List.findIdx?_eq_some_iff_getElem.mp h
  obtain ⟨h1, h2, -⟩ := h'
  refine ⟨h1, ?_⟩
  rw [List.getD_eq_getElem?_getD, List.getElem?_eq_getElem h1]
  rw [Bool.and_eq_true, beq_iff_eq, beq_iff_eq] at h2
  exact h2.2
theorem FRM.thr {i k : Nat} (hF : aF a = (cur a, q) :: t) (hk : itK a = some k) (hX : aF X = aF a) (hXE : aE X = aE a) (hXN : aN X = aN a) (hXO : aO X = aO a) (hi : i < (aE a).length) (hph : (aN a 4 = 1 ∧ ((aE a).getD i ([], false, [])).2.1 = true) ∨ (aN a 4 = 2 ∧ ((aE a).getD i ([], false, [])).2.1 = false)) (h : ent rm X i k = .inr a') : FRM a a' q t := by
  unfold ent at h
  rw [hX, hF] at h
  dsimp only at h
  rw [hXE, hXN, hXO] at h
  split at h
  · cases h
  · split at h
    · cases h
    · cases h
      have hkl := itK_le hk
      refine ⟨k, hk, Or.inr ⟨i, hi, rfl, ?_, hph⟩, Or.inl ?_, ?_, ?_⟩
      · show aN X 4 = aN a 4
        rw [hXN]
      · exact hXE
      · show aN X 8 = aN a 8
        rw [hXN]
      · generalize ((aE a).getD i ([], false, [])).2.2 = tx
        have r1 : rem a = (cur a).length + (t.map (fun f => f.1.length)).sum := by unfold rem; rw [hF, List.map_cons, List.sum_cons]
        show aN a 0 + (((tx, i + 1, (aO a).length) :: ((cur a).drop k, q) :: t).map (fun f : Frm => f.1.length)).sum + k ≤ aN a 0 + tx.length + rem a
        rw [List.map_cons, List.map_cons, List.sum_cons, List.sum_cons, r1]
        dsimp only
        rw [List.length_drop]
        omega
theorem cls_F : aF (cls a) = aF a ∧ aE (cls a) = aE a ∧ aN (cls a) 8 = aN a 8 ∧ aN (cls a) 0 = aN a 0 := by
  unfold cls
  split
  · exact ⟨rfl, rfl, rfl, rfl⟩
  · exact ⟨rfl, rfl, rfl, rfl⟩
theorem val_up {l : List Int} {c m c' m' : Nat} {o : List Int} (h : val rm a l c m = .inr (c', m', o)) : c ≤ c' := (vrn_mk _ _ h).1
theorem gvs_up {T : Nat → Int} {el : Str} : ∀ (l : List (Nat × Nat × Nat × Nat)) (c m : Nat) (acc : List Att) {r : Nat × Nat × List Att}, gvs rm a T el l c m acc = .inr r → c ≤ r.1
  | [], c, m, acc, r, h => by cases h; exact Nat.le_refl _
  | (x, b, v, j) :: l, c, m, acc, r, h => by
    rw [gvs_cons] at h
    split at h
    · cases h
    · cases hv : val rm a (sl T (v + 1) (j - 1 - (v + 1))) c m with
      | inl f => rw [hv] at h; cases h
      | inr q =>
        obtain ⟨c1, m1, o⟩ := q
        rw [hv] at h
        have := gvs_up l c1 m1 _ h
        have := val_up hv
        omega
theorem dfs_up {T : Nat → Int} {e : Nat} {el : Str} : ∀ (l : List Nat) (c m : Nat) (ad : List ADc) {r : Nat × Nat × List ADc}, dfs rm a T e el l c m ad = .inr r → c ≤ r.1
  | [], c, m, ad, r, h => by cases h; exact Nat.le_refl _
  | x :: l, c, m, ad, r, h => by
    unfold dfs at h
    cases hd : dfa rm a T e el x c m ad with
    | inl f => rw [hd] at h; cases h
    | inr q =>
      obtain ⟨c1, m1, ad1⟩ := q
      rw [hd] at h
      have h2 := dfs_up l c1 m1 ad1 h
      have h3 : c ≤ c1 := by
        unfold dfa at hd
        split at hd
        · cases hd
        · split at hd
          · cases hd
          · split at hd
            · cases hd
            · split at hd
              · cases hd; exact Nat.le_refl _
              · split at hd
                · cases hd
                · split at hd
                  · cases hd
                  · rename_i hv
                    cases hd; exact val_up hv
      omega
theorem stp_frm (hs : stp rm nd a = .inr a') (hc : cur a ≠ []) (hF : aF a = (cur a, q) :: t) : FRM a a' q t := by
  have h0 : stp rm nd a = if aN a 4 = 1 then iSub rm nd a else if aN a 4 = 2 then iCon rm nd a else iOut rm nd a := by unfold stp; rw [if_neg hc]
  rw [h0] at hs
  have hl : 0 < (cur a).length := List.length_pos_iff.mpr hc
  have hmt : ∀ l : List Int, (∀ c ∈ l, c ≠ -1) → mt (gd (cur a)) (cur a).length 0 l = true → l.length ≤ (cur a).length := fun l h1 h2 => by have := mt_at h1 (Nat.zero_le _) h2; omega
  have hcmt : ∀ a', itK a = cmt (gd (cur a)) (cur a).length 0 → iCmt a = .inr a' → FRM a a' q t := by
    intro a' hk h
    unfold iCmt at h
    split at h
    · cases h
    · rename_i k hz
      cases h
      exact FRM.go hF (hk.trans hz) tch_other.1 (Or.inl tch_other.2.1) (by rw [tch_other.2.2.1]) (by rw [tch_other.2.2.1]; exact Nat.le_refl _)
  have hpin : ∀ cn a', itK a = (pin (gd (cur a)) (cur a).length 0).map (fun z => z.2.2) → iPin nd cn a = .inr a' → FRM a a' q t := by
    intro cn a' hk h
    unfold iPin at h
    split at h
    · cases h
    · rename_i n f k hz
      split at h
      · cases h
      · cases h
        rw [hz] at hk
        cases cn with
        | true => exact FRM.go hF hk (tch_other (a := a) (sp := false)).1 (Or.inl (tch_other (a := a) (sp := false)).2.1) (by show aN (tch a false) 8 = _; rw [tch_other.2.2.1]) (by show _ ≤ aN (tch a false) 0; rw [tch_other.2.2.1]; exact Nat.le_refl _)
        | false => exact FRM.go hF hk rfl (Or.inl rfl) rfl (Nat.le_refl _)
  have htag : ∀ a', itK a = tgk (gd (cur a)) (cur a).length 0 → iTag rm nd a = .inr a' → FRM a a' q t := by
    intro a' hk h
    unfold iTag at h
    split at h
    · rename_i k n hz hn
      rw [hz] at hk
      split at h
      · cases h
      · rename_i c m gv hg
        split at h
        · cases h
        · have o1 := adv_of (a := tch a false) (l := cur a) (g := q) (t := t) (k := k) (by rw [tch_other.1]; exact hF)
          have hup := gvs_up _ _ _ _ hg
          have key : ∀ b : AS, aF b = aF (adv (tch a false) k) → aE b = aE (adv (tch a false) k) → aN b 8 = aN (adv (tch a false) k) 8 → aN b 0 = c → FRM a b q t := by
            intro b h1 h2 h3 h0
            obtain ⟨w1, w2, -⟩ := adv_other (a := tch a false) (k := k)
            have hrm : rem b + k = rem a := by
              have := rem_adv (a := tch a false) (k := k) (by rw [tch_cur]; exact itK_le hk)
              rw [tch_rem] at this
              unfold rem at this ⊢
              rw [h1]; exact this
            refine ⟨k, hk, Or.inl ?_, Or.inl ?_, ?_, by rw [h0]; dsimp only at hup; omega⟩
            · rw [h1, o1]; rfl
            · rw [h2, w1, tch_other.2.1]
            · rw [h3, w2, tch_other.2.2.1]
          have hr := Sum.inr.inj h
          split at hr
          · rw [← hr]
            have hcl := cls_F (a := nel a (sl (gd (cur a)) 1 (n - 1)) gv (gv ++ dfl (aA a) (sl (gd (cur a)) 1 (n - 1)) gv) k c m)
            exact key _ (hcl.1.trans rfl) (hcl.2.1.trans rfl) (hcl.2.2.1.trans rfl) (hcl.2.2.2.trans rfl)
          · rw [← hr]; exact key _ rfl rfl rfl rfl
    · cases h
  by_cases p1 : aN a 4 = 1
  · rw [if_pos p1, iSub_d] at hs
    have hK : itK a = (if dSub a = 0 then some (sk isSp (gd (cur a)) (cur a).length 0) else if dSub a = 1 then pcp (gd (cur a)) (cur a).length 0 else if dSub a = 2 then wd (gd (cur a)) (cur a).length [62] (asp (gd (cur a)) (cur a).length (some 1)) else if dSub a = 3 then cmt (gd (cur a)) (cur a).length 0 else if dSub a = 4 then (pin (gd (cur a)) (cur a).length 0).map (fun z => z.2.2) else if dSub a = 5 then elk (gd (cur a)) (cur a).length 0 else if dSub a = 6 then alk (gd (cur a)) (cur a).length 0 else if dSub a = 7 then enk (gd (cur a)) (cur a).length 0 else if dSub a = 8 then ntk (gd (cur a)) (cur a).length 0 else none) := by
      unfold itK; rw [if_neg hc, if_pos p1]
    rcases dSub_c (a := a) with ⟨d, h⟩ | ⟨d, h⟩ | ⟨d, h⟩ | d | ⟨d, h⟩ | ⟨d, h⟩ | ⟨d, h⟩ | ⟨d, h⟩ | ⟨d, h⟩ | d <;> rw [d] at hs hK
    · have hs' : iSpc a = .inr a' := hs
      unfold iSpc at hs'
      cases hs'
      exact FRM.go hF hK rfl (Or.inl rfl) rfl (Nat.le_refl _)
    · have hs' : iPrf rm a = .inr a' := hs
      unfold iPrf at hs'
      split at hs'
      · rename_i n k hn hk
        split at hs'
        · cases hs'
        · rename_i i hi
          split at hs'
          · cases hs'
          · rename_i b hb
            cases hs'
            have he := eno_at2 hi
            have hK' : itK a = some k := hK.trans hk
            have := FRM.thr hF hK' rfl rfl rfl rfl he.1 (Or.inl ⟨p1, he.2⟩) hb
            exact this
      · cases hs'
    · have hs' : iSbe a = .inr a' := hs
      unfold iSbe at hs'
      split at hs'
      · cases hs'
      · rename_i k hk
        cases hs'
        exact FRM.go (X := sN a 4 0) hF (hK.trans hk) rfl (Or.inl rfl) rfl (Nat.le_refl _)
    · exact hcmt a' hK hs
    · exact hpin false a' hK hs
    · have hs' : iEld a = .inr a' := hs
      unfold iEld at hs'
      split at hs'
      · rename_i s k h1 h2
        split at hs'
        · split at hs'
          · cases hs'
          · cases hs'
            exact FRM.go (X := sD a _) hF (hK.trans h2) rfl (Or.inl rfl) rfl (Nat.le_refl _)
        · cases hs'
      · cases hs'
    · have hs' : iAtl rm a = .inr a' := hs
      unfold iAtl at hs'
      split at hs'
      · rename_i s k h1 h2
        split at hs'
        · split at hs'
          · cases hs'
          · rename_i hd
            cases hs'
            exact FRM.go (X := sN (sN (sA a _) 0 _) 1 _) hF (hK.trans h2) rfl (Or.inl rfl) rfl (dfs_up _ _ _ _ hd)
        · cases hs'
      · cases hs'
    · have hs' : iEnt a = .inr a' := hs
      obtain ⟨f, n, t', m, k, tx, h1, h2, h3, h4, h5, h6, h7, h9, h10, h11, h12, h13⟩ := iEnt_at (hmt _ (by decide) h) hs'
      rw [h12]
      refine FRM.go hF (hK.trans h3) ?_ ?_ ?_ ?_
      · split <;> rfl
      · split
        · exact Or.inl rfl
        · refine Or.inr ⟨_, rfl, ?_⟩
          unfold itE
          rw [if_neg hc, if_pos p1, if_pos d]
          unfold enS
          obtain ⟨b', hb1, hb2⟩ := h13 (a0 (cur a)) rfl
          rw [hb1]
          dsimp only
          rw [hb2]
          have e1 : eno (aE (a0 (cur a))) (sl (gd (cur a)) f (n - f)) (enP (gd (cur a)) (cur a).length 0) = none := rfl
          rw [e1, if_neg (by decide)]
          rw [(adv_other (a := sN (sE (a0 (cur a)) (aE (a0 (cur a)) ++ [(sl (gd (cur a)) f (n - f), enP (gd (cur a)) (cur a).length 0, tx)])) 2 (aN (a0 (cur a)) 2 + (hasc (sl (gd (cur a)) f (n - f))).toNat)) (k := k)).1]
          rfl
      · split <;> rfl
      · split <;> exact Nat.le_refl _
    · have hs' : iNot a = .inr a' := hs
      unfold iNot at hs'
      split at hs'
      · rename_i s k h1 h2
        split at hs'
        · cases hs'
          exact FRM.go (X := sN (sT a _) 2 _) hF (hK.trans h2) rfl (Or.inl rfl) rfl (Nat.le_refl _)
        · cases hs'
      · cases hs'
    · cases hs
  · rw [if_neg p1] at hs
    by_cases p2 : aN a 4 = 2
    · rw [if_pos p2, iCon_d] at hs
      have hK : itK a = (if dCon a = 0 then rfp (gd (cur a)) (cur a).length (some 0) else if dCon a = 1 then some (sk isRn (gd (cur a)) (cur a).length 0) else if dCon a = 2 then etk (gd (cur a)) (cur a).length 0 else if dCon a = 3 then cmt (gd (cur a)) (cur a).length 0 else if dCon a = 4 then (pin (gd (cur a)) (cur a).length 0).map (fun z => z.2.2) else if dCon a = 5 then (sek (gd (cur a)) (cur a).length [93, 93, 62] 9).map (fun z => z + 3) else if dCon a = 6 then none else tgk (gd (cur a)) (cur a).length 0) := by
        unfold itK; rw [if_neg hc, if_neg p1, if_pos p2]
      rcases dCon_c (a := a) with ⟨d, h⟩ | ⟨d, n38, n60⟩ | ⟨d, h⟩ | d | ⟨d, h⟩ | ⟨d, h⟩ | d | ⟨d, h⟩ <;> rw [d] at hs hK
      · have hs' : iRef rm a = .inr a' := hs
        unfold iRef at hs'
        split at hs'
        · cases hs'
        · rename_i k hk
          have hK' : itK a = some k := hK.trans hk
          split at hs'
          · cases hs'
            exact FRM.go (X := chr (tch a true) _) hF hK' (tch_other (a := a) (sp := true)).1 (Or.inl (tch_other (a := a) (sp := true)).2.1) (by show aN (tch a true) 8 = _; rw [tch_other.2.2.1]) (by show _ ≤ aN (tch a true) 0; rw [tch_other.2.2.1]; exact Nat.le_refl _)
          · split at hs'
            · cases hs'
            · split at hs'
              · split at hs'
                · cases hs'
                · cases hs'
                  exact FRM.go (X := sN (tch a false) 1 _) hF hK' (tch_other (a := a) (sp := false)).1 (Or.inl (tch_other (a := a) (sp := false)).2.1) (by show aN (tch a false) 8 = _; rw [tch_other.2.2.1]) (by show _ ≤ aN (tch a false) 0; rw [tch_other.2.2.1]; exact Nat.le_refl _)
              · rename_i i hi
                have he := eno_at2 hi
                exact FRM.thr hF hK' tch_other.1 tch_other.2.1 tch_other.2.2.1 tch_other.2.2.2.2.2.2.2.2.2 he.1 (Or.inr ⟨p2, he.2⟩) hs'
      · have hs' : iRun a = .inr a' := hs
        unfold iRun at hs'
        split at hs'
        · cases hs'
        · cases hs'
          exact FRM.go (X := chr (tch a _) _) hF hK (tch_other (a := a)).1 (Or.inl (tch_other (a := a)).2.1) (by show aN (tch a _) 8 = _; rw [tch_other.2.2.1]) (by show _ ≤ aN (tch a _) 0; rw [tch_other.2.2.1]; exact Nat.le_refl _)
      · have hs' : iEnd a = .inr a' := hs
        unfold iEnd at hs'
        split at hs'
        · rename_i k n e r f _ hk hn hO _
          split at hs'
          · cases hs'
          · split at hs'
            · cases hs'
            · cases hs'
              have hcl := cls_F (a := adv a k)
              obtain ⟨w1, w2, -⟩ := adv_other (a := a) (k := k)
              have hrm := rem_adv (a := a) (k := k) (itK_le (hK.trans hk))
              refine ⟨k, hK.trans hk, Or.inl ?_, Or.inl ?_, ?_, ?_⟩
              · rw [hcl.1, adv_of (l := cur a) (g := q) (t := t) hF]; rfl
              · rw [hcl.2.1, w1]
              · rw [hcl.2.2.1, w2]
              · have : rem (cls (adv a k)) = rem (adv a k) := by unfold rem; rw [hcl.1]
                rw [hcl.2.2.2, w2, this]
                omega
        · cases hs'
      · exact hcmt a' hK hs
      · exact hpin true a' hK hs
      · have hs' : iSec a = .inr a' := hs
        unfold iSec at hs'
        split at hs'
        · cases hs'
        · rename_i k hk
          cases hs'
          rw [hk] at hK
          exact FRM.go (X := chr (tch a true) _) hF hK (tch_other (a := a) (sp := true)).1 (Or.inl (tch_other (a := a) (sp := true)).2.1) (by show aN (tch a true) 8 = _; rw [tch_other.2.2.1]) (by show _ ≤ aN (tch a true) 0; rw [tch_other.2.2.1]; exact Nat.le_refl _)
      · cases hs
      · exact htag a' hK hs
    · rw [if_neg p2, iOut_d] at hs
      have hK : itK a = (if dOut a = 0 then some (sk isSp (gd (cur a)) (cur a).length 0) else if dOut a = 1 then cmt (gd (cur a)) (cur a).length 0 else if dOut a = 2 then (pin (gd (cur a)) (cur a).length 0).map (fun z => z.2.2) else if dOut a = 3 then none else if dOut a = 4 then tgk (gd (cur a)) (cur a).length 0 else dtk (gd (cur a)) (cur a).length 0) := by
        unfold itK; rw [if_neg hc, if_neg p1, if_neg p2]
      rcases dOut_c (a := a) with ⟨d, h⟩ | d | ⟨d, h⟩ | d | ⟨d, h⟩ | ⟨d, h, -⟩ <;> rw [d] at hs hK
      · have hs' : iSpc a = .inr a' := hs
        unfold iSpc at hs'
        cases hs'
        exact FRM.go hF hK rfl (Or.inl rfl) rfl (Nat.le_refl _)
      · exact hcmt a' hK hs
      · exact hpin true a' hK hs
      · cases hs
      · exact htag a' hK hs
      · have hs' : iDtd a = .inr a' := hs
        unfold iDtd at hs'
        split at hs'
        · rename_i n s k h1 h2 h3
          split at hs'
          · cases hs'
          · cases hs'
            exact FRM.go (X := sN (sR a _) 4 _) hF (hK.trans h3) rfl (Or.inl rfl) rfl (Nat.le_refl _)
        · cases hs'
end Kw6
