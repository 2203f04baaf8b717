/-! ===== room (14): declarations and events, item by item (pure) ===== -/
section KwE
variable {rm nd : Nat} {a a' : AS} {T : Nat → Int} {e : Nat}
theorem bldN_2 {x : EDc} : 2 * (bldN x).length ≤ x.2.2.length + 1 := by
  unfold bldN mdE
  generalize hT : gd x.2.2 = T
  generalize he : x.2.2.length = e
  cases hm : mdl T e 0 with
  | none =>
    have e0 : ((none : Option (Nat × Nat × Nat)).getD (0, 0, 0)).1 = 0 := rfl
    rw [e0, bld_s, if_pos (Nat.le_refl _)]
    exact Nat.zero_le _
  | some r =>
    have e0 : ((some r : Option (Nat × Nat × Nat)).getD (0, 0, 0)).1 = r.1 := rfl
    rw [e0]
    unfold mdl at hm
    split at hm
    · rename_i hm1
      have h1 := mt_one (by decide) hm1
      have h2 := mdk_le _ _ _ _ _ _ _ (by omega) hm
      rw [bld_s, if_neg (by omega), if_pos h1.2]
      have := bl_cnt (e + 2) 0 [] true (0 + 1) 0 1 r (knw 1 [] (-1) (-1) (-1) []) 0 (-1) 0 r.1 hm (by omega) (by omega) (by omega)
      rw [knw_len, List.length_nil, if_pos rfl] at this
      have e1 : ((([] : List KNd).length : Nat) : Int) = 0 := rfl
      rw [e1]
      omega
    · cases hm
theorem mxN_2 {x : EDc} : 2 * (mxN x).length ≤ x.2.2.length := by
  unfold mxN
  by_cases c : mx0 x.2.2 ≤ x.2.2.length
  · have h := mxL_W (T := gd x.2.2) (e := x.2.2.length) (x.2.2.length + 1) (mx0 x.2.2) c
    have := Wn_2 h.2.1
    omega
  · have e0 : mxL (gd x.2.2) x.2.2.length (x.2.2.length + 1) (mx0 x.2.2) = [] := by
      unfold mxL
      rw [if_neg]
      intro hm
      have h1 := mt_one (by decide) hm
      have h2 := sk_gt (p := isSp) (T := gd x.2.2) (e := x.2.2.length) (i := mx0 x.2.2)
      omega
    rw [e0]
    exact Nat.zero_le _
theorem adXn_W0 : ∀ (n k : Nat), k ≤ e → 2 * (adXn T e n k).length + k ≤ e := by
  intro n
  induction n with
  | zero => intro k hk; show 2 * 0 + k ≤ e; omega
  | succ n ih =>
    intro k hk
    unfold adXn
    cases hs : spc T e (some k) with
    | none => show 2 * 0 + k ≤ e; omega
    | some x =>
      dsimp only
      cases hn : nmg T e true (some x) with
      | none => show 2 * 0 + k ≤ e; omega
      | some b =>
        dsimp only
        cases hd : dfn T e x with
        | none => show 2 * 0 + k ≤ e; omega
        | some j =>
          dsimp only
          obtain ⟨b', y, h1, h2, h3, h4, h5, h6⟩ := dfn_W hk hs hd
          rw [hn] at h1
          cases h1
          rw [h2]
          have et : tyWo T e (some y) = tyW T e y := rfl
          rw [et, List.length_cons, List.length_append]
          have := ih j h6
          have := Wn_2 (tyW_ne (T := T) (e := e) (i := y))
          omega
/-- what an item declares -/
theorem stp_dcl (hs : stp rm nd a = .inr a') (hc : cur a ≠ []) {k : Nat} (hk : itK a = some k) : (aT a' = aT a ∨ ∃ s, aT a' = aT a ++ [s] ∧ 12 ≤ k) ∧ ((aD a' = aD a ∧ aA a' = aA a) ∨ (∃ x, aD a' = aD a ++ [x] ∧ aA a' = aA a ∧ x.2.1 ≤ 3 ∧ 2 * (bldN x).length ≤ k ∧ 2 * (mxN x).length ≤ k ∧ aL a' = aL a) ∨ (aD a' = aD a ∧ aL a' = aL a ∧ ∃ new, aA a' = aA a ++ new ∧ 2 * (new.map (fun x => x.2.2.2.2.2.length)).sum ≤ k)) := by
  have hl : 0 < (cur a).length := List.length_pos_iff.mpr hc
  have hmt : ∀ l : List Int, (∀ c ∈ l, c ≠ -1) → mt (gd (cur a)) (cur a).length 0 l = true → l.length ≤ (cur a).length := fun l h1 h2 => by have := mt_at h1 (Nat.zero_le _) h2; omega
  have plain : ∀ X j, a' = adv X j → aT X = aT a → aD X = aD a → aA X = aA a → (aT a' = aT a ∨ ∃ s, aT a' = aT a ++ [s] ∧ 12 ≤ k) ∧ ((aD a' = aD a ∧ aA a' = aA a) ∨ (∃ x, aD a' = aD a ++ [x] ∧ aA a' = aA a ∧ x.2.1 ≤ 3 ∧ 2 * (bldN x).length ≤ k ∧ 2 * (mxN x).length ≤ k ∧ aL a' = aL a) ∨ (aD a' = aD a ∧ aL a' = aL a ∧ ∃ new, aA a' = aA a ++ new ∧ 2 * (new.map (fun x => x.2.2.2.2.2.length)).sum ≤ k)) := by
    intro X j h1 h2 h3 h4
    obtain ⟨-, -, -, o4, o5, o6, -⟩ := adv_other (a := X) (k := j)
    rw [h1, o4, o5, o6]
    exact ⟨Or.inl h2, Or.inl ⟨h3, h4⟩⟩
  have same : aT a' = aT a → aD a' = aD a → aA a' = aA a → (aT a' = aT a ∨ ∃ s, aT a' = aT a ++ [s] ∧ 12 ≤ k) ∧ ((aD a' = aD a ∧ aA a' = aA a) ∨ (∃ x, aD a' = aD a ++ [x] ∧ aA a' = aA a ∧ x.2.1 ≤ 3 ∧ 2 * (bldN x).length ≤ k ∧ 2 * (mxN x).length ≤ k ∧ aL a' = aL a) ∨ (aD a' = aD a ∧ aL a' = aL a ∧ ∃ new, aA a' = aA a ++ new ∧ 2 * (new.map (fun x => x.2.2.2.2.2.length)).sum ≤ k)) := fun h1 h2 h3 => ⟨Or.inl h1, Or.inl ⟨h2, h3⟩⟩
  have tchD : ∀ b, aT (tch a b) = aT a ∧ aD (tch a b) = aD a ∧ aA (tch a b) = aA a := fun b => ⟨tch_other.2.2.2.2.2.2.1, tch_other.2.2.2.2.1, tch_other.2.2.2.2.2.1⟩
  have hent : ∀ X i j b, ent rm X i j = .inr b → aT b = aT X ∧ aD b = aD X ∧ aA b = aA X := by
    intro X i j b h
    unfold ent at h
    split at h
    · cases h
    · split at h
      · cases h
      · split at h
        · cases h
        · cases h; exact ⟨rfl, rfl, rfl⟩
  have hcmt : iCmt a = .inr a' → (aT a' = aT a ∨ ∃ s, aT a' = aT a ++ [s] ∧ 12 ≤ k) ∧ ((aD a' = aD a ∧ aA a' = aA a) ∨ (∃ x, aD a' = aD a ++ [x] ∧ aA a' = aA a ∧ x.2.1 ≤ 3 ∧ 2 * (bldN x).length ≤ k ∧ 2 * (mxN x).length ≤ k ∧ aL a' = aL a) ∨ (aD a' = aD a ∧ aL a' = aL a ∧ ∃ new, aA a' = aA a ++ new ∧ 2 * (new.map (fun x => x.2.2.2.2.2.length)).sum ≤ k)) := by
    intro h
    unfold iCmt at h
    split at h
    · cases h
    · exact plain (tch a false) _ (Sum.inr.inj h).symm (tchD _).1 (tchD _).2.1 (tchD _).2.2
  have hpin : ∀ cn, iPin nd cn a = .inr a' → (aT a' = aT a ∨ ∃ s, aT a' = aT a ++ [s] ∧ 12 ≤ k) ∧ ((aD a' = aD a ∧ aA a' = aA a) ∨ (∃ x, aD a' = aD a ++ [x] ∧ aA a' = aA a ∧ x.2.1 ≤ 3 ∧ 2 * (bldN x).length ≤ k ∧ 2 * (mxN x).length ≤ k ∧ aL a' = aL a) ∨ (aD a' = aD a ∧ aL a' = aL a ∧ ∃ new, aA a' = aA a ++ new ∧ 2 * (new.map (fun x => x.2.2.2.2.2.length)).sum ≤ k)) := by
    intro cn h
    unfold iPin at h
    split at h
    · cases h
    · split at h
      · cases h
      · cases cn with
        | true => exact plain _ _ (Sum.inr.inj h).symm (tchD false).1 (tchD false).2.1 (tchD false).2.2
        | false => exact plain _ _ (Sum.inr.inj h).symm rfl rfl rfl
  have htag : iTag rm nd a = .inr a' → (aT a' = aT a ∨ ∃ s, aT a' = aT a ++ [s] ∧ 12 ≤ k) ∧ ((aD a' = aD a ∧ aA a' = aA a) ∨ (∃ x, aD a' = aD a ++ [x] ∧ aA a' = aA a ∧ x.2.1 ≤ 3 ∧ 2 * (bldN x).length ≤ k ∧ 2 * (mxN x).length ≤ k ∧ aL a' = aL a) ∨ (aD a' = aD a ∧ aL a' = aL a ∧ ∃ new, aA a' = aA a ++ new ∧ 2 * (new.map (fun x => x.2.2.2.2.2.length)).sum ≤ k)) := by
    intro h
    unfold iTag at h
    split at h
    · rename_i kk n hz hn
      split at h
      · cases h
      · rename_i c m gv hg
        split at h
        · cases h
        · have hr := Sum.inr.inj h
          obtain ⟨-, -, -, o4, o5, o6, -⟩ := adv_other (a := tch a false) (k := kk)
          have key : ∀ b : AS, aT b = aT (adv (tch a false) kk) → aD b = aD (adv (tch a false) kk) → aA b = aA (adv (tch a false) kk) → aT b = aT a ∧ aD b = aD a ∧ aA b = aA a := by
            intro b h1 h2 h3
            rw [h1, h2, h3, o4, o5, o6]
            exact tchD false
          have hcl : ∀ X : AS, aT (cls X) = aT X ∧ aD (cls X) = aD X ∧ aA (cls X) = aA X := by
            intro X; unfold cls; split <;> exact ⟨rfl, rfl, rfl⟩
          have : aT a' = aT a ∧ aD a' = aD a ∧ aA a' = aA a := by
            rw [← hr]
            split
            · have h1 := hcl (nel a (sl (gd (cur a)) 1 (n - 1)) gv (gv ++ dfl (aA a) (sl (gd (cur a)) 1 (n - 1)) gv) kk c m)
              exact key _ (h1.1.trans rfl) (h1.2.1.trans rfl) (h1.2.2.trans rfl)
            · exact key _ rfl rfl rfl
          exact same this.1 this.2.1 this.2.2
    · cases h
  have h0 : stp rm nd a = if aN a 4 = 1 then iSub rm nd a else if aN a 4 = 2 then iCon rm nd a else iOut rm nd a := by unfold stp; rw [if_neg hc]
  rw [h0] at hs
  by_cases p1 : aN a 4 = 1
  · rw [if_pos p1, iSub_d] at hs
    have hK : itK a = (if dSub a = 0 then some (sk isSp (gd (cur a)) (cur a).length 0) else if dSub a = 1 then pcp (gd (cur a)) (cur a).length 0 else if dSub a = 2 then wd (gd (cur a)) (cur a).length [62] (asp (gd (cur a)) (cur a).length (some 1)) else if dSub a = 3 then cmt (gd (cur a)) (cur a).length 0 else if dSub a = 4 then (pin (gd (cur a)) (cur a).length 0).map (fun z => z.2.2) else if dSub a = 5 then elk (gd (cur a)) (cur a).length 0 else if dSub a = 6 then alk (gd (cur a)) (cur a).length 0 else if dSub a = 7 then enk (gd (cur a)) (cur a).length 0 else if dSub a = 8 then ntk (gd (cur a)) (cur a).length 0 else none) := by
      unfold itK; rw [if_neg hc, if_pos p1]
    rw [hk] at hK
    rcases dSub_c (a := a) with ⟨d, h⟩ | ⟨d, h⟩ | ⟨d, h⟩ | d | ⟨d, h⟩ | ⟨d, h⟩ | ⟨d, h⟩ | ⟨d, h⟩ | ⟨d, h⟩ | d <;> rw [d] at hs hK
    · have hs' : iSpc a = .inr a' := hs
      unfold iSpc at hs'
      exact plain a _ (Sum.inr.inj hs').symm rfl rfl rfl
    · have hs' : iPrf rm a = .inr a' := hs
      unfold iPrf at hs'
      split at hs'
      · split at hs'
        · cases hs'
        · split at hs'
          · cases hs'
          · rename_i b hb
            cases hs'
            have := hent _ _ _ _ hb
            exact same this.1 this.2.1 this.2.2
      · cases hs'
    · have hs' : iSbe a = .inr a' := hs
      unfold iSbe at hs'
      split at hs'
      · cases hs'
      · exact plain (sN a 4 0) _ (Sum.inr.inj hs').symm rfl rfl rfl
    · exact hcmt hs
    · exact hpin false hs
    · have hs' : iEld a = .inr a' := hs
      have h9 := hmt _ (by decide) h
      have e9 : [60, 33, 69, 76, 69, 77, 69, 78, 84].length = 9 := rfl
      unfold iEld at hs'
      split at hs'
      · rename_i s kk h1 h2
        split at hs'
        · rename_i n c hn hcc
          split at hs'
          · cases hs'
          · cases hs'
            obtain ⟨s', n', q1, q2, q3, q4, q5, q6⟩ := elc_at (by omega) hcc
            have hkk : k = kk := Option.some.inj (hK.trans h2)
            subst hkk
            have hck : c < k := by
              unfold elk at h2
              rw [hcc] at h2
              have h2' : wd (gd (cur a)) (cur a).length [62] (asp (gd (cur a)) (cur a).length (cnt (gd (cur a)) (cur a).length c)) = some k := h2
              have := (nmEl_W (a := a) (by omega)).2.2 k (by unfold elk; rw [hcc]; exact h2)
              cases hz : cnt (gd (cur a)) (cur a).length c with
              | none => rw [hz] at h2'; cases h2'
              | some z =>
                rw [hz] at h2'
                have hcz := cnt_gt hz
                have := wd_asp (by decide) (cnt_le q6 hz) h2'
                omega
            obtain ⟨-, -, -, o4, o5, o6, o7, -⟩ := adv_other (a := sD a (aD a ++ [(sl (gd (cur a)) s (n - s), cnK (gd (cur a)) (cur a).length c, sl (gd (cur a)) c (k - c))])) (k := k)
            refine ⟨Or.inl (o6.trans rfl), Or.inr (Or.inl ⟨_, o4.trans rfl, o5.trans rfl, ?_, ?_, ?_, o7.trans rfl⟩)⟩
            · show cnK _ _ _ ≤ 3
              unfold cnK
              split
              · omega
              · split
                · omega
                · split <;> omega
            · have := bldN_2 (x := (sl (gd (cur a)) s (n - s), cnK (gd (cur a)) (cur a).length c, sl (gd (cur a)) c (k - c)))
              dsimp only at this
              rw [sl_ln] at this
              omega
            · have := mxN_2 (x := (sl (gd (cur a)) s (n - s), cnK (gd (cur a)) (cur a).length c, sl (gd (cur a)) c (k - c)))
              dsimp only at this
              rw [sl_ln] at this
              omega
        · cases hs'
      · cases hs'
    · have hs' : iAtl rm a = .inr a' := hs
      obtain ⟨k', s, n, κ, c, m, ad, y1, y2, y3, y4, ⟨y5, y6, y7, y8, y9⟩, y10, y11⟩ := iAtl_at (hmt _ (by decide) h) hs'
      have hkk : k = k' := Option.some.inj (hK.trans y1)
      subst hkk
      obtain ⟨new, z1, z2, z3, z4, z5, z6⟩ := dfs_new _ n κ _ _ _ (by omega) y4 y10
      obtain ⟨x1, x2, x3, x4, x5, x6⟩ := adXn_W _ n κ (by omega) y4
      obtain ⟨-, -, -, o4, o5, o6, o7, -⟩ := adv_other (a := sN (sN (sA a ad) 0 c) 1 m) (k := k)
      rw [y11]
      refine ⟨Or.inl (o6.trans rfl), Or.inr (Or.inr ⟨o4.trans rfl, o7.trans rfl, new, ?_, by omega⟩)⟩
      rw [o5]
      exact z1
    · have hs' : iEnt a = .inr a' := hs
      obtain ⟨f, n, t', m, k', tx, h1, h2, h3, h4, h5, h6, h7, h9, h10, h11, h12, h13⟩ := iEnt_at (hmt _ (by decide) h) hs'
      refine plain _ _ h12 ?_ ?_ ?_ <;> split <;> rfl
    · have hs' : iNot a = .inr a' := hs
      have h10 := hmt _ (by decide) h
      have e10 : [60, 33, 78, 79, 84, 65, 84, 73, 79, 78].length = 10 := rfl
      unfold iNot at hs'
      split at hs'
      · rename_i s kk h1 h2
        split at hs'
        · rename_i n hn
          cases hs'
          obtain ⟨s', n', q1, q2, q3, q4, q5, q6⟩ := ntk_at (by omega) h2
          have hkk : k = kk := Option.some.inj (hK.trans h2)
          subst hkk
          obtain ⟨-, -, -, o4, o5, o6, -⟩ := adv_other (a := sN (sT a (aT a ++ [sl (gd (cur a)) s (n - s)])) 2 (aN a 2 + (hasc (sl (gd (cur a)) s (n - s))).toNat)) (k := k)
          exact ⟨Or.inr ⟨_, o6.trans rfl, by omega⟩, Or.inl ⟨o4.trans rfl, o5.trans rfl⟩⟩
        · cases hs'
      · cases hs'
    · cases hs
  · rw [if_neg p1] at hs
    by_cases p2 : aN a 4 = 2
    · rw [if_pos p2, iCon_d] at hs
      rcases dCon_c (a := a) with ⟨d, h⟩ | ⟨d, n38, n60⟩ | ⟨d, h⟩ | d | ⟨d, h⟩ | ⟨d, h⟩ | d | ⟨d, h⟩ <;> rw [d] at hs
      · have hs' : iRef rm a = .inr a' := hs
        unfold iRef at hs'
        split at hs'
        · cases hs'
        · split at hs'
          · exact plain (chr (tch a true) _) _ (Sum.inr.inj hs').symm (tchD true).1 (tchD true).2.1 (tchD true).2.2
          · split at hs'
            · cases hs'
            · split at hs'
              · split at hs'
                · cases hs'
                · exact plain (sN (tch a false) 1 _) _ (Sum.inr.inj hs').symm (tchD false).1 (tchD false).2.1 (tchD false).2.2
              · have := hent _ _ _ _ hs'
                exact same (this.1.trans (tchD false).1) (this.2.1.trans (tchD false).2.1) (this.2.2.trans (tchD false).2.2)
      · have hs' : iRun a = .inr a' := hs
        unfold iRun at hs'
        split at hs'
        · cases hs'
        · exact plain (chr (tch a _) _) _ (Sum.inr.inj hs').symm (tchD _).1 (tchD _).2.1 (tchD _).2.2
      · have h1 := pH_end (a' := a') hs
        have hT : aT a' = aT a := by
          have hs' : iEnd a = .inr a' := hs
          unfold iEnd at hs'
          split at hs'
          · split at hs'
            · cases hs'
            · split at hs'
              · cases hs'
              · cases hs'
                unfold cls
                split
                · exact adv_other.2.2.2.2.2.1
                · exact adv_other.2.2.2.2.2.1
          · cases hs'
        exact same hT h1.2.2.2 h1.2.2.1
      · exact hcmt hs
      · exact hpin true hs
      · have hs' : iSec a = .inr a' := hs
        unfold iSec at hs'
        split at hs'
        · cases hs'
        · exact plain (chr (tch a true) _) _ (Sum.inr.inj hs').symm (tchD true).1 (tchD true).2.1 (tchD true).2.2
      · cases hs
      · exact htag hs
    · rw [if_neg p2, iOut_d] at hs
      rcases dOut_c (a := a) with ⟨d, h⟩ | d | ⟨d, h⟩ | d | ⟨d, h⟩ | ⟨d, h, -⟩ <;> rw [d] at hs
      · have hs' : iSpc a = .inr a' := hs
        unfold iSpc at hs'
        exact plain a _ (Sum.inr.inj hs').symm rfl rfl rfl
      · exact hcmt hs
      · exact hpin true hs
      · cases hs
      · exact htag hs
      · have hs' : iDtd a = .inr a' := hs
        unfold iDtd at hs'
        split at hs'
        · split at hs'
          · cases hs'
          · exact plain (sN (sR a _) 4 _) _ (Sum.inr.inj hs').symm rfl rfl rfl
        · cases hs'
end KwE
