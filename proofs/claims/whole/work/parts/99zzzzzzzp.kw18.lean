/-! ===== violations, item by item: the step (pure) ===== -/
section KwI
variable {rm nd : Nat} {a a' : AS} {k : Nat}
/-- what an item leaves: declarations, attributes, what is open; flags of the innermost element at most -/
def FGx (a a' : AS) : Prop := aD a' = aD a ∧ aA a' = aA a ∧ aT a' = aT a ∧ aB a' = aB a ∧ aO a' = aO a ∧ (aL a').map e5 = (aL a).map e5 ∧ ∀ e, e ∉ aO a → (aL a').getD e elD = (aL a).getD e elD
theorem FGx.refl : FGx a a := ⟨rfl, rfl, rfl, rfl, rfl, rfl, fun _ _ => rfl⟩
theorem FGx.advE {X : AS} {j : Nat} (h : FGx a X) : FGx a (adv X j) := by
  obtain ⟨-, -, -, o4, o5, o6, o7, o8, -, o10⟩ := adv_other (a := X) (k := j)
  unfold FGx
  rw [o4, o5, o6, o7, o8, o10]
  exact h
theorem FGx.tchE {b : Bool} : FGx a (tch a b) := by
  obtain ⟨-, -, -, -, h5, h6, h7, h8, -, h10⟩ := tch_other (a := a) (sp := b)
  refine ⟨h5, h6, h7, h8, h10, (S0.tchE (a := a) (b := b)).1, fun e he => ?_⟩
  cases hO : aO a with
  | nil => rw [tch_nil hO]
  | cons e0 r =>
    rw [tch_L hO]
    have hne : e0 ≠ e := fun z => he (by rw [hO, z]; exact List.mem_cons_self)
    rw [List.getD_eq_getElem?_getD, List.getElem?_modify, List.getD_eq_getElem?_getD]
    cases (aL a)[e]? with
    | none => rfl
    | some x =>
      show (if e0 = e then _ else x) = x
      rw [if_neg hne]
theorem FGx.entE {X b : AS} {i j : Nat} (h : FGx a X) (hs : ent rm X i j = .inr b) : FGx a b := by
  unfold ent at hs
  split at hs
  · cases hs
  · split at hs
    · cases hs
    · split at hs
      · cases hs
      · cases hs; exact h
/-- the step -/
theorem vv_stp (hG : GI rm nd a) (hV : GV a) (hS : GS a) (hs : stp rm nd a = .inr a') : vv a' k = vv a k + stV rm a k := by
  have hp : ∀ y ∈ aL a, -1 ≤ y.2.1 := fun y hy => by
    obtain ⟨i, hi, he⟩ := List.mem_iff_getElem.mp hy
    have := hV.2 i (e5 y) (by rw [List.getElem?_map, List.getElem?_eq_getElem hi, he]; rfl)
    have e0 : (e5 y).2.1 = y.2.1 := rfl
    rw [e0] at this
    omega
  have flg : ∀ {b : AS}, FGx a b → vv b k = vv a k := fun h => vv_flg hp h.1 h.2.1 h.2.2.1 h.2.2.2.1 h.2.2.2.2.1 h.2.2.2.2.2.1 h.2.2.2.2.2.2
  obtain ⟨⟨-, -, -, -, -, ⟨p1', p2', -, -⟩, g6, -, gL, -⟩, -, hC1, -⟩ := id hG
  have hcmt : iCmt a = .inr a' → FGx a a' := by
    intro h
    unfold iCmt at h
    split at h
    · cases h
    · cases h; exact FGx.tchE.advE
  have hpin : ∀ cn, iPin nd cn a = .inr a' → FGx a a' := by
    intro cn h
    unfold iPin at h
    split at h
    · cases h
    · split at h
      · cases h
      · cases h
        refine FGx.advE ?_
        cases cn with
        | true => exact FGx.tchE (a := a) (b := false)
        | false => exact FGx.refl
  have htag : iTag rm nd a = .inr a' → vv a' k = vv a k + dvT rm a k := by
    intro h
    unfold iTag at h
    unfold dvT
    split at h
    · rename_i kk n hz hn
      try rw [hz, hn]
      try dsimp only
      split at h
      · cases h
      · rename_i c m gv hg
        try rw [hg]
        try dsimp only
        split at h
        · cases h
        · have hr := Sum.inr.inj h
          generalize hel : sl (gd (cur a)) 1 (n - 1) = el at *
          generalize hdl : dfl (aA a) el gv = al at *
          have ht := FGx.tchE (a := a) (b := false)
          have q1 : aD (nel a el gv (gv ++ al) kk c m) = aD a := (FGx.advE (j := kk) ht).1
          have q2 : aA (nel a el gv (gv ++ al) kk c m) = aA a := (FGx.advE (j := kk) ht).2.1
          have q3 : aT (nel a el gv (gv ++ al) kk c m) = aT a := (FGx.advE (j := kk) ht).2.2.1
          have q4 : aB (nel a el gv (gv ++ al) kk c m) = aB a ++ (gv ++ al) := rfl
          have q5 : aL (nel a el gv (gv ++ al) kk c m) = aL (tch a false) ++ [(el, par a, (aB a).length, (gv ++ al).length, gv.length, false, false)] := rfl
          have q6 : aO (nel a el gv (gv ++ al) kk c m) = (aL a).length :: aO a := rfl
          have hlen : (aL (tch a false)).length = (aL a).length := tch_len.1
          have hp1 : ∀ y ∈ aL (tch a false), -1 ≤ y.2.1 := par_e5 ht.2.2.2.2.2.1 hp
          have hpar : -1 ≤ par a ∧ ∀ e : Nat, par a = (e : Int) → e ∈ aO a := by
            unfold par
            cases hO : aO a with
            | nil => exact ⟨Int.le_refl _, fun e z => by have z' : (-1 : Int) = (e : Int) := z; omega⟩
            | cons e0 r => exact ⟨by show (-1 : Int) ≤ (e0 : Int); omega, fun e z => by
                have z' : (e0 : Int) = (e : Int) := z
                have : e0 = e := by omega
                rw [this]; exact List.mem_cons_self⟩
          have hnm : ¬ (aL a).length ∈ aO a := fun z => by have := och_lt g6 _ z; omega
          have hc := clS_new (ed := aD a) (k := k) (x := (el, par a, (aB a).length, (gv ++ al).length, gv.length, false, false)) hp1 hpar.1 hpar.2
          rw [hlen, clS_flg hp ht.2.2.2.2.2.1 ht.2.2.2.2.2.2] at hc
          have hcT : cnT (aA a) (aB a ++ (gv ++ al)) (aL (tch a false) ++ [(el, par a, (aB a).length, (gv ++ al).length, gv.length, false, false)]) k = cnT (aA a) (aB a) (aL a) k + (tgs (aA a) gv k + if k = 9 then rqN (aA a) el gv (aA a).length else 0) := by
            rw [cnT_tag, cnT_e5 ht.2.2.2.2.2.1]
            · have : segs (aL (tch a false)) = segs (aL a) := by rw [segs_e5, segs_e5, ht.2.2.2.2.2.1]
              rw [this]; exact hS.1
            · intro z hz'
              have h1 : e5 z ∈ (aL (tch a false)).map e5 := List.mem_map.mpr ⟨z, hz', rfl⟩
              rw [ht.2.2.2.2.2.1] at h1
              obtain ⟨w, h2, h3⟩ := List.mem_map.mp h1
              have := hC1 w h2
              have f1 : (e5 w).2.2.1 = (e5 z).2.2.1 := by rw [h3]
              have f2 : (e5 w).2.2.2.1 = (e5 z).2.2.2.1 := by rw [h3]
              have f3 : (e5 w).2.2.2.2 = (e5 z).2.2.2.2 := by rw [h3]
              have f1 : w.2.2.1 = z.2.2.1 := f1
              have f2 : w.2.2.2.1 = z.2.2.2.1 := f2
              have f3 : w.2.2.2.2.1 = z.2.2.2.2.1 := f3
              omega
          have hcon : (aO a).contains (aL a).length = false := by
            cases hz' : (aO a).contains (aL a).length with
            | false => rfl
            | true => exact absurd (List.contains_iff_mem.mp hz') hnm
          split at hr
          · rename_i h47
            rw [if_pos h47, ← hr]
            have hcl : aD (cls (nel a el gv (gv ++ al) kk c m)) = aD a ∧ aA (cls (nel a el gv (gv ++ al) kk c m)) = aA a ∧ aT (cls (nel a el gv (gv ++ al) kk c m)) = aT a ∧ aB (cls (nel a el gv (gv ++ al) kk c m)) = aB a ++ (gv ++ al) ∧ aL (cls (nel a el gv (gv ++ al) kk c m)) = aL (tch a false) ++ [(el, par a, (aB a).length, (gv ++ al).length, gv.length, false, false)] ∧ aO (cls (nel a el gv (gv ++ al) kk c m)) = aO a := by
              unfold cls
              rw [q6]
              exact ⟨q1, q2, q3, q4, q5, rfl⟩
            have hcV : clV (nel a el gv (gv ++ al) kk c m) k = clq (aD a) (aL (tch a false) ++ [(el, par a, (aB a).length, (gv ++ al).length, gv.length, false, false)]) k (aL a).length := by
              unfold clV clq
              rw [q6]
              dsimp only
              rw [q1, q5]
              rfl
            unfold vv
            rw [hcl.1, hcl.2.1, hcl.2.2.1, hcl.2.2.2.1, hcl.2.2.2.2.1, hcl.2.2.2.2.2, hcT, hc.2, hcV, hcon, if_neg (show ¬ (false = true) by decide)]
            omega
          · rename_i h47
            rw [if_neg h47, ← hr]
            unfold vv
            rw [q1, q2, q3, q4, q5, q6, hcT, hc.1]
            omega
    · cases h
  by_cases hc : cur a = []
  · have e0 : stV rm a k = 0 := by unfold stV; rw [if_pos hc]
    rw [e0, Nat.add_zero]
    unfold stp at hs
    rw [if_pos hc] at hs
    unfold iFin at hs
    split at hs
    · cases hs
    · cases hs
    · split at hs
      · cases hs
      · cases hs; exact flg FGx.refl
  · have h0 : stp rm nd a = if aN a 4 = 1 then iSub rm nd a else if aN a 4 = 2 then iCon rm nd a else iOut rm nd a := by unfold stp; rw [if_neg hc]
    have h0v : stV rm a = if aN a 4 = 1 then (if dSub a = 5 then dvE a else if dSub a = 6 then dvAl rm a else if dSub a = 8 then dvN a else (fun _ => 0)) else if aN a 4 = 2 then (if dCon a = 2 then clV a else if dCon a = 7 then dvT rm a else (fun _ => 0)) else (if dOut a = 4 then dvT rm a else (fun _ => 0)) := by unfold stV; rw [if_neg hc]
    rw [h0] at hs
    rw [h0v]
    have hmt : ∀ l : List Int, (∀ c ∈ l, c ≠ -1) → mt (gd (cur a)) (cur a).length 0 l = true → l.length ≤ (cur a).length := fun l h1 h2 => by have := mt_at h1 (Nat.zero_le _) h2; omega
    by_cases p1 : aN a 4 = 1
    · rw [if_pos p1, iSub_d] at hs
      rw [if_pos p1]
      have hL0 : aL a = [] := gL (by omega)
      rcases dSub_c (a := a) with ⟨d, h⟩ | ⟨d, h⟩ | ⟨d, h⟩ | d | ⟨d, h⟩ | ⟨d, h⟩ | ⟨d, h⟩ | ⟨d, h⟩ | ⟨d, h⟩ | d <;> rw [d] at hs ⊢
      · have hs' : iSpc a = .inr a' := hs
        unfold iSpc at hs'
        cases hs'; exact flg FGx.refl.advE
      · have hs' : iPrf rm a = .inr a' := hs
        unfold iPrf at hs'
        split at hs'
        · split at hs'
          · cases hs'
          · split at hs'
            · cases hs'
            · rename_i b hb
              cases hs'
              have hb' := FGx.refl.entE hb
              exact flg (b := sN b 6 1) ⟨hb'.1, hb'.2.1, hb'.2.2.1, hb'.2.2.2.1, hb'.2.2.2.2.1, hb'.2.2.2.2.2.1, hb'.2.2.2.2.2.2⟩
        · cases hs'
      · have hs' : iSbe a = .inr a' := hs
        unfold iSbe at hs'
        split at hs'
        · cases hs'
        · cases hs'; exact flg (FGx.advE (X := sN a 4 0) FGx.refl)
      · exact flg (hcmt hs)
      · exact flg (hpin false hs)
      · have hs' : iEld a = .inr a' := hs
        show vv a' k = vv a k + dvE a k
        unfold iEld at hs'
        unfold dvE
        split at hs'
        · rename_i s kk h1 h2
          split at hs'
          · rename_i n c hn hcc
            split at hs'
            · cases hs'
            · cases hs'
              rw [h1, h2, hcc]
              dsimp only
              rw [hn]
              dsimp only
              obtain ⟨-, -, -, o4, o5, o6, o7, o8, -, o10⟩ := adv_other (a := sD a (aD a ++ [(sl (gd (cur a)) s (n - s), cnK (gd (cur a)) (cur a).length c, sl (gd (cur a)) c (kk - c))])) (k := kk)
              rw [vv_none (o7.trans hL0), vv_none hL0, o4, o5, o6]
              show sn (ct3 (aD a ++ [_]) k) (aD a ++ [_]).length + dAs (aA a) k + _ = _
              rw [sn_ct3]
              show _ + dAs (aA a) k + (if k = 20 then ndu (aT a) else 0) = _
              omega
          · cases hs'
        · cases hs'
      · have hs' : iAtl rm a = .inr a' := hs
        show vv a' k = vv a k + dvAl rm a k
        obtain ⟨k', s, n, κ, c, m, ad, y1, y2, y3, y4, y5, y10, y11⟩ := iAtl_at (hmt _ (by decide) h) hs'
        obtain ⟨-, -, -, o4, o5, o6, o7, o8, -, o10⟩ := adv_other (a := sN (sN (sA a ad) 0 c) 1 m) (k := k')
        have hmono := dfs_mono (k := k) _ _ _ _ y10
        unfold dvAl
        rw [hs', y11]
        dsimp only
        rw [vv_none (o7.trans hL0), vv_none hL0, o4, o5, o6]
        have e1 : aA (sN (sN (sA a ad) 0 c) 1 m) = ad := rfl
        have e2 : aD (sN (sN (sA a ad) 0 c) 1 m) = aD a := rfl
        have e3 : aT (sN (sN (sA a ad) 0 c) 1 m) = aT a := rfl
        rw [e1, e2, e3]
        omega
      · have hs' : iEnt a = .inr a' := hs
        obtain ⟨f, n, t', m, k', tx, h1, h2, h3, h4, h5, h6, h7, h9, h10, h11, h12, h13⟩ := iEnt_at (hmt _ (by decide) h) hs'
        rw [h12]
        refine flg (FGx.advE ?_)
        split <;> exact FGx.refl
      · have hs' : iNot a = .inr a' := hs
        show vv a' k = vv a k + dvN a k
        unfold iNot at hs'
        split at hs'
        · rename_i s kk h1 h2
          split at hs'
          · rename_i n hn
            cases hs'
            have hnN : nmN a = [sl (gd (cur a)) s (n - s)] := by
              unfold nmN
              rw [h2, h1, hn]
            obtain ⟨-, -, -, o4, o5, o6, o7, o8, -, o10⟩ := adv_other (a := sN (sT a (aT a ++ [sl (gd (cur a)) s (n - s)])) 2 (aN a 2 + (hasc (sl (gd (cur a)) s (n - s))).toNat)) (k := kk)
            unfold dvN
            rw [hnN, vv_none (o7.trans hL0), vv_none hL0, o4, o5, o6]
            have e1 : aA (sN (sT a (aT a ++ [sl (gd (cur a)) s (n - s)])) 2 (aN a 2 + (hasc (sl (gd (cur a)) s (n - s))).toNat)) = aA a := rfl
            have e2 : aD (sN (sT a (aT a ++ [sl (gd (cur a)) s (n - s)])) 2 (aN a 2 + (hasc (sl (gd (cur a)) s (n - s))).toNat)) = aD a := rfl
            have e3 : aT (sN (sT a (aT a ++ [sl (gd (cur a)) s (n - s)])) 2 (aN a 2 + (hasc (sl (gd (cur a)) s (n - s))).toNat)) = aT a ++ [sl (gd (cur a)) s (n - s)] := rfl
            rw [e1, e2, e3, ndu_app]
            by_cases k20 : k = 20
            · rw [if_pos k20, if_pos k20, if_pos k20]
              have : (([sl (gd (cur a)) s (n - s)] : List Str).filter (fun s => decide (s ∈ aT a))).length = if sl (gd (cur a)) s (n - s) ∈ aT a then 1 else 0 := by
                rw [List.filter_cons]
                by_cases c : sl (gd (cur a)) s (n - s) ∈ aT a
                · rw [if_pos (decide_eq_true c), if_pos c]; rfl
                · rw [if_neg (by rw [decide_eq_false c]; decide), if_neg c]; rfl
              rw [this]
              omega
            · rw [if_neg k20, if_neg k20, if_neg k20]
          · cases hs'
        · cases hs'
      · cases hs
    · rw [if_neg p1] at hs ⊢
      by_cases p2 : aN a 4 = 2
      · rw [if_pos p2, iCon_d] at hs
        rw [if_pos p2]
        rcases dCon_c (a := a) with ⟨d, h⟩ | ⟨d, n38, n60⟩ | ⟨d, h⟩ | d | ⟨d, h⟩ | ⟨d, h⟩ | d | ⟨d, h⟩ <;> rw [d] at hs ⊢
        · have hs' : iRef rm a = .inr a' := hs
          unfold iRef at hs'
          split at hs'
          · cases hs'
          · split at hs'
            · cases hs'; exact flg (FGx.advE (X := chr (tch a true) _) (FGx.tchE (a := a) (b := true)))
            · split at hs'
              · cases hs'
              · split at hs'
                · split at hs'
                  · cases hs'
                  · cases hs'; exact flg (FGx.advE (X := sN (tch a false) 1 _) (FGx.tchE (a := a) (b := false)))
                · exact flg (FGx.tchE.entE hs')
        · have hs' : iRun a = .inr a' := hs
          unfold iRun at hs'
          split at hs'
          · cases hs'
          · cases hs'; exact flg (FGx.advE (X := chr (tch a _) _) (FGx.tchE (a := a)))
        · have hs' : iEnd a = .inr a' := hs
          show vv a' k = vv a k + clV a k
          unfold iEnd at hs'
          split at hs'
          · rename_i kk n e r f _ hkk hn hO _
            split at hs'
            · cases hs'
            · split at hs'
              · cases hs'
              · cases hs'
                obtain ⟨-, -, -, o4, o5, o6, o7, o8, -, o10⟩ := adv_other (a := a) (k := kk)
                have hO' : aO (adv a kk) = e :: r := by rw [o10]; exact hO
                have hcl : aD (cls (adv a kk)) = aD a ∧ aA (cls (adv a kk)) = aA a ∧ aT (cls (adv a kk)) = aT a ∧ aB (cls (adv a kk)) = aB a ∧ aL (cls (adv a kk)) = aL a ∧ aO (cls (adv a kk)) = r := by
                  unfold cls
                  rw [hO']
                  exact ⟨o4, o5, o6, o8, o7, rfl⟩
                rw [hO] at g6
                have hcV : clV a k = clq (aD a) (aL a) k e := by
                  unfold clV clq
                  rw [hO] <;> rfl
                unfold vv
                rw [hcl.1, hcl.2.1, hcl.2.2.1, hcl.2.2.2.1, hcl.2.2.2.2.1, hcl.2.2.2.2.2, hO, clS_end g6.1 (fun z => by have := g6.2.2.1 e z; omega), hcV]
                omega
          · cases hs'
        · exact flg (hcmt hs)
        · exact flg (hpin true hs)
        · have hs' : iSec a = .inr a' := hs
          unfold iSec at hs'
          split at hs'
          · cases hs'
          · cases hs'; exact flg (FGx.advE (X := chr (tch a true) _) (FGx.tchE (a := a) (b := true)))
        · cases hs
        · exact htag hs
      · rw [if_neg p2, iOut_d] at hs
        rw [if_neg p2]
        rcases dOut_c (a := a) with ⟨d, h⟩ | d | ⟨d, h⟩ | d | ⟨d, h⟩ | ⟨d, h, -⟩ <;> rw [d] at hs ⊢
        · have hs' : iSpc a = .inr a' := hs
          unfold iSpc at hs'
          cases hs'; exact flg FGx.refl.advE
        · exact flg (hcmt hs)
        · exact flg (hpin true hs)
        · cases hs
        · exact htag hs
        · have hs' : iDtd a = .inr a' := hs
          unfold iDtd at hs'
          split at hs'
          · split at hs'
            · cases hs'
            · cases hs'; exact flg (FGx.advE (X := sN (sR a _) 4 _) FGx.refl)
          · cases hs'
end KwI
