/-! ===== letters of texts, and the stream (pure) ===== -/
/-- a letter that stands in a text -/
def ltA (a : AS) (c : Int) : Prop := (∃ f ∈ aF a, c ∈ f.1) ∨ ∃ x ∈ aE a, c ∈ x.2.2
/-- letters of a' are letters of a, or characters; parents and what is not ended are kept; the stream grows by l -/
def TRs (a a' : AS) (l : List Evt) : Prop := (∀ c, ltA a' c → ltA a c ∨ isCh c = true) ∧ aO a' = aO a ∧ (aL a').map (fun x => x.2.1) = (aL a).map (fun x => x.2.1) ∧ aS a' = aS a ++ l
def okE2 (a : AS) (l : List Evt) : Prop := ∀ v ∈ l, ∀ c, v = .inl c → ltA a c ∨ isCh c = true
section Trs
variable {rm nd : Nat} {a a' X : AS} {k : Nat} {l : List Evt}
theorem TRs.refl : TRs a a [] := ⟨fun _ h => Or.inl h, rfl, rfl, (List.append_nil _).symm⟩
theorem TRs.advE (h : TRs a X l) : TRs a (adv X k) l := by
  obtain ⟨h1, h2, h3, h4⟩ := h
  obtain ⟨o1, -, -, -, -, -, o7, -, o9, o10⟩ := adv_other (a := X) (k := k)
  refine ⟨fun c hc => h1 c ?_, by rw [o10]; exact h2, by rw [o7]; exact h3, by rw [o9]; exact h4⟩
  rcases hc with ⟨f, hf, hcf⟩ | ⟨x, hx, hcx⟩
  · left
    unfold adv at hf
    cases hF : aF X with
    | nil => rw [hF] at hf; dsimp only at hf; rw [hF] at hf; cases hf
    | cons g t =>
      rw [hF] at hf
      have hf' : f ∈ (g.1.drop k, g.2) :: t := hf
      rcases List.mem_cons.mp hf' with y | y
      · rw [y] at hcf
        exact ⟨g, List.mem_cons_self, List.mem_of_mem_drop hcf⟩
      · exact ⟨f, List.mem_cons_of_mem _ y, hcf⟩
  · right
    rw [o1] at hx
    exact ⟨x, hx, hcx⟩
theorem TRs.tchE {b : Bool} : TRs a (tch a b) [] := by
  obtain ⟨o1, o2, -, -, -, -, -, -, o9, o10⟩ := tch_other (a := a) (sp := b)
  refine ⟨fun c hc => Or.inl ?_, o10, ?_, by rw [o9, List.append_nil]⟩
  · unfold ltA at hc ⊢
    rw [o1, o2] at hc
    exact hc
  · cases hO : aO a with
    | nil => rw [tch_nil hO]
    | cons e r =>
      rw [tch_L hO]
      refine List.ext_getElem (by simp) (fun i h1 h2 => ?_)
      simp only [List.getElem_map, List.getElem_modify]
      split <;> rfl
theorem TRs.chrE {b : Bool} {w : List Int} : TRs a (chr (tch a b) w) (w.map (fun c => Sum.inl c)) := by
  obtain ⟨h1, h2, h3, h4⟩ := TRs.tchE (a := a) (b := b)
  refine ⟨h1, h2, h3, ?_⟩
  show aS (tch a b) ++ _ = _
  rw [h4, List.append_nil]
theorem okE2_map {w : List Int} (h : ∀ c ∈ w, ltA a c ∨ isCh c = true) : okE2 a (w.map (fun c => Sum.inl c)) := fun v hv c hc => by
  obtain ⟨d, hd, hdv⟩ := List.mem_map.mp hv
  rw [← hdv] at hc
  have : d = c := by cases hc; rfl
  rw [← this]
  exact h d hd
theorem okE2_nil : okE2 a [] := fun v hv => (by cases hv)
theorem sl_mem {T : Nat → Int} {i n : Nat} {c : Int} (h : c ∈ sl T i n) : ∃ j, j < n ∧ c = T (i + j) := by
  obtain ⟨j, hj, hjc⟩ := List.mem_iff_getElem.mp h
  rw [sl_ln] at hj
  refine ⟨j, hj, ?_⟩
  have := sl_get (f := T) (i := i) hj
  rw [List.getElem?_eq_getElem (by rw [sl_ln]; exact hj)] at this
  rw [← hjc]
  exact Option.some.inj this
theorem cur_lt {i n : Nat} {c : Int} (h : c ∈ sl (gd (cur a)) i n) (hb : i + n ≤ (cur a).length) : ltA a c := by
  obtain ⟨j, hj, rfl⟩ := sl_mem h
  left
  cases hF : aF a with
  | nil =>
    have hc : cur a = [] := by unfold cur; rw [hF]
    rw [hc, List.length_nil] at hb
    omega
  | cons f t =>
    have hc : cur a = f.1 := by unfold cur; rw [hF]
    rw [hc] at hb ⊢
    refine ⟨f, List.mem_cons_self, ?_⟩
    show f.1.getD (i + j) 0 ∈ f.1
    rw [List.getD_eq_getElem?_getD, List.getElem?_eq_getElem (by omega)]
    exact List.getElem_mem _
theorem ent_TRs {i : Nat} (h : TRs a X []) (hs : ent rm X i k = .inr a') : TRs a a' [] := by
  obtain ⟨h1, h2, h3, h4⟩ := h
  unfold ent at hs
  split at hs
  · cases hs
  · rename_i f t hF
    split at hs
    · cases hs
    · split at hs
      · cases hs
      · cases hs
        refine ⟨fun c hc => h1 c ?_, h2, h3, h4⟩
        rcases hc with ⟨g, hg, hcg⟩ | hc
        · have hg' : g ∈ (((aE X).getD i ([], false, [])).2.2, i + 1, (aO X).length) :: (f.1.drop k, f.2) :: t := hg
          rcases List.mem_cons.mp hg' with y | y
          · rw [y] at hcg
            have hcg' : c ∈ ((aE X).getD i ([], false, [])).2.2 := hcg
            by_cases z : i < (aE X).length
            · right
              refine ⟨(aE X).getD i ([], false, []), ?_, hcg'⟩
              rw [List.getD_eq_getElem?_getD, List.getElem?_eq_getElem z]
              exact List.getElem_mem z
            · rw [List.getD_eq_getElem?_getD, List.getElem?_eq_none (by omega)] at hcg'
              cases hcg'
          · left
            rw [hF]
            rcases List.mem_cons.mp y with y | y
            · rw [y] at hcg
              exact ⟨f, List.mem_cons_self, List.mem_of_mem_drop hcg⟩
            · exact ⟨g, List.mem_cons_of_mem _ y, hcg⟩
        · exact Or.inr hc
theorem enx_ch : ∀ (n : Nat) (l acc r : List Int), enx n l acc = .inr r → ∀ c ∈ r, c ∈ acc ∨ c ∈ l ∨ isCh c = true := by
  intro n
  induction n with
  | zero => intro l acc r h; cases h
  | succ n ih =>
    intro l acc r h c hc
    cases l with
    | nil =>
      have h' : (Sum.inr acc : Nat ⊕ List Int) = .inr r := h
      cases h'
      exact Or.inl hc
    | cons x l =>
      unfold enx at h
      split at h
      · cases h
      · split at h
        · rcases ih _ _ _ h c hc with y | y | y
          · rcases List.mem_append.mp y with z | z
            · exact Or.inl z
            · rw [List.mem_singleton.mp z]; exact Or.inr (Or.inl List.mem_cons_self)
          · exact Or.inr (Or.inl (List.mem_cons_of_mem _ y))
          · exact Or.inr (Or.inr y)
        · split at h
          · cases h
          · split at h
            · split at h
              · rename_i hch
                rcases ih _ _ _ h c hc with y | y | y
                · rcases List.mem_append.mp y with z | z
                  · exact Or.inl z
                  · rw [List.mem_singleton.mp z]; exact Or.inr (Or.inr hch)
                · exact Or.inr (Or.inl (List.mem_of_mem_drop y))
                · exact Or.inr (Or.inr y)
              · cases h
            · rcases ih _ _ _ h c hc with y | y | y
              · rcases List.mem_append.mp y with z | z
                · exact Or.inl z
                · exact Or.inr (Or.inl (List.mem_of_mem_take z))
              · exact Or.inr (Or.inl (List.mem_of_mem_drop y))
              · exact Or.inr (Or.inr y)
theorem rfK_ch {l : List Int} {j : Nat} (h : 0 ≤ rfK l j) : isCh (rfK l j) = true := by
  unfold rfK at h ⊢
  split
  · rename_i h1
    rw [if_pos h1] at h
    split
    · assumption
    · rename_i h2
      rw [if_neg h2] at h
      exact absurd h (by decide)
  · rename_i h1
    rw [if_neg h1] at h
    rcases alw_or (sl (gd l) 1 (j - 2)) with y | ⟨k, hk, y⟩
    · rw [y] at h; exact absurd h (by decide)
    · rw [y]
      have : ∀ k, k < 5 → isCh (alw (ti (1065 + k))) = true := by decide +kernel
      exact this k hk
/-- what an item does to the stream -/
theorem stp_str (hG : GI rm nd a) (hs : stp rm nd a = .inr a') : (∃ l, TRs a a' l ∧ okE2 a l) ∨ (∃ e r, aO a = e :: r ∧ (∀ c, ltA a' c → ltA a c ∨ isCh c = true) ∧ aO a' = r ∧ (aL a').map (fun x => x.2.1) = (aL a).map (fun x => x.2.1) ∧ aS a' = aS a ++ [.inl (-1)]) ∨ ((∀ c, ltA a' c → ltA a c ∨ isCh c = true) ∧ (aL a').map (fun x => x.2.1) = (aL a).map (fun x => x.2.1) ++ [par a] ∧ ((aO a' = (aL a).length :: aO a ∧ aS a' = aS a ++ [.inl (-3 - ((aL a).length : Int))]) ∨ (aO a' = aO a ∧ aS a' = aS a ++ [.inl (-3 - ((aL a).length : Int)), .inl (-1)]))) := by
  have one : ∀ {b : AS} {l : List Evt}, TRs a b l → okE2 a l → (∃ l, TRs a b l ∧ okE2 a l) ∨ (∃ e r, aO a = e :: r ∧ (∀ c, ltA b c → ltA a c ∨ isCh c = true) ∧ aO b = r ∧ (aL b).map (fun x => x.2.1) = (aL a).map (fun x => x.2.1) ∧ aS b = aS a ++ [.inl (-1)]) ∨ ((∀ c, ltA b c → ltA a c ∨ isCh c = true) ∧ (aL b).map (fun x => x.2.1) = (aL a).map (fun x => x.2.1) ++ [par a] ∧ ((aO b = (aL a).length :: aO a ∧ aS b = aS a ++ [.inl (-3 - ((aL a).length : Int))]) ∨ (aO b = aO a ∧ aS b = aS a ++ [.inl (-3 - ((aL a).length : Int)), .inl (-1)]))) := fun h1 h2 => Or.inl ⟨_, h1, h2⟩
  have pSpc : ∀ {b : AS}, iSpc a = .inr b → ∃ l, TRs a b l ∧ okE2 a l := fun h => by
    unfold iSpc at h
    cases h
    exact ⟨[], TRs.refl.advE, okE2_nil⟩
  have pCmt : ∀ {b : AS}, iCmt a = .inr b → ∃ l, TRs a b l ∧ okE2 a l := fun h => by
    unfold iCmt at h
    split at h
    · cases h
    · cases h
      exact ⟨[], TRs.tchE.advE, okE2_nil⟩
  have pPin : ∀ {b : AS} {cn : Bool}, iPin nd cn a = .inr b → ∃ l, TRs a b l ∧ okE2 a l := fun {b cn} h => by
    unfold iPin at h
    split at h
    · cases h
    · rename_i n f q hpin
      split at h
      · cases h
      · cases h
        cases cn with
        | true =>
          obtain ⟨t1, t2, t3, -⟩ := TRs.tchE (a := a) (b := false)
          refine ⟨[.inr (sl (gd (cur a)) 2 (n - 2), sl (gd (cur a)) f (q - 2 - f))], TRs.advE ⟨t1, t2, t3, rfl⟩, fun v hv c hc => ?_⟩
          rw [List.mem_singleton.mp hv] at hc
          cases hc
        | false => exact ⟨[], TRs.advE (X := sN a 2 _) ⟨fun _ h => Or.inl h, rfl, rfl, (List.append_nil _).symm⟩, okE2_nil⟩
  have pTag : ∀ {b : AS}, iTag rm nd a = .inr b → ((∀ c, ltA b c → ltA a c ∨ isCh c = true) ∧ (aL b).map (fun x => x.2.1) = (aL a).map (fun x => x.2.1) ++ [par a] ∧ ((aO b = (aL a).length :: aO a ∧ aS b = aS a ++ [.inl (-3 - ((aL a).length : Int))]) ∨ (aO b = aO a ∧ aS b = aS a ++ [.inl (-3 - ((aL a).length : Int)), .inl (-1)]))) := fun {b} h => by
    unfold iTag at h
    split at h
    · rename_i k n hk hn
      split at h
      · cases h
      · rename_i c m gv hg
        split at h
        · cases h
        · cases h
          have hnl : ∀ (nm : Str) (al : List Att), (∀ c', ltA (nel a nm gv al k c m) c' → ltA a c' ∨ isCh c' = true) ∧ (aL (nel a nm gv al k c m)).map (fun x => x.2.1) = (aL a).map (fun x => x.2.1) ++ [par a] ∧ aO (nel a nm gv al k c m) = (aL a).length :: aO a ∧ aS (nel a nm gv al k c m) = aS a ++ [.inl (-3 - ((aL a).length : Int))] := fun nm al => by
            obtain ⟨t1, t2, t3, t4⟩ := (TRs.tchE (a := a) (b := false)).advE (k := k)
            refine ⟨t1, ?_, rfl, rfl⟩
            show (aL (tch a false) ++ [(nm, par a, (aB a).length, al.length, gv.length, false, false)]).map (fun x => x.2.1) = _
            rw [List.map_append, (TRs.tchE (a := a) (b := false)).2.2.1]
            rfl
          obtain ⟨q1, q2, q3, q4⟩ := hnl (sl (gd (cur a)) 1 (n - 1)) (gv ++ dfl (aA a) (sl (gd (cur a)) 1 (n - 1)) gv)
          split
          · generalize nel a (sl (gd (cur a)) 1 (n - 1)) gv (gv ++ dfl (aA a) (sl (gd (cur a)) 1 (n - 1)) gv) k c m = Y at *
            have hcl : cls Y = sN (sO (sS Y (aS Y ++ [.inl (-1)])) (aO a)) 4 (if aO a = [] then 3 else 2) := by unfold cls; rw [q3]
            rw [hcl]
            refine ⟨q1, q2, Or.inr ⟨rfl, ?_⟩⟩
            show aS Y ++ [.inl (-1)] = _
            rw [q4, List.append_assoc]
            rfl
          · exact ⟨q1, q2, Or.inl ⟨q3, q4⟩⟩
    · cases h
  unfold stp at hs
  split at hs
  · -- a text ends
    unfold iFin at hs
    split at hs
    · cases hs
    · cases hs
    · rename_i f t hne hF
      split at hs
      · cases hs
      · cases hs
        refine one (l := []) ⟨fun c hc => Or.inl ?_, rfl, rfl, (List.append_nil _).symm⟩ okE2_nil
        rcases hc with ⟨g, hg, hcg⟩ | hc
        · exact Or.inl ⟨g, by rw [hF]; exact List.mem_cons_of_mem _ hg, hcg⟩
        · exact Or.inr hc
  · split at hs
    · unfold iSub at hs
      split at hs
      · exact Or.inl (pSpc hs)
      · split at hs
        · unfold iPrf at hs
          split at hs
          · split at hs
            · cases hs
            · split at hs
              · cases hs
              · rename_i he
                cases hs
                have := ent_TRs TRs.refl he
                exact one (l := []) ⟨this.1, this.2.1, this.2.2.1, this.2.2.2⟩ okE2_nil
          · cases hs
        · split at hs
          · unfold iSbe at hs
            split at hs
            · cases hs
            · cases hs
              exact one (TRs.advE (X := sN a 4 0) ⟨fun _ h => Or.inl h, rfl, rfl, (List.append_nil _).symm⟩) okE2_nil
          · split at hs
            · exact Or.inl (pCmt hs)
            · split at hs
              · exact Or.inl (pPin hs)
              · split at hs
                · unfold iEld at hs
                  split at hs
                  · split at hs
                    · split at hs
                      · cases hs
                      · cases hs
                        exact one (TRs.advE (X := sD a _) ⟨fun _ h => Or.inl h, rfl, rfl, (List.append_nil _).symm⟩) okE2_nil
                    · cases hs
                  · cases hs
                · split at hs
                  · unfold iAtl at hs
                    split at hs
                    · split at hs
                      · split at hs
                        · cases hs
                        · cases hs
                          exact one (TRs.advE (X := sN (sN (sA a _) 0 _) 1 _) ⟨fun _ h => Or.inl h, rfl, rfl, (List.append_nil _).symm⟩) okE2_nil
                      · cases hs
                    · cases hs
                  · split at hs
                    · unfold iEnt at hs
                      split at hs
                      · split at hs
                        · cases hs
                        · split at hs
                          · rename_i f t kk h1 h2 h3 hqt n m h4 h5
                            split at hs
                            · cases hs
                            · rename_i tx h6
                              cases hs
                              have hm := etx_le m h5
                              refine one (l := []) (TRs.advE ?_) okE2_nil
                              split
                              · exact ⟨fun _ h => Or.inl h, rfl, rfl, (List.append_nil _).symm⟩
                              · refine ⟨fun c hc => ?_, rfl, rfl, (List.append_nil _).symm⟩
                                rcases hc with hc | ⟨x, hx, hcx⟩
                                · exact Or.inl (Or.inl hc)
                                · have hx' : x ∈ aE a ++ [_] := hx
                                  rcases List.mem_append.mp hx' with y | y
                                  · exact Or.inl (Or.inr ⟨x, y, hcx⟩)
                                  · rw [List.mem_singleton.mp y] at hcx
                                    rcases enx_ch _ _ _ _ h6 c hcx with z | z | z
                                    · cases z
                                    · obtain ⟨j, hj, -⟩ := sl_mem z
                                      exact Or.inl (cur_lt z (by omega))
                                    · exact Or.inr z
                          · cases hs
                      · cases hs
                    · split at hs
                      · unfold iNot at hs
                        split at hs
                        · split at hs
                          · cases hs
                            exact one (TRs.advE (X := sN (sT a _) 2 _) ⟨fun _ h => Or.inl h, rfl, rfl, (List.append_nil _).symm⟩) okE2_nil
                          · cases hs
                        · cases hs
                      · cases hs
    · split at hs
      · unfold iCon at hs
        split at hs
        · unfold iRef at hs
          split at hs
          · cases hs
          · rename_i kk hkk
            split at hs
            · rename_i hr
              cases hs
              exact one (TRs.advE TRs.chrE) (okE2_map (fun c hc => Or.inr (by rw [List.mem_singleton.mp hc]; exact rfK_ch hr)))
            · split at hs
              · cases hs
              · split at hs
                · split at hs
                  · cases hs
                  · cases hs
                    obtain ⟨t1, t2, t3, t4⟩ := TRs.tchE (a := a) (b := false)
                    exact one (TRs.advE (X := sN (tch a false) 1 _) ⟨t1, t2, t3, t4⟩) okE2_nil
                · exact one (ent_TRs TRs.tchE hs) okE2_nil
        · split at hs
          · unfold iRun at hs
            split at hs
            · cases hs
            · cases hs
              refine one (TRs.advE TRs.chrE) (okE2_map (fun c hc => Or.inl (cur_lt hc ?_)))
              have := sk_le (p := isRn) (T := gd (cur a)) (Nat.zero_le (cur a).length)
              omega
          · split at hs
            · unfold iEnd at hs
              split at hs
              · rename_i kk n e r f t hk hn hO hF
                split at hs
                · cases hs
                · split at hs
                  · cases hs
                  · cases hs
                    right; left
                    refine ⟨e, r, hO, ?_⟩
                    obtain ⟨t1, t2, t3, t4⟩ := (TRs.refl (a := a)).advE (k := kk)
                    have hcl : cls (adv a kk) = sN (sO (sS (adv a kk) (aS (adv a kk) ++ [.inl (-1)])) r) 4 (if r = [] then 3 else 2) := by unfold cls; rw [t2, hO]
                    rw [hcl]
                    refine ⟨t1, rfl, t3, ?_⟩
                    show aS (adv a kk) ++ [.inl (-1)] = _
                    rw [t4, List.append_nil]
              · cases hs
            · split at hs
              · exact Or.inl (pCmt hs)
              · split at hs
                · exact Or.inl (pPin hs)
                · split at hs
                  · unfold iSec at hs
                    split at hs
                    · cases hs
                    · rename_i kk hkk
                      cases hs
                      have hb := sek_lt hkk
                      exact one (TRs.advE TRs.chrE) (okE2_map (fun c hc => Or.inl (cur_lt hc (by omega))))
                  · split at hs
                    · cases hs
                    · exact Or.inr (Or.inr (pTag hs))
      · unfold iOut at hs
        split at hs
        · exact Or.inl (pSpc hs)
        · split at hs
          · exact Or.inl (pCmt hs)
          · split at hs
            · exact Or.inl (pPin hs)
            · split at hs
              · cases hs
              · split at hs
                · exact Or.inr (Or.inr (pTag hs))
                · split at hs
                  · cases hs
                  · unfold iDtd at hs
                    split at hs
                    · split at hs
                      · cases hs
                      · cases hs
                        exact one (TRs.advE (X := sN (sR a _) 4 _) ⟨fun _ h => Or.inl h, rfl, rfl, (List.append_nil _).symm⟩) okE2_nil
                    · cases hs
end Trs
