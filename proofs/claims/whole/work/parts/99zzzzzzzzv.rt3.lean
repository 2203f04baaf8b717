/-! ===== a document is well made: names, values, instructions (pure) ===== -/
/-- how many instructions -/
def pis : List Evt → Nat
  | [] => 0
  | .inl _ :: r => pis r
  | .inr _ :: r => pis r + 1
def chz (s : Str) : Prop := ∀ c ∈ s, isCh c = true
def GX (a : AS) : Prop := (∀ x ∈ aA a, lgn x.2.1 ∧ chz x.2.2.2.2.1) ∧ (∀ x ∈ (aL a).map e5, lgn x.1) ∧ (∀ x ∈ aB a, lgn x.1 ∧ chz x.2.1) ∧ (∀ t s, Sum.inr (t, s) ∈ aS a → PIg t s) ∧ (aL a).length + (aB a).length + pis (aS a) ≤ aN a 3
section Rt5
variable {rm nd n : Nat} {B : Nat → Int} {a a' : AS} {T : Nat → Int} {e : Nat}
theorem pis_app : ∀ {l l' : List Evt}, pis (l ++ l') = pis l + pis l'
  | [], l' => by show pis l' = 0 + pis l'; omega
  | .inl _ :: r, l' => by
    show pis (r ++ l') = pis r + pis l'
    exact pis_app
  | .inr _ :: r, l' => by
    show pis (r ++ l') + 1 = pis r + 1 + pis l'
    rw [pis_app]
    omega
theorem pis_inl : ∀ {l : List Evt}, (∀ v ∈ l, ∃ c, v = Sum.inl c) → pis l = 0
  | [], _ => rfl
  | .inl _ :: r, h => pis_inl (l := r) (fun v hv => h v (List.mem_cons_of_mem _ hv))
  | .inr x :: r, h => by
    obtain ⟨c, hc⟩ := h (.inr x) List.mem_cons_self
    cases hc
theorem sl_lgn {x b : Nat} (h : nmg T e true (some x) = some b) : lgn (sl T x (b - x)) := by
  refine ⟨?_, sl_nmg h⟩
  have h1 := nmg_lt h
  have h2 := nmg_at h
  rw [lk_b h1.1] at h2
  rw [show b - x = (b - x - 1) + 1 by omega, sl_cons2]
  exact h2
theorem atL_ok : ∀ (m k : Nat), ∀ z ∈ atL T e m k, z.2.2.2 ≤ e ∧ lgn (sl T z.1 (z.2.1 - z.1))
  | 0, k => fun s hs => by cases hs
  | m + 1, k => by
    unfold atL
    split
    · intro s hs; cases hs
    · split
      · intro s hs; cases hs
      · rename_i b hb
        split
        · intro s hs; cases hs
        · split
          · intro s hs; cases hs
          · rename_i j hj
            intro s hs
            rcases List.mem_cons.mp hs with z | z
            · rw [z]; exact ⟨(vlp_gt hj).2.1, sl_lgn hb⟩
            · exact atL_ok m _ s z
theorem vrn_ch {en : List Ent} {bus : List Nat} {u : Bool} (he : ∀ x ∈ en, chz x.2.2) : ∀ (n : Nat) (s : VS) {c m : Nat} {o : List Int}, (∀ z ∈ s.1, chz z.1) → chz s.2.2.2 → vrn rm en bus u n s = .inr (c, m, o) → chz o
  | 0, s, c, m, o, _, _, h => by cases h
  | n + 1, s, c, m, o, h1, h2, h => by
    obtain ⟨st, c0, m0, o0⟩ := s
    cases st with
    | nil =>
      unfold vrn at h
      dsimp only at h
      cases h
      exact h2
    | cons f st =>
      obtain ⟨tx, w⟩ := f
      have h1' : ∀ z ∈ st, chz z.1 := fun z hz => h1 z (List.mem_cons_of_mem _ hz)
      have h1f : chz tx := h1 (tx, w) List.mem_cons_self
      have h2' : chz o0 := h2
      have app : ∀ x, isCh x = true → chz (o0 ++ [x]) := fun x hx c hc => by
        rcases List.mem_append.mp hc with z | z
        · exact h2' c z
        · rw [List.mem_singleton.mp z]; exact hx
      unfold vrn at h
      dsimp only at h
      cases tx with
      | nil =>
        have hv : vst rm en bus u ((([] : List Int), w) :: st, c0, m0, o0) = .inr (st, c0, m0, o0) := rfl
        rw [hv] at h
        exact vrn_ch he n _ h1' h2' h
      | cons x r =>
        cases hv : vst rm en bus u ((x :: r, w) :: st, c0, m0, o0) with
        | inl f => rw [hv] at h; cases h
        | inr s' =>
          rw [hv] at h
          dsimp only at h
          have hdr : ∀ j, chz ((x :: r).drop j) := fun j c hc => h1f c (List.mem_of_mem_drop hc)
          have tl : ∀ (q : List Int) (w' : Nat), chz q → ∀ z ∈ (q, w') :: st, chz z.1 := fun q w' hq z hz => by
            rcases List.mem_cons.mp hz with y | y
            · rw [y]; exact hq
            · exact h1' z y
          unfold vst at hv
          dsimp only at hv
          split at hv
          · cases hv
          · split at hv
            · cases hv
              refine vrn_ch he n _ (tl r w (fun c hc => h1f c (List.mem_cons_of_mem _ hc))) (app _ ?_) h
              split
              · decide
              · exact h1f x List.mem_cons_self
            · split at hv
              · cases hv
              · rename_i j hj
                split at hv
                · rename_i hk
                  cases hv
                  exact vrn_ch he n _ (tl _ w (hdr j)) (app _ (rfK_ch hk)) h
                · split at hv
                  · cases hv
                  · split at hv
                    · split at hv
                      · cases hv
                      · cases hv
                        exact vrn_ch he n _ (tl _ w (hdr j)) h2' h
                    · rename_i i hi
                      split at hv
                      · cases hv
                      · split at hv
                        · cases hv
                        · cases hv
                          refine vrn_ch he n _ (fun z hz => ?_) h2' h
                          rcases List.mem_cons.mp hz with y | y
                          · rw [y]
                            show chz (en.getD i ([], false, [])).2.2
                            by_cases ci : i < en.length
                            · rw [List.getD_eq_getElem?_getD, List.getElem?_eq_getElem ci]
                              exact he _ (List.getElem_mem ci)
                            · rw [List.getD_eq_getElem?_getD, List.getElem?_eq_none (by omega)]
                              intro c hc
                              cases hc
                          · exact tl _ w (hdr j) z y
theorem nrm1_ch {acc : List Int} {c : Int} (h : chz acc) (hc : isCh c = true) : chz (nrm1 acc c) := by
  unfold nrm1
  split
  · intro d hd
    rcases List.mem_append.mp hd with z | z
    · exact h d z
    · rw [List.mem_singleton.mp z]; exact hc
  · exact h
theorem nrmf_ch : ∀ (l acc : List Int), chz acc → chz l → chz (l.foldl nrm1 acc)
  | [], acc, h, _ => h
  | c :: l, acc, h, hl => nrmf_ch l _ (nrm1_ch h (hl c List.mem_cons_self)) (fun d hd => hl d (List.mem_cons_of_mem _ hd))
theorem nrt_ch {t : Nat} {l : List Int} (h : chz l) : chz (nrt t l) := by
  unfold nrt
  split
  · exact h
  · unfold nrm
    have := nrmf_ch l [] (fun c hc => by cases hc) h
    split
    · intro c hc
      exact this c (List.dropLast_subset _ hc)
    · exact this
theorem sl_ch {i m : Nat} (hT : ∀ i, i < e → isCh (T i) = true) (h : i + m ≤ e) : chz (sl T i m) := fun c hc => by
  obtain ⟨j, hj, rfl⟩ := sl_mem hc
  exact hT _ (by omega)
theorem sl_ch2 {v j : Nat} (hT : ∀ i, i < e → isCh (T i) = true) (h : j ≤ e) : chz (sl T (v + 1) (j - 1 - (v + 1))) := fun c hc => by
  obtain ⟨k, hk, rfl⟩ := sl_mem hc
  exact hT _ (by omega)
theorem val_ch {l : List Int} {c m c' m' : Nat} {o : List Int} (he : ∀ x ∈ aE a, chz x.2.2) (hl : chz l) (h : val rm a l c m = .inr (c', m', o)) : chz o := by
  unfold val at h
  refine vrn_ch he _ _ (fun z hz => ?_) (fun c hc => by cases hc) h
  rw [List.mem_singleton.mp hz]
  exact hl
theorem gvs_ch {el : Str} (he : ∀ x ∈ aE a, chz x.2.2) (hT : ∀ i, i < e → isCh (T i) = true) : ∀ (pl : List (Nat × Nat × Nat × Nat)) (c m : Nat) (acc : List Att) {c' m' : Nat} {gv : List Att}, (∀ z ∈ pl, z.2.2.2 ≤ e ∧ lgn (sl T z.1 (z.2.1 - z.1))) → (∀ x ∈ acc, lgn x.1 ∧ chz x.2.1) → gvs rm a T el pl c m acc = .inr (c', m', gv) → ∀ x ∈ gv, lgn x.1 ∧ chz x.2.1
  | [], c, m, acc, c', m', gv, _, h2, h => by
    unfold gvs at h
    cases h
    exact h2
  | (x, b, v, j) :: pl, c, m, acc, c', m', gv, h1, h2, h => by
    unfold gvs at h
    split at h
    · cases h
    · split at h
      · cases h
      · rename_i c1 m1 o hv
        have h3 := h1 (x, b, v, j) List.mem_cons_self
        refine gvs_ch he hT pl _ _ _ (fun z hz => h1 z (List.mem_cons_of_mem _ hz)) (fun y hy => ?_) h
        rcases List.mem_append.mp hy with z | z
        · exact h2 y z
        · rw [List.mem_singleton.mp z]
          exact ⟨h3.2, nrt_ch (val_ch he (sl_ch2 hT h3.1) hv)⟩
theorem dfs_ch {el : Str} (he : ∀ x ∈ aE a, chz x.2.2) (hT : ∀ i, i < e → isCh (T i) = true) : ∀ (pl : List Nat) (c m : Nat) (ad : List ADc) {c' m' : Nat} {ad' : List ADc}, (∀ x ∈ ad, lgn x.2.1 ∧ chz x.2.2.2.2.1) → dfs rm a T e el pl c m ad = .inr (c', m', ad') → ∀ x ∈ ad', lgn x.2.1 ∧ chz x.2.2.2.2.1
  | [], c, m, ad, c', m', ad', h2, h => by
    unfold dfs at h
    cases h
    exact h2
  | x :: pl, c, m, ad, c', m', ad', h2, h => by
    unfold dfs at h
    cases hd : dfa rm a T e el x c m ad with
    | inl f => rw [hd] at h; cases h
    | inr r =>
      obtain ⟨c1, m1, ad1⟩ := r
      rw [hd] at h
      dsimp only at h
      refine dfs_ch he hT pl _ _ _ ?_ h
      unfold dfa at hd
      split at hd
      · cases hd
      · rename_i b hb
        split at hd
        · cases hd
        · split at hd
          · cases hd
          · split at hd
            · cases hd
              split
              · exact h2
              · intro y hy
                rcases List.mem_append.mp hy with z | z
                · exact h2 y z
                · rw [List.mem_singleton.mp z]
                  exact ⟨sl_lgn hb, fun c hc => by cases hc⟩
            · split at hd
              · cases hd
              · rename_i j hj
                split at hd
                · cases hd
                · rename_i c2 m2 o hv
                  cases hd
                  split
                  · exact h2
                  · intro y hy
                    rcases List.mem_append.mp hy with z | z
                    · exact h2 y z
                    · rw [List.mem_singleton.mp z]
                      exact ⟨sl_lgn hb, nrt_ch (val_ch he (sl_ch2 hT (vlp_gt hj).2.1) hv)⟩
theorem dfl_at2 {ad : List ADc} {el : Str} {gv : List Att} {t : Att} (h : t ∈ dfl ad el gv) : ∃ x ∈ ad, t.1 = x.2.1 ∧ t.2.1 = x.2.2.2.2.1 := by
  unfold dfl at h
  obtain ⟨d, d1, d2⟩ := List.mem_filterMap.mp h
  split at d2
  · have d3 := List.mem_range.mp d1
    refine ⟨ad[d], List.getElem_mem d3, ?_⟩
    rw [← Option.some.inj d2]
    show (ad.getD d _).2.1 = _ ∧ (ad.getD d _).2.2.2.2.1 = _
    rw [List.getD_eq_getElem?_getD, List.getElem?_eq_getElem d3]
    exact ⟨rfl, rfl⟩
  · cases d2
end Rt5
section Rt6
variable {rm nd n k : Nat} {B : Nat → Int} {a a' X Y : AS}
/-- no instruction and no node more -/
def NP (a X : AS) : Prop := ∃ l, (∀ v ∈ l, ∃ c, v = (Sum.inl c : Evt)) ∧ aS X = aS a ++ l ∧ aN X 3 = aN a 3
theorem NP.refl : NP a a := ⟨[], fun v hv => (by cases hv), (List.append_nil _).symm, rfl⟩
theorem NP.advE (h : NP a X) : NP a (adv X k) := by
  obtain ⟨l, h1, h2, h3⟩ := h
  obtain ⟨-, o2, -, -, -, -, -, -, o9, -⟩ := adv_other (a := X) (k := k)
  exact ⟨l, h1, by rw [o9, h2], by rw [o2, h3]⟩
theorem NP.eq (h : NP a X) (h1 : aS Y = aS X) (h2 : aN Y 3 = aN X 3) : NP a Y := by
  obtain ⟨l, y1, y2, y3⟩ := h
  exact ⟨l, y1, h1.trans y2, h2.trans y3⟩
theorem NP.tchE {b : Bool} : NP a (tch a b) := NP.refl.eq tch_other.2.2.2.2.2.2.2.2.1 (congrFun tch_other.2.2.1 3)
theorem NP.chrE {b : Bool} {w : List Int} : NP a (chr (tch a b) w) := ⟨w.map (fun c => Sum.inl c), fun v hv => by
  obtain ⟨c, -, rfl⟩ := List.mem_map.mp hv
  exact ⟨c, rfl⟩, by
  show aS (tch a b) ++ _ = _
  rw [tch_other.2.2.2.2.2.2.2.2.1], congrFun tch_other.2.2.1 3⟩
theorem ent_NP {i : Nat} (h : NP a X) (hs : ent rm X i k = .inr a') : NP a a' := by
  unfold ent at hs
  split at hs
  · cases hs
  · split at hs
    · cases hs
    · split at hs
      · cases hs
      · cases hs
        exact h.eq rfl rfl
theorem stp_pi (hs : stp rm nd a = .inr a') : iTag rm nd a = .inr a' ∨ iPin nd true a = .inr a' ∨ NP a a' := by
  have pSpc : ∀ {b : AS}, iSpc a = .inr b → NP a b := fun h => by
    unfold iSpc at h
    cases h
    exact NP.refl.advE
  have pCmt : ∀ {b : AS}, iCmt a = .inr b → NP a b := fun h => by
    unfold iCmt at h
    split at h
    · cases h
    · cases h
      exact NP.tchE.advE
  unfold stp at hs
  split at hs
  · unfold iFin at hs
    split at hs
    · cases hs
    · cases hs
    · split at hs
      · cases hs
      · cases hs
        exact Or.inr (Or.inr (NP.refl.eq rfl rfl))
  · split at hs
    · refine Or.inr (Or.inr ?_)
      unfold iSub at hs
      split at hs
      · exact pSpc hs
      · split at hs
        · unfold iPrf at hs
          split at hs
          · split at hs
            · cases hs
            · split at hs
              · cases hs
              · rename_i he
                cases hs
                exact (ent_NP NP.refl he).eq rfl rfl
          · cases hs
        · split at hs
          · unfold iSbe at hs
            split at hs
            · cases hs
            · cases hs
              exact (NP.refl.eq (Y := sN a 4 0) rfl rfl).advE
          · split at hs
            · exact pCmt hs
            · split at hs
              · unfold iPin at hs
                split at hs
                · cases hs
                · split at hs
                  · cases hs
                  · cases hs
                    exact (NP.refl.eq (Y := sN a 2 _) rfl rfl).advE
              · split at hs
                · unfold iEld at hs
                  split at hs
                  · split at hs
                    · split at hs
                      · cases hs
                      · cases hs
                        exact (NP.refl.eq (Y := sD a _) rfl rfl).advE
                    · cases hs
                  · cases hs
                · split at hs
                  · unfold iAtl at hs
                    split at hs
                    · split at hs
                      · split at hs
                        · cases hs
                        · cases hs
                          exact (NP.refl.eq (Y := sN (sN (sA a _) 0 _) 1 _) rfl rfl).advE
                      · cases hs
                    · cases hs
                  · split at hs
                    · unfold iEnt at hs
                      split at hs
                      · split at hs
                        · cases hs
                        · split at hs
                          · split at hs
                            · cases hs
                            · cases hs
                              refine NP.advE ?_
                              split
                              · exact NP.refl.eq rfl rfl
                              · exact NP.refl.eq rfl rfl
                          · cases hs
                      · cases hs
                    · split at hs
                      · unfold iNot at hs
                        split at hs
                        · split at hs
                          · cases hs
                            exact (NP.refl.eq (Y := sN (sT a _) 2 _) rfl rfl).advE
                          · cases hs
                        · cases hs
                      · cases hs
    · split at hs
      · unfold iCon at hs
        split at hs
        · refine Or.inr (Or.inr ?_)
          unfold iRef at hs
          split at hs
          · cases hs
          · split at hs
            · cases hs
              exact NP.chrE.advE
            · split at hs
              · cases hs
              · split at hs
                · split at hs
                  · cases hs
                  · cases hs
                    exact (NP.tchE.eq (Y := sN (tch a false) 1 _) rfl rfl).advE
                · exact ent_NP NP.tchE hs
        · split at hs
          · unfold iRun at hs
            split at hs
            · cases hs
            · cases hs
              exact Or.inr (Or.inr NP.chrE.advE)
          · split at hs
            · unfold iEnd at hs
              split at hs
              · rename_i k0 n0 e0 r0 f0 F0 h1 h2 h3 h4
                split at hs
                · cases hs
                · split at hs
                  · cases hs
                  · cases hs
                    refine Or.inr (Or.inr ?_)
                    have hO : aO (adv a k0) = e0 :: r0 := by rw [adv_other.2.2.2.2.2.2.2.2.2, h3]
                    refine ⟨[.inl (-1)], fun v hv => ⟨-1, List.mem_singleton.mp hv⟩, by rw [cls_S hO, adv_other.2.2.2.2.2.2.2.2.1], ?_⟩
                    unfold cls
                    rw [hO]
                    show aN (adv a k0) 3 = _
                    rw [adv_other.2.1]
              · cases hs
            · split at hs
              · exact Or.inr (Or.inr (pCmt hs))
              · split at hs
                · exact Or.inr (Or.inl hs)
                · split at hs
                  · unfold iSec at hs
                    split at hs
                    · cases hs
                    · cases hs
                      exact Or.inr (Or.inr NP.chrE.advE)
                  · split at hs
                    · cases hs
                    · exact Or.inl hs
      · unfold iOut at hs
        split at hs
        · exact Or.inr (Or.inr (pSpc hs))
        · split at hs
          · exact Or.inr (Or.inr (pCmt hs))
          · split at hs
            · exact Or.inr (Or.inl hs)
            · split at hs
              · cases hs
              · split at hs
                · exact Or.inl hs
                · split at hs
                  · cases hs
                  · unfold iDtd at hs
                    split at hs
                    · split at hs
                      · cases hs
                      · cases hs
                        exact Or.inr (Or.inr (NP.refl.eq (Y := sN (sR a _) 4 _) rfl rfl).advE)
                    · cases hs
/-- what a tag adds -/
theorem iTag_n3 (h : iTag rm nd a = .inr a') : ∃ l, (∀ v ∈ l, ∃ c, v = (Sum.inl c : Evt)) ∧ aS a' = aS a ++ l ∧ (aL a').length + (aB a').length + aN a 3 = (aL a).length + (aB a).length + aN a' 3 := by
  unfold iTag at h
  split at h
  · rename_i k n hk hn
    split at h
    · cases h
    · rename_i c m gv hg
      split at h
      · cases h
      · cases h
        generalize hal : gv ++ dfl (aA a) (sl (gd (cur a)) 1 (n - 1)) gv = al
        generalize sl (gd (cur a)) 1 (n - 1) = nm
        have hL : (aL (nel a nm gv al k c m)).length = (aL a).length + 1 := by
          show (aL (tch a false) ++ [_]).length = _
          rw [List.length_append, tch_ln]
          rfl
        have hB : (aB (nel a nm gv al k c m)).length = (aB a).length + al.length := by
          show (aB a ++ al).length = _
          rw [List.length_append]
        have h3 : aN (nel a nm gv al k c m) 3 = aN a 3 + 1 + al.length := rfl
        have hS : aS (nel a nm gv al k c m) = aS a ++ [.inl (-3 - ((aL a).length : Int))] := rfl
        have hO : aO (nel a nm gv al k c m) = (aL a).length :: aO a := rfl
        split
        · refine ⟨[.inl (-3 - ((aL a).length : Int)), .inl (-1)], fun v hv => ?_, by rw [cls_S hO, hS, List.append_assoc]; rfl, ?_⟩
          · rcases List.mem_cons.mp hv with z | z
            · exact ⟨_, z⟩
            · exact ⟨_, List.mem_singleton.mp z⟩
          · unfold cls
            rw [hO]
            show (aL (nel a nm gv al k c m)).length + (aB (nel a nm gv al k c m)).length + aN a 3 = (aL a).length + (aB a).length + aN (nel a nm gv al k c m) 3
            omega
        · exact ⟨[.inl (-3 - ((aL a).length : Int))], fun v hv => ⟨_, List.mem_singleton.mp hv⟩, hS, by omega⟩
  · cases h
theorem pin_ok {l : List Int} {n f q : Nat} (hl : chz l) (h : pin (gd l) l.length 0 = some (n, f, q)) : PIg (sl (gd l) 2 (n - 2)) (sl (gd l) f (q - 2 - f)) := by
  have hlt := pin_lt h
  have hch : chz (sl (gd l) f (q - 2 - f)) := fun c hc => hl c (sl_gdm (by omega) c hc)
  unfold pin at h
  rw [Nat.zero_add] at h
  split at h
  · cases h
  · rename_i n0 hn
    split at h
    · cases h
    · rename_i hx
      split at h
      · cases h
        refine ⟨sl_lgn hn, hx, ?_, ?_, hch⟩
        · rw [Nat.add_sub_cancel, Nat.sub_self, sl_zero]; rfl
        · rw [Nat.add_sub_cancel, Nat.sub_self, sl_zero]; exact hdn_nil
      · split at h
        · cases h
        · rename_i f0 hf
          split at h
          · cases h
          · rename_i q0 hq
            cases h
            have hs := sek_lt hq
            have hk := spc_gt (nmg_lt hn).2.2 hf
            refine ⟨sl_lgn hn, hx, ?_, ?_, hch⟩
            · refine nqp_sl _ _ _ (fun j hj hh => ?_) (fun _ => Or.inl (by decide))
              have hall : ∀ (d i : Nat), l.length - i = d → sek (gd l) l.length [63, 62] i = some q0 → ∀ p, i ≤ p → p < q0 → mt (gd l) l.length p [63, 62] = false := by
                intro d
                induction d with
                | zero => intro i hi hh; rw [sek_end (by omega)] at hh; cases hh
                | succ d ih =>
                  intro i hi hh p h1 h2
                  by_cases cm : mt (gd l) l.length i [63, 62] = true
                  · rw [sek_hit (by omega) cm] at hh
                    cases hh
                    omega
                  · have cm' : mt (gd l) l.length i [63, 62] = false := Bool.eq_false_iff.mpr cm
                    by_cases cp : p = i
                    · rw [cp]; exact cm'
                    · rw [sek_go (by omega) cm'] at hh
                      exact ih (i + 1) (by omega) hh p (by omega) h2
              have hm := hall _ f rfl hq (f + j) (by omega) (by omega)
              unfold mt at hm
              unfold mt at hm
              rw [lk_b (by omega), lk_b (by omega), hh.1, hh.2] at hm
              simp [mt] at hm
            · intro c hc
              have hpos : 0 < q0 + 2 - 2 - f := by
                by_cases z : q0 + 2 - 2 - f = 0
                · rw [z, sl_zero] at hc; cases hc
                · omega
              rw [show q0 + 2 - 2 - f = (q0 + 2 - 2 - f - 1) + 1 by omega, sl_cons2] at hc
              have hc' : gd l f = c := Option.some.inj hc
              rw [← hc', hk.2.2]
              exact sk_not (nmg_lt hn).2.2 (by rw [← hk.2.2]; omega)
theorem GX.stpE (hW : GW a) (h : GX a) (hs : stp rm nd a = .inr a') : GX a' := by
  obtain ⟨h1, h2, h3, h4, h5⟩ := h
  have hcur : ∀ c ∈ cur a, isCh c = true := fun c hc => hW.1 c (Or.inl (by
    unfold cur at hc
    split at hc
    · cases hc
    · rename_i f F hF
      exact ⟨f, by rw [hF]; exact List.mem_cons_self, hc⟩))
  have hgd : ∀ i, i < (cur a).length → isCh (gd (cur a) i) = true := fun i hi => hcur _ (gd_mem hi)
  have hen : ∀ x ∈ aE a, chz x.2.2 := fun x hx c hc => hW.1 c (Or.inr ⟨x, hx, hc⟩)
  -- the stream and the nodes
  have hSN : iTag rm nd a = .inr a' ∨ ((∀ t s, Sum.inr (t, s) ∈ aS a' → PIg t s) ∧ ((aL a').length + (aB a').length = (aL a).length + (aB a).length → (aL a').length + (aB a').length + pis (aS a') ≤ aN a' 3)) := by
    rcases stp_pi hs with ht | hp | ⟨l, l1, l2, l3⟩
    · exact Or.inl ht
    · refine Or.inr ?_
      unfold iPin at hp
      split at hp
      · cases hp
      · rename_i n f q hpin
        split at hp
        · cases hp
        · cases hp
          rw [if_pos rfl]
          generalize hX : sN (sN (sS (tch a false) (aS a ++ [.inr (sl (gd (cur a)) 2 (n - 2), sl (gd (cur a)) f (q - 2 - f))])) 3 (aN a 3 + 1)) 2 (aN a 2 + (hasc (sl (gd (cur a)) 2 (n - 2))).toNat) = X
          obtain ⟨-, o2, -, -, -, -, o7, o8, o9, -⟩ := adv_other (a := X) (k := q)
          have eS : aS (adv X q) = aS a ++ [.inr (sl (gd (cur a)) 2 (n - 2), sl (gd (cur a)) f (q - 2 - f))] := by rw [o9, ← hX]; rfl
          have eN : aN (adv X q) 3 = aN a 3 + 1 := by rw [o2, ← hX]; rfl
          rw [eS, eN]
          refine ⟨fun t s hm => ?_, fun he => ?_⟩
          · rcases List.mem_append.mp hm with z | z
            · exact h4 t s z
            · have := List.mem_singleton.mp z
              cases this
              exact pin_ok hcur hpin
          · rw [he, pis_app]
            show (aL a).length + (aB a).length + (pis (aS a) + 1) ≤ aN a 3 + 1
            omega
    · refine Or.inr ⟨fun t s hm => ?_, fun he => ?_⟩
      · rw [l2] at hm
        rcases List.mem_append.mp hm with z | z
        · exact h4 t s z
        · obtain ⟨c, hc⟩ := l1 _ z
          cases hc
      · rw [he, l2, l3, pis_app, pis_inl l1]
        omega
  have hTag : iTag rm nd a = .inr a' → GX a' := fun hs => by
    obtain ⟨k', n, κ, c, m, gv, y1, y2, y3, ⟨y4, y5, y6, y7⟩, y8, y9, y10, y11, y12⟩ := iTag_at hs
    obtain ⟨l, l1, l2, l3⟩ := iTag_n3 hs
    have hg := gvs_ch hen hgd _ _ _ _ (atL_ok _ _) (fun x hx => by cases hx) y8
    unfold GX
    rw [y10, y11, y12]
    refine ⟨h1, fun x hx => ?_, fun x hx => ?_, fun t s hm => ?_, ?_⟩
    · rcases List.mem_append.mp hx with z | z
      · exact h2 x z
      · rw [List.mem_singleton.mp z]
        exact sl_lgn y2
    · rcases List.mem_append.mp hx with z | z
      · exact h3 x z
      · rcases List.mem_append.mp z with z | z
        · exact hg x z
        · obtain ⟨y, q1, q2, q3⟩ := dfl_at2 z
          rw [q2, q3]
          exact h1 y q1
    · rw [l2] at hm
      rcases List.mem_append.mp hm with z | z
      · exact h4 t s z
      · obtain ⟨c, hc⟩ := l1 _ z
        cases hc
    · rw [← y12, l2, pis_app, pis_inl l1]
      omega
  rcases hSN with ht | ⟨hS, hN⟩
  · exact hTag ht
  by_cases ht : isTg a
  · obtain ⟨-, -, -, -, -, t6⟩ := tg_N (rm := rm) (nd := nd) ht
    rw [t6] at hs
    exact hTag hs
  by_cases ht2 : isAl a
  · obtain ⟨-, -, -, -, t5, t6⟩ := al_N (rm := rm) (nd := nd) ht2
    rw [t5] at hs
    obtain ⟨k', s, n, κ, c, m, ad, y1, y2, y3, y4, ⟨y5, y6, y7, y8, y9⟩, y10, y11⟩ := iAtl_at t6 hs
    obtain ⟨o1, o2, o3, o4, o5, o6, o7, o8, -⟩ := adv_other (a := sN (sN (sA a ad) 0 c) 1 m) (k := k')
    have hd := dfs_ch hen hgd _ _ _ _ h1 y10
    unfold GX
    rw [y11] at hS hN ⊢
    rw [o7, o8] at hN
    have := hN rfl
    rw [o5, o7, o8]
    exact ⟨hd, h2, h3, hS, this⟩
  obtain ⟨s1, s2, s3⟩ := pl_S ht ht2 hs
  have sl : (aL a').length = (aL a).length := by
    have := congrArg List.length s1
    rw [List.length_map, List.length_map] at this
    exact this
  unfold GX
  have := hN (by rw [sl, s2])
  rw [s1, s3]
  refine ⟨h1, h2, ?_, hS, this⟩
  rw [s2]
  exact h3
theorem jdg_GX (hn : n ≤ 65536) (h : jdg rm nd B n = .inr a') : GX a' :=
  (jdg_inv2 (fun a => GW a ∧ GX a) (fun _ _ hG hV hs => ⟨GW.stpE hG hV.1 hs, GX.stpE hV.1 hV.2 hs⟩) (fun l hl st k => by
    have h0 : GX (a0 l) := ⟨fun x hx => (by cases hx), fun x hx => (by cases hx), fun x hx => (by cases hx), fun t s hm => (by cases hm), Nat.le_refl _⟩
    have hlt : ∀ c, ltA (a0 l) c → isCh c = true := fun c hc => by
      rcases hc with ⟨f, hf, hcf⟩ | ⟨x, hx, -⟩
      · have hf' : f ∈ [(l, 0, 0)] := hf
        rw [List.mem_singleton.mp hf'] at hcf
        exact hl c hcf
      · cases hx
    refine ⟨⟨⟨hlt, rfl, fun v hv => (by cases hv)⟩, h0⟩, ?_, ?_⟩
    · obtain ⟨t1, t2, t3, t4⟩ := TRs.advE (a := a0 l) (X := sN (a0 l) 5 st) (k := k) (l := []) ⟨fun _ h => Or.inl h, rfl, rfl, rfl⟩
      refine ⟨fun c hc => (t1 c hc).elim (hlt c) id, ?_, fun v hv => ?_⟩
      · rw [t4, t2]
        have hl0 : (aL (adv (sN (a0 l) 5 st) k)).length = 0 := by
          have := congrArg List.length t3
          rw [List.length_map, List.length_map] at this
          exact this
        rw [hl0]
        rfl
      · rw [t4] at hv
        cases hv
    · obtain ⟨o1, o2, o3, o4, o5, o6, o7, o8, o9, -⟩ := adv_other (a := sN (a0 l) 5 st) (k := k)
      unfold GX at h0 ⊢
      rw [o5, o7, o8, o9, o2]
      exact h0) hn h).2
end Rt6
