/-! ===== values, pure: steps, fuel, ends ===== -/
section VP
variable {rm : Nat} {en : List Ent} {bus : List Nat} {und : Bool}
theorem rfp_pos {l : List Int} {j : Nat} (h : rfp (gd l) l.length (some 0) = some j) : 2 < j ∧ j ≤ l.length := by
  have h1 := rfp_lt h
  by_cases c : gd l 1 = 35
  · have h2 := rfp_num h c (decide (gd l 2 = 120)) (by simp) (if decide (gd l 2 = 120) = true then 3 else 2) (by split <;> rfl)
    split at h2 <;> omega
  · have h2 := rfp_nam h c
    omega
theorem vst_dec {s s' : VS} (h : vst rm en bus und s = .inr s') (hs : s.1 ≠ []) (hc : s.2.1 ≤ rm) : vms rm s' < vms rm s ∧ s'.2.1 ≤ rm := by
  obtain ⟨stk, c, m, o⟩ := s
  cases stk with
  | nil => exact absurd rfl hs
  | cons z st =>
    obtain ⟨l, w⟩ := z
    cases l with
    | nil =>
      have h' : (Sum.inr (st, c, m, o) : Nat ⊕ VS) = .inr s' := h
      cases h'
      refine ⟨?_, hc⟩
      unfold vms
      simp only [List.map_cons, List.sum_cons, List.length_nil]
      omega
    | cons x r =>
      have h' : (if x = 60 then (.inl 11 : Nat ⊕ VS) else if x ≠ 38 then .inr ((r, w) :: st, c, m, o ++ [if isSp x = true then 32 else x])
        else match rfp (gd (x :: r)) (r.length + 1) (some 0) with
          | none => .inl 5
          | some j => if 0 ≤ rfK (x :: r) j then .inr (((x :: r).drop j, w) :: st, c, m, o ++ [rfK (x :: r) j])
            else if rfK (x :: r) j = -2 then .inl 12
            else match eno en (sl (gd (x :: r)) 1 (j - 2)) false with
              | none => if und = true then .inl 9 else .inr (((x :: r).drop j, w) :: st, c, m + 1, o)
              | some i => if rm < c + ((en.getD i ([], false, [])).2.2).length then .inl 4
                else if (i + 1) ∈ bus ∨ (i + 1) ∈ (((x :: r), w) :: st).map (fun z => z.2) then .inl 10
                else .inr (((en.getD i ([], false, [])).2.2, i + 1) :: ((x :: r).drop j, w) :: st, c + ((en.getD i ([], false, [])).2.2).length, m, o)) = .inr s' := h
      split at h'
      · cases h'
      · split at h'
        · cases h'
          refine ⟨?_, hc⟩
          unfold vms
          simp only [List.map_cons, List.sum_cons, List.length_cons]
          omega
        · split at h'
          · cases h'
          · rename_i j hj
            have hp := rfp_pos (l := x :: r) hj
            rw [List.length_cons] at hp
            have hdl : ((x :: r).drop j).length = r.length + 1 - j := by rw [List.length_drop, List.length_cons]
            split at h'
            · cases h'
              refine ⟨?_, hc⟩
              unfold vms
              simp only [List.map_cons, List.sum_cons, hdl, List.length_cons]
              omega
            · split at h'
              · cases h'
              · split at h'
                · split at h'
                  · cases h'
                  · cases h'
                    refine ⟨?_, hc⟩
                    unfold vms
                    simp only [List.map_cons, List.sum_cons, hdl, List.length_cons]
                    omega
                · split at h'
                  · cases h'
                  · split at h'
                    · cases h'
                    · cases h'
                      have hc' : c ≤ rm := hc
                      refine ⟨?_, by show c + _ ≤ rm; omega⟩
                      unfold vms
                      simp only [List.map_cons, List.sum_cons, hdl, List.length_cons]
                      omega
theorem vrn_fuel : ∀ (n k : Nat) (s : VS), s.2.1 ≤ rm → vms rm s < n → vms rm s < k → vrn rm en bus und n s = vrn rm en bus und k s := by
  intro n
  induction n with
  | zero => intro k s _ h; omega
  | succ n ih =>
    intro k s hc h1 h2
    cases k with
    | zero => omega
    | succ k =>
      show (match s.1 with
        | [] => Sum.inr s.2
        | _ :: _ => match vst rm en bus und s with
          | .inl f => Sum.inl f
          | .inr s' => vrn rm en bus und n s') = (match s.1 with
        | [] => Sum.inr s.2
        | _ :: _ => match vst rm en bus und s with
          | .inl f => Sum.inl f
          | .inr s' => vrn rm en bus und k s')
      cases hs : s.1 with
      | nil => rfl
      | cons z st =>
        dsimp only
        cases hv : vst rm en bus und s with
        | inl f => rfl
        | inr s' =>
          dsimp only
          have hd := vst_dec hv (by rw [hs]; simp) hc
          exact ih k s' hd.2 (by omega) (by omega)
theorem vrn_step {s : VS} {N : Nat} (hs : s.1 ≠ []) (hc : s.2.1 ≤ rm) (hN : vms rm s < N) : vrn rm en bus und N s = match vst rm en bus und s with
    | .inl f => Sum.inl f
    | .inr s' => vrn rm en bus und N s' := by
  cases N with
  | zero => omega
  | succ n =>
    show (match s.1 with
      | [] => Sum.inr s.2
      | _ :: _ => match vst rm en bus und s with
        | .inl f => Sum.inl f
        | .inr s' => vrn rm en bus und n s') = _
    cases hs1 : s.1 with
    | nil => exact absurd hs1 hs
    | cons z st =>
      dsimp only
      cases hv : vst rm en bus und s with
      | inl f => rfl
      | inr s' =>
        dsimp only
        have hd := vst_dec hv hs hc
        exact vrn_fuel n (n + 1) s' hd.2 (by omega) (by omega)
theorem vrn_nil {N c m : Nat} {o : List Int} : vrn rm en bus und (N + 1) ([], c, m, o) = .inr (c, m, o) := rfl
end VP
/-! the end of the text may be nearer -/
theorem lk_end {T : Nat → Int} {e e' i : Nat} (h : i < e' ∧ e' ≤ e) : lk T e i = lk T e' i := by
  unfold lk
  rw [if_pos (by omega), if_pos (by omega)]
theorem sk_end' {p : Int → Bool} {T : Nat → Int} {e e' : Nat} (he : e' ≤ e) : ∀ (n i : Nat), e - i = n → sk p T e i < e' → sk p T e' i = sk p T e i := by
  intro n
  induction n with
  | zero =>
    intro i hn h
    rw [sk_end (show e ≤ i by omega)] at h ⊢
    exact sk_end (by omega)
  | succ n ih =>
    intro i hn h
    by_cases c : p (T i) = true
    · rw [sk_go (show i < e by omega) c] at h ⊢
      have h2 := sk_le (p := p) (T := T) (show i + 1 ≤ e by omega)
      rw [sk_go (show i < e' by omega) c]
      exact ih (i + 1) (by omega) h
    · have c' : p (T i) = false := by simpa using c
      rw [sk_stop c', sk_stop c']
theorem rfp_end {T : Nat → Int} {e e' p j : Nat} (h : rfp T e (some p) = some j) (hj : j ≤ e') (he : e' ≤ e) : rfp T e' (some p) = some j := by
  have h0 := rfp_lt h
  by_cases c : T (p + 1) = 35
  · obtain ⟨g1, g2, g3, g4⟩ := rfp_num h c (decide (T (p + 2) = 120)) (by simp) (if decide (T (p + 2) = 120) = true then p + 3 else p + 2) rfl
    have hk : p + 2 ≤ (if decide (T (p + 2) = 120) = true then p + 3 else p + 2) := by split <;> omega
    have l0 : lk T e' p = 38 := by unfold lk; rw [if_pos (by omega)]; exact h0.2.2.2
    have l1 : lk T e' (p + 1) = 35 := by unfold lk; rw [if_pos (by omega)]; exact c
    have l2 : lk T e' (p + 2) = T (p + 2) := by unfold lk; rw [if_pos (by omega)]
    have hs : sk (hxP (decide (T (p + 2) = 120))) T e' (if decide (T (p + 2) = 120) = true then p + 3 else p + 2) = j - 1 := by
      rw [sk_end' he _ _ rfl (by rw [g4]; omega), g4]
    have hw : wd T e' [59] (some (j - 1)) = some j := by
      have : mt T e' (j - 1) [59] = true := by
        rw [mt1]
        unfold lk
        rw [if_pos (by omega), g3]
        rfl
      rw [wd_of this]
      show some (j - 1 + 1) = some j
      rw [show j - 1 + 1 = j by omega]
    show (if lk T e' p = 38 then (if lk T e' (p + 1) = 35 then (if lk T e' (p + 2) = 120 then (if sk hexd T e' (p + 3) = p + 3 then none else wd T e' [59] (some (sk hexd T e' (p + 3)))) else (if sk isDg T e' (p + 2) = p + 2 then none else wd T e' [59] (some (sk isDg T e' (p + 2))))) else wd T e' [59] (nmg T e' true (some (p + 1)))) else none) = some j
    rw [if_pos l0, if_pos l1, l2]
    by_cases cx : T (p + 2) = 120
    · simp only [cx, decide_true, if_true] at hs g1
      have hs' : sk hexd T e' (p + 3) = j - 1 := hs
      rw [if_pos cx, hs', if_neg (by omega), hw]
    · simp only [cx, decide_false] at hs g1
      have hs' : sk isDg T e' (p + 2) = j - 1 := hs
      have g1' : p + 2 + 1 < j := g1
      rw [if_neg cx, hs', if_neg (by omega), hw]
  · obtain ⟨g1, g2, g3, g4⟩ := rfp_nam h c
    have hg := nmg_lt g1
    have l0 : lk T e' p = 38 := by unfold lk; rw [if_pos (by omega)]; exact h0.2.2.2
    have l1 : lk T e' (p + 1) = T (p + 1) := by unfold lk; rw [if_pos (by omega)]
    have hn : nmg T e' true (some (p + 1)) = some (j - 1) := by
      have g1' : (if (if true = true then isSt (lk T e (p + 1)) else isNm (lk T e (p + 1))) = true then some (sk isNm T e (p + 1 + 1)) else none) = some (j - 1) := g1
      rw [if_pos rfl] at g1'
      show (if (if true = true then isSt (lk T e' (p + 1)) else isNm (lk T e' (p + 1))) = true then some (sk isNm T e' (p + 1 + 1)) else none) = some (j - 1)
      rw [if_pos rfl, ← lk_end (e := e) ⟨by omega, he⟩]
      split at g1'
      · rename_i c2
        rw [if_pos c2]
        have e1 : sk isNm T e (p + 1 + 1) = j - 1 := Option.some.inj g1'
        rw [sk_end' he _ _ rfl (by rw [e1]; omega), e1]
      · cases g1'
    have hw : wd T e' [59] (some (j - 1)) = some j := by
      have : mt T e' (j - 1) [59] = true := by
        rw [mt1]
        unfold lk
        rw [if_pos (by omega), g2]
        rfl
      rw [wd_of this]
      show some (j - 1 + 1) = some j
      rw [show j - 1 + 1 = j by omega]
    show (if lk T e' p = 38 then (if lk T e' (p + 1) = 35 then (if lk T e' (p + 2) = 120 then (if sk hexd T e' (p + 3) = p + 3 then none else wd T e' [59] (some (sk hexd T e' (p + 3)))) else (if sk isDg T e' (p + 2) = p + 2 then none else wd T e' [59] (some (sk isDg T e' (p + 2))))) else wd T e' [59] (nmg T e' true (some (p + 1)))) else none) = some j
    rw [if_pos l0, if_neg (by rw [l1]; exact c), hn, hw]
/-! lists as texts -/
theorem gd_drop {l : List Int} {k : Nat} : SHT (gd (l.drop k)) (gd l) (l.drop k).length k := by
  intro i hi
  unfold gd
  rw [List.getD_eq_getElem?_getD, List.getD_eq_getElem?_getD, List.getElem?_drop]
theorem gd_app {l r : List Int} {i : Nat} (h : i < l.length) : gd (l ++ r) i = gd l i := by
  unfold gd
  rw [List.getD_eq_getElem?_getD, List.getD_eq_getElem?_getD, List.getElem?_append_left h]
theorem sl_gd {l : List Int} : sl (gd l) 0 l.length = l := by
  apply List.ext_getElem?
  intro i
  by_cases h : i < l.length
  · rw [sl_get h]
    unfold gd
    rw [List.getD_eq_getElem?_getD, show 0 + i = i by omega, List.getElem?_eq_getElem h]
    rfl
  · rw [List.getElem?_eq_none (by rw [sl_ln]; omega), List.getElem?_eq_none (by omega)]
theorem sht_sl {T : Nat → Int} {a : Nat} {l : List Int} (h : sl T a l.length = l) : SHT (gd l) T l.length a := by
  intro k hk
  have h2 := congrArg (fun z => z[k]?) h
  simp only [sl_get hk, List.getElem?_eq_getElem hk] at h2
  unfold gd
  rw [List.getD_eq_getElem?_getD, List.getElem?_eq_getElem hk]
  exact Option.some.inj h2
/-- numbers, all in a range: not more than these -/
theorem nodup_le : ∀ (n : Nat) (l : List Nat), l.Nodup → (∀ x ∈ l, x < n) → l.length ≤ n := by
  intro n
  induction n with
  | zero =>
    intro l _ h
    cases l with
    | nil => simp
    | cons a r => exact absurd (h a List.mem_cons_self) (by omega)
  | succ n ih =>
    intro l hn h
    by_cases c : n ∈ l
    · have h1 := ih (l.erase n) (hn.erase n) (fun x hx => by
        have hx1 : x ∈ l := List.mem_of_mem_erase hx
        have hx2 : x ≠ n := by
          intro e
          subst e
          exact absurd hx hn.not_mem_erase
        have := h x hx1
        omega)
      rw [List.length_erase_of_mem c] at h1
      omega
    · have h1 := ih l hn (fun x hx => by
        have hx2 : x ≠ n := fun e => c (e ▸ hx)
        have := h x hx
        omega)
      omega
