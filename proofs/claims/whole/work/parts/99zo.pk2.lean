/-! ===== items keep what holds (2): lists and tags, by their numbers ===== -/
section PK2
variable {rm nd : Nat} {a : AS}
theorem vrn_rm {en : List Ent} {bus : List Nat} {und : Bool} : ∀ (n : Nat) (s : VS) {c m : Nat} {o : List Int}, s.2.1 ≤ rm → vrn rm en bus und n s = .inr (c, m, o) → c ≤ rm := by
  intro n
  induction n with
  | zero => intro s c m o _ h; cases h
  | succ n ih =>
    intro s c m o hs0 h
    have h' : (match s.1 with
      | [] => (.inr s.2 : Nat ⊕ (Nat × Nat × List Int))
      | _ :: _ => match vst rm en bus und s with
        | .inl f => .inl f
        | .inr s' => vrn rm en bus und n s') = .inr (c, m, o) := h
    cases hs : s.1 with
    | nil =>
      rw [hs] at h'
      dsimp only at h'
      have h2 : s.2 = (c, m, o) := Sum.inr.inj h'
      rw [h2] at hs0
      exact hs0
    | cons z st =>
      rw [hs] at h'
      dsimp only at h'
      cases hv : vst rm en bus und s with
      | inl f => rw [hv] at h'; cases h'
      | inr s' =>
        rw [hv] at h'
        dsimp only at h'
        exact ih s' (vst_dec hv (by rw [hs]; exact List.cons_ne_nil _ _) hs0).2 h'
theorem val_rm {l o : List Int} {c m c' m' : Nat} (hc : c ≤ rm) (h : val rm a l c m = .inr (c', m', o)) : c' ≤ rm := vrn_rm (s := ([(l, 0)], c, m, [])) _ hc h
/-- the attributes of a tag -/
theorem gvs_num {T : Nat → Int} {e : Nat} {el : Str} : ∀ (n i z c m : Nat) (acc : List Att) {c' m' : Nat} {gv : List Att}, i ≤ e → c ≤ rm → atk T e n i = some z → gvs rm a T el (atL T e n i) c m acc = .inr (c', m', gv) → c ≤ c' ∧ c' ≤ rm ∧ m' + c + i ≤ m + z + c' ∧ i ≤ z ∧ z ≤ e ∧ gv.length + i ≤ acc.length + z := by
  intro n
  induction n with
  | zero => intro i z c m acc c' m' gv _ _ h; cases h
  | succ n ih =>
    intro i z c m acc c' m' gv hi hc hk hg
    have hk' : (match spc T e (some i) with
      | none => some i
      | some x => match nmg T e true (some x) with
        | none => some i
        | some b => match vlp T e (eqs T e (some b)) with
          | none => none
          | some j => atk T e n j) = some z := hk
    have hL : atL T e (n + 1) i = match spc T e (some i) with
      | none => []
      | some x => match nmg T e true (some x) with
        | none => []
        | some b => match eqs T e (some b) with
          | none => []
          | some v => match vlp T e (some v) with
            | none => []
            | some j => (x, b, v, j) :: atL T e n j := rfl
    have hend : atL T e (n + 1) i = [] → i = z → c ≤ c' ∧ c' ≤ rm ∧ m' + c + i ≤ m + z + c' ∧ i ≤ z ∧ z ≤ e ∧ gv.length + i ≤ acc.length + z := by
      intro h1 h2
      rw [h1] at hg
      have hg' : (Sum.inr (c, m, acc) : Nat ⊕ (Nat × Nat × List Att)) = .inr (c', m', gv) := hg
      cases hg'
      omega
    cases hs : spc T e (some i) with
    | none => rw [hs] at hk' hL; exact hend hL (Option.some.inj hk')
    | some x =>
      rw [hs] at hk' hL
      dsimp only at hk' hL
      have g1 := spc_gt hi hs
      cases hn : nmg T e true (some x) with
      | none => rw [hn] at hk' hL; exact hend hL (Option.some.inj hk')
      | some b =>
        rw [hn] at hk' hL
        dsimp only at hk' hL
        have g2 := nmg_lt hn
        cases hq : eqs T e (some b) with
        | none => rw [hq] at hk'; cases hk'
        | some v =>
          rw [hq] at hk' hL
          dsimp only at hL
          have g3 := eqs_gt g2.2.2 hq
          cases hv : vlp T e (some v) with
          | none => rw [hv] at hk'; cases hk'
          | some j =>
            rw [hv] at hk' hL
            dsimp only at hk' hL
            have g4 := vlp_gt hv
            rw [hL] at hg
            have hg' : (if (sl T x (b - x)) ∈ acc.map (fun z => z.1) then (.inl 8 : Nat ⊕ (Nat × Nat × List Att)) else match val rm a (sl T (v + 1) (j - 1 - (v + 1))) c m with
              | .inl f => .inl f
              | .inr (c', m', o) => gvs rm a T el (atL T e n j) c' m' (acc ++ [(sl T x (b - x), nrt (match adf (aA a) el (sl T x (b - x)) with
                  | none => 0
                  | some d => ((aA a).getD d ([], [], 0, 0, [], [])).2.2.1) o, adf (aA a) el (sl T x (b - x)))])) = .inr (c', m', gv) := hg
            split at hg'
            · cases hg'
            · cases hva : val rm a (sl T (v + 1) (j - 1 - (v + 1))) c m with
              | inl f => rw [hva] at hg'; cases hg'
              | inr r =>
                obtain ⟨c1, m1, o1⟩ := r
                rw [hva] at hg'
                dsimp only at hg'
                have hm := val_mk hva
                have hr := val_rm hc hva
                rw [sl_len2] at hm
                have := ih j z c1 m1 _ g4.2.1 hr hk' hg'
                rw [List.length_append, List.length_singleton] at this
                omega
/-- the definitions of a list -/
theorem dfs_num {T : Nat → Int} {e : Nat} {el : Str} : ∀ (n i z c m : Nat) (ad : List ADc) {c' m' : Nat} {ad' : List ADc}, i ≤ e → c ≤ rm → adk T e n i = some z → dfs rm a T e el (adL T e n i) c m ad = .inr (c', m', ad') → c ≤ c' ∧ c' ≤ rm ∧ m' + c + i ≤ m + z + c' ∧ i ≤ z ∧ z ≤ e ∧ 8 * ad'.length + i ≤ 8 * ad.length + z := by
  intro n
  induction n with
  | zero => intro i z c m ad c' m' ad' _ _ h; cases h
  | succ n ih =>
    intro i z c m ad c' m' ad' hi hc hk hg
    have hk' : (match spc T e (some i) with
      | none => some i
      | some x => match nmg T e true (some x) with
        | none => some i
        | some _ => match dfn T e x with
          | none => none
          | some j => adk T e n j) = some z := hk
    have hL : adL T e (n + 1) i = match spc T e (some i) with
      | none => []
      | some x => match nmg T e true (some x) with
        | none => []
        | some _ => match dfn T e x with
          | none => []
          | some j => x :: adL T e n j := rfl
    have hend : adL T e (n + 1) i = [] → i = z → c ≤ c' ∧ c' ≤ rm ∧ m' + c + i ≤ m + z + c' ∧ i ≤ z ∧ z ≤ e ∧ 8 * ad'.length + i ≤ 8 * ad.length + z := by
      intro h1 h2
      rw [h1] at hg
      have hg' : (Sum.inr (c, m, ad) : Nat ⊕ (Nat × Nat × List ADc)) = .inr (c', m', ad') := hg
      cases hg'
      omega
    cases hs : spc T e (some i) with
    | none => rw [hs] at hk' hL; exact hend hL (Option.some.inj hk')
    | some x =>
      rw [hs] at hk' hL
      dsimp only at hk' hL
      have g1 := spc_gt hi hs
      cases hn : nmg T e true (some x) with
      | none => rw [hn] at hk' hL; exact hend hL (Option.some.inj hk')
      | some b0 =>
        rw [hn] at hk' hL
        dsimp only at hk' hL
        cases hd : dfn T e x with
        | none => rw [hd] at hk'; cases hk'
        | some j =>
          rw [hd] at hk' hL
          dsimp only at hk' hL
          obtain ⟨b, y, w0, w, q1, q2, q3, q4, q5, q6, q7, q8, q9, q10, q11, q12⟩ := dfn_len hd
          rw [hL] at hg
          have hg' : (match dfa rm a T e el x c m ad with
            | .inl f => (.inl f : Nat ⊕ (Nat × Nat × List ADc))
            | .inr (c', m', ad') => dfs rm a T e el (adL T e n j) c' m' ad') = .inr (c', m', ad') := hg
          have hdfa : ∀ c1 m1 ad1, dfa rm a T e el x c m ad = .inr (c1, m1, ad1) → c ≤ c1 ∧ c1 ≤ rm ∧ m1 + c + w + 2 ≤ m + j + c1 ∧ ad1.length ≤ ad.length + 1 := by
            intro c1 m1 ad1 h
            unfold dfa at h
            rw [q1] at h
            dsimp only at h
            rw [q2] at h
            dsimp only at h
            rw [q3, q4] at h
            dsimp only at h
            have hlen : ∀ (P : Prop) [Decidable P] (u : ADc), (if P then ad else ad ++ [u]).length ≤ ad.length + 1 := by
              intro P _ u
              split
              · omega
              · rw [List.length_append, List.length_singleton]; exact Nat.le_refl _
            cases hv : dfV T e w with
            | none =>
              rw [hv] at h
              dsimp only at h
              have h' := Sum.inr.inj h
              have e1 : c1 = c := (congrArg Prod.fst h').symm
              have e2 : m1 = m := (congrArg (fun z => z.2.1) h').symm
              have e3 := (congrArg (fun z => z.2.2) h')
              dsimp only at e3
              refine ⟨by omega, by omega, by omega, ?_⟩
              rw [← e3]
              exact hlen _ _
            | some v =>
              rw [hv] at h
              dsimp only at h
              cases hp : vlp T e (some v) with
              | none => rw [hp] at h; cases h
              | some j' =>
                rw [hp] at h
                dsimp only at h
                have hjj : j' = j := by
                  unfold dft at q5
                  have hvk : dfK T e w ≠ 1 ∧ dfK T e w ≠ 2 := by
                    unfold dfV at hv
                    split at hv
                    · omega
                    · split at hv
                      · omega
                      · cases hv
                  rw [if_neg hvk.1, if_neg hvk.2, hv, hp] at q5
                  exact Option.some.inj q5
                rw [hjj] at h hp
                have hvw := dfV_ge hv
                have hvg := vlp_gt hp
                cases hva : val rm a (sl T (v + 1) (j - 1 - (v + 1))) c m with
                | inl f => rw [hva] at h; cases h
                | inr r =>
                  obtain ⟨c2, m2, o2⟩ := r
                  rw [hva] at h
                  dsimp only at h
                  have h' := Sum.inr.inj h
                  have e1 : c1 = c2 := (congrArg Prod.fst h').symm
                  have e2 : m1 = m2 := (congrArg (fun z => z.2.1) h').symm
                  have e3 := (congrArg (fun z => z.2.2) h')
                  dsimp only at e3
                  have hm := val_mk hva
                  have hr := val_rm hc hva
                  rw [sl_len2] at hm
                  refine ⟨by omega, by omega, by omega, ?_⟩
                  rw [← e3]
                  exact hlen _ _
          cases hda : dfa rm a T e el x c m ad with
          | inl f => rw [hda] at hg'; cases hg'
          | inr r =>
            obtain ⟨c1, m1, ad1⟩ := r
            rw [hda] at hg'
            dsimp only at hg'
            have hd1 := hdfa c1 m1 ad1 hda
            have := ih j z c1 m1 ad1 q12 hd1.2.1 hk' hg'
            omega
theorem enx_len : ∀ (n : Nat) (l acc : List Int) {tx : List Int}, enx n l acc = .inr tx → tx.length ≤ acc.length + l.length := by
  intro n
  induction n with
  | zero => intro l acc tx h; cases h
  | succ n ih =>
    intro l acc tx h
    cases l with
    | nil =>
      have h' : (Sum.inr acc : Nat ⊕ List Int) = .inr tx := h
      cases h'
      simp
    | cons x r =>
      rw [enx_cons] at h
      split at h
      · cases h
      · split at h
        · have := ih _ _ h
          rw [List.length_append, List.length_singleton] at this
          rw [List.length_cons]
          omega
        · split at h
          · cases h
          · rename_i j hj
            have hp := rfp_pos (l := x :: r) hj
            rw [List.length_cons] at hp ⊢
            split at h
            · split at h
              · have := ih _ _ h
                rw [List.length_append, List.length_singleton, List.length_drop, List.length_cons] at this
                omega
              · cases h
            · have := ih _ _ h
              rw [List.length_append, List.length_take, List.length_drop, List.length_cons] at this
              omega
end PK2
