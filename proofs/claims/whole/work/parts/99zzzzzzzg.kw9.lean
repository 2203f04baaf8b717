/-! ===== room (9): what a tag and a list of attributes bring (pure) ===== -/
/-- letters of strings -/
def ltS (l : List Str) : Nat := (l.map List.length).sum
/-- strings that attributes of a tag may bring, beside those of declared ones -/
noncomputable def au1 (x : Att) : List Str := match x.2.2 with
  | none => x.1 :: plk x.1
  | some _ => [x.2.1]
noncomputable def auL (l : List Att) : List Str := l.flatMap au1
/-- how long what stands in the literal of a definition is -/
def ltV (T : Nat → Int) (e w j : Nat) : Nat := match dfV T e w with
  | none => 0
  | some v => j - 1 - (v + 1)
section Kw9
variable {rm nd : Nat} {a : AS} {T : Nat → Int} {e : Nat} {el : Str}
theorem ltS_nil : ltS [] = 0 := rfl
theorem ltS_cons {s : Str} {l : List Str} : ltS (s :: l) = s.length + ltS l := by unfold ltS; rw [List.map_cons, List.sum_cons]
theorem ltS_app {l l' : List Str} : ltS (l ++ l') = ltS l + ltS l' := by unfold ltS; rw [List.map_append, List.sum_append]
theorem ltS_W {l : List Str} : ltS l + l.length = Wn l := by
  induction l with
  | nil => rfl
  | cons s l ih => rw [ltS_cons, Wn_cons, List.length_cons]; omega
theorem val_len {l : List Int} {c m c' m' : Nat} {o : List Int} (h : val rm a l c m = .inr (c', m', o)) : c ≤ c' ∧ o.length + c ≤ l.length + c' := by
  have := vrn_mk _ _ h
  have e1 : vln [(l, 0)] = l.length := by simp [vln]
  dsimp only at this
  rw [e1, List.length_nil] at this
  omega
theorem gvs_new : ∀ (n i z c m : Nat) (acc : List Att) {c' m' : Nat} {gv : List Att}, i ≤ e → atk T e n i = some z → gvs rm a T el (atL T e n i) c m acc = .inr (c', m', gv) → ∃ new, gv = acc ++ new ∧ new.map (fun x => x.1) = atN T (atL T e n i) ∧ (∀ x ∈ new, x.2.2 = adf (aA a) el x.1) ∧ ltS (new.map (fun x => x.2.1)) + ltS (atN T (atL T e n i)) + 4 * new.length + c + i ≤ z + c' ∧ 2 * (auL new).length + i ≤ z ∧ c ≤ c' := by
  intro n
  induction n with
  | zero => intro i z c m acc c' m' gv _ h; cases h
  | succ n ih =>
    intro i z c m acc c' m' gv hi h hg
    have h00 : ∀ {zz : Nat}, i ≤ zz → (.inr (c, m, acc) : Nat ⊕ (Nat × Nat × List Att)) = .inr (c', m', gv) → ∃ new, gv = acc ++ new ∧ new.map (fun x => x.1) = atN T [] ∧ (∀ x ∈ new, x.2.2 = adf (aA a) el x.1) ∧ ltS (new.map (fun x => x.2.1)) + ltS (atN T []) + 4 * new.length + c + i ≤ zz + c' ∧ 2 * (auL new).length + i ≤ zz ∧ c ≤ c' := by
      intro zz hz h
      cases h
      exact ⟨[], (List.append_nil _).symm, rfl, fun x h => (by cases h), by show 0 + 0 + 4 * 0 + c + i ≤ zz + c; omega, by show 2 * 0 + i ≤ zz; omega, Nat.le_refl _⟩
    unfold atk at h
    unfold atL at hg ⊢
    cases hs : spc T e (some i) with
    | none =>
      rw [hs] at h hg
      cases h
      exact h00 (Nat.le_refl _) hg
    | some x =>
      rw [hs] at h hg
      dsimp only at h hg ⊢
      have hx := spc_gt hi hs
      cases hn : nmg T e true (some x) with
      | none =>
        rw [hn] at h hg
        cases h
        exact h00 (Nat.le_refl _) hg
      | some b =>
        rw [hn] at h hg
        dsimp only at h hg ⊢
        have hb := nmg_lt hn
        cases hv : eqs T e (some b) with
        | none => rw [hv] at h; cases h
        | some v =>
          rw [hv] at h hg
          dsimp only at h hg ⊢
          have hv2 := eqs_gt hb.2.2 hv
          cases hj : vlp T e (some v) with
          | none => rw [hj] at h; cases h
          | some j =>
            rw [hj] at h hg
            dsimp only at h hg ⊢
            have hj2 := vlp_gt hj
            rw [gvs_cons] at hg
            split at hg
            · cases hg
            · cases hvl : val rm a (sl T (v + 1) (j - 1 - (v + 1))) c m with
              | inl f => rw [hvl] at hg; cases hg
              | inr r =>
                obtain ⟨c1, m1, o⟩ := r
                rw [hvl] at hg
                dsimp only at hg
                obtain ⟨new, y1, y2, y3, y4, y5, y6⟩ := ih j z c1 m1 _ hj2.2.1 h hg
                have hl := val_len hvl
                rw [sl_ln] at hl
                refine ⟨(sl T x (b - x), nrt (match adf (aA a) el (sl T x (b - x)) with
                  | none => 0
                  | some d => ((aA a).getD d ([], [], 0, 0, [], [])).2.2.1) o, adf (aA a) el (sl T x (b - x))) :: new, ?_, ?_, ?_, ?_, ?_, by omega⟩
                · rw [y1, List.append_assoc]; rfl
                · rw [List.map_cons, y2]; rfl
                · intro w hw
                  rcases List.mem_cons.mp hw with rfl | hw
                  · rfl
                  · exact y3 w hw
                · have ec : atN T ((x, b, v, j) :: atL T e n j) = sl T x (b - x) :: atN T (atL T e n j) := rfl
                  rw [ec, List.map_cons, ltS_cons, ltS_cons, sl_ln, List.length_cons]
                  have := nrt_len (match adf (aA a) el (sl T x (b - x)) with
                  | none => 0
                  | some d => ((aA a).getD d ([], [], 0, 0, [], [])).2.2.1) o
                  dsimp only at this ⊢
                  omega
                · have ec : ∀ (w : Att) (l : List Att), auL (w :: l) = au1 w ++ auL l := fun w l => rfl
                  rw [ec, List.length_append]
                  have p1 := plk_two (s := sl T x (b - x))
                  have : ∀ (q : Option Nat) (o : Str), 2 * (au1 (sl T x (b - x), o, q)).length ≤ b - x + 4 := by
                    intro q o
                    cases q with
                    | some d => show 2 * 1 ≤ _; omega
                    | none =>
                      show 2 * ((plk (sl T x (b - x))).length + 1) ≤ _
                      by_cases c : plk (sl T x (b - x)) = []
                      · rw [c]; show 2 * (0 + 1) ≤ _; omega
                      · have := okq_3 (p1.2 c)
                        rw [sl_ln] at this
                        omega
                  have := this (adf (aA a) el (sl T x (b - x))) (nrt (match adf (aA a) el (sl T x (b - x)) with
                  | none => 0
                  | some d => ((aA a).getD d ([], [], 0, 0, [], [])).2.2.1) o)
                  omega
/-- a definition of an attribute, with its value -/
theorem dfn_V {k x j : Nat} (hk : k ≤ e) (hx : spc T e (some k) = some x) (h : dfn T e x = some j) : ∃ b y w0 w, nmg T e true (some x) = some b ∧ spc T e (some b) = some y ∧ typ T e y = some w0 ∧ spc T e (some w0) = some w ∧ dft T e w = some j ∧ (x < b ∧ b < y) ∧ tyW T e y = (atyL T e y).map (fun q => sl T q.1 (q.2 - q.1)) ∧ (b - x + 1) + 4 + Wn (tyW T e y) + ltV T e w j + k ≤ j ∧ j ≤ e := by
  obtain ⟨b, y, w0, w, h1, h2, h3, h4, h5, h6, h7, h8, h9, h10, h11, h12⟩ := dfn_len h
  have hx2 := spc_gt hk hx
  have he := (tyK_eq (T := T) (e := e) (i := y)).2 w (by rw [h3]; exact h4)
  have hy := spc_gt (by have := nmg_lt h1; omega) h2
  have hw := (tyW_W (T := T) hy.2.1).2 w0 (by rw [he.1]; exact h3)
  refine ⟨b, y, w0, w, h1, h2, h3, h4, h5, ⟨h6, h7⟩, he.2.2, ?_, h12⟩
  have hv : w + 2 + ltV T e w j ≤ j := by
    unfold ltV
    cases hd : dfV T e w with
    | none => show w + 2 + 0 ≤ j; omega
    | some v =>
      show w + 2 + (j - 1 - (v + 1)) ≤ j
      unfold dft at h5
      have hK : dfK T e w ≠ 1 ∧ dfK T e w ≠ 2 := by
        unfold dfV at hd
        split at hd
        · omega
        · split at hd
          · omega
          · cases hd
      rw [if_neg hK.1, if_neg hK.2, hd] at h5
      have := vlp_gt h5
      have hwv : w ≤ v := by
        unfold dfV at hd
        split at hd
        · cases hd; omega
        · split at hd
          · rename_i h3'
            have hm : mt T e w [35, 70, 73, 88, 69, 68] = true := by
              unfold dfK at h3'
              split at h3'
              · cases h3'
              · split at h3'
                · cases h3'
                · split at h3'
                  · assumption
                  · cases h3'
            have := mt_at (by decide) (by omega) hm
            have e6 : [35, 70, 73, 88, 69, 68].length = 6 := rfl
            have := spc_gt (by omega) hd
            omega
          · cases hd
      omega
  omega
theorem dfK_4 {i : Nat} : dfK T e i ≤ 4 := by
  unfold dfK
  split
  · omega
  · split
    · omega
    · split <;> omega
theorem atyN_9 {i : Nat} : atyN T e i ≤ 9 := by
  unfold atyN
  split
  · omega
  · split
    · omega
    · rename_i n _
      cases h : tyn (sl T i (n - i)) with
      | none => show 0 ≤ 9; omega
      | some t =>
        unfold tyn at h
        have := (List.findIdx?_eq_some_iff_getElem.mp h).1
        have e9 : tyT.length = 9 := rfl
        show t ≤ 9
        omega
theorem dfs_new : ∀ (n i z c m : Nat) (ad : List ADc) {c' m' : Nat} {ad' : List ADc}, i ≤ e → adk T e n i = some z → dfs rm a T e el (adL T e n i) c m ad = .inr (c', m', ad') → ∃ new, ad' = ad ++ new ∧ (∀ x ∈ new, x.1 = el ∧ (∃ y ∈ adL T e n i, x.2.1 = nmx T e y) ∧ x.2.1 ∈ adXn T e n i ∧ (∀ s ∈ plk x.2.1, s ∈ adS T e n i) ∧ x.2.2.1 ≤ 9 ∧ x.2.2.2.1 ≤ 4 ∧ (∀ c ∈ x.2.1, isNm c = true)) ∧ ltS (new.map (fun x => x.2.2.2.2.1)) + ltS (adXn T e n i) + c + i ≤ z + c' ∧ new.length ≤ (adL T e n i).length ∧ (new.map (fun x => x.2.2.2.2.2.length)).sum ≤ (adXn T e n i).length ∧ c ≤ c' := by
  intro n
  induction n with
  | zero => intro i z c m ad c' m' ad' _ h; cases h
  | succ n ih =>
    intro i z c m ad c' m' ad' hi h hg
    have h00 : ∀ {zz : Nat}, i ≤ zz → (.inr (c, m, ad) : Nat ⊕ (Nat × Nat × List ADc)) = .inr (c', m', ad') → ∃ new, ad' = ad ++ new ∧ (∀ x ∈ new, x.1 = el ∧ (∃ y ∈ ([] : List Nat), x.2.1 = nmx T e y) ∧ x.2.1 ∈ ([] : List Str) ∧ (∀ s ∈ plk x.2.1, s ∈ ([] : List Str)) ∧ x.2.2.1 ≤ 9 ∧ x.2.2.2.1 ≤ 4 ∧ (∀ c ∈ x.2.1, isNm c = true)) ∧ ltS (new.map (fun x => x.2.2.2.2.1)) + ltS [] + c + i ≤ zz + c' ∧ new.length ≤ ([] : List Nat).length ∧ (new.map (fun x => x.2.2.2.2.2.length)).sum ≤ ([] : List Str).length ∧ c ≤ c' := by
      intro zz hz h
      cases h
      exact ⟨[], (List.append_nil _).symm, fun x h => (by cases h), by show 0 + 0 + c + i ≤ zz + c; omega, Nat.le_refl _, Nat.le_refl _, Nat.le_refl _⟩
    unfold adk at h
    unfold adL at hg ⊢
    unfold adXn adS
    cases hs : spc T e (some i) with
    | none =>
      rw [hs] at h hg
      cases h
      exact h00 (Nat.le_refl _) hg
    | some x =>
      rw [hs] at h hg
      dsimp only at h hg ⊢
      cases hn : nmg T e true (some x) with
      | none =>
        rw [hn] at h hg
        cases h
        exact h00 (Nat.le_refl _) hg
      | some b0 =>
        rw [hn] at h hg
        dsimp only at h hg ⊢
        cases hd : dfn T e x with
        | none => rw [hd] at h; cases h
        | some j =>
          rw [hd] at h hg
          dsimp only at h hg ⊢
          obtain ⟨b, y, w0, w, h1, h2, h3, h4, h5, h6, h7, h8, h9⟩ := dfn_V hi hs hd
          rw [hn] at h1
          cases h1
          unfold dfs at hg
          cases hda : dfa rm a T e el x c m ad with
          | inl f => rw [hda] at hg; cases hg
          | inr r =>
            obtain ⟨c1, m1, ad1⟩ := r
            rw [hda] at hg
            dsimp only at hg
            obtain ⟨new, y1, y2, y3, y4, y5, y6⟩ := ih j z c1 m1 ad1 h9 h hg
            -- one definition
            have hone : ∃ o : Str, (ad1 = ad ∨ ad1 = ad ++ [(el, sl T x (b0 - x), atyN T e y, dfK T e w, o, (atyL T e y).map (fun q => sl T q.1 (q.2 - q.1)))]) ∧ c ≤ c1 ∧ o.length + c ≤ ltV T e w j + c1 := by
              unfold dfa at hda
              rw [hn] at hda
              dsimp only at hda
              rw [h2] at hda
              dsimp only at hda
              rw [h3, h4] at hda
              dsimp only at hda
              cases hv : dfV T e w with
              | none =>
                rw [hv] at hda
                dsimp only at hda
                cases hda
                refine ⟨[], ?_, Nat.le_refl _, by show 0 + c ≤ _ + c; omega⟩
                split
                · exact Or.inl rfl
                · exact Or.inr rfl
              | some v =>
                rw [hv] at hda
                dsimp only at hda
                have hjv : vlp T e (some v) = some j := by
                  unfold dft at h5
                  have hK : dfK T e w ≠ 1 ∧ dfK T e w ≠ 2 := by
                    unfold dfV at hv
                    split at hv
                    · omega
                    · split at hv
                      · omega
                      · cases hv
                  rw [if_neg hK.1, if_neg hK.2, hv] at h5
                  exact h5
                rw [hjv] at hda
                dsimp only at hda
                cases hvl : val rm a (sl T (v + 1) (j - 1 - (v + 1))) c m with
                | inl f => rw [hvl] at hda; cases hda
                | inr r =>
                  obtain ⟨c2, m2, o⟩ := r
                  rw [hvl] at hda
                  dsimp only at hda
                  cases hda
                  have hl := val_len hvl
                  rw [sl_ln] at hl
                  have := nrt_len (atyN T e y) o
                  refine ⟨nrt (atyN T e y) o, ?_, hl.1, by unfold ltV; rw [hv]; show _ ≤ (j - 1 - (v + 1)) + _; omega⟩
                  split
                  · exact Or.inl rfl
                  · exact Or.inr rfl
            obtain ⟨o, ho1, ho2, ho3⟩ := hone
            have et : tyWo T e (spc T e (some b0)) = tyW T e y := by rw [h2]; rfl
            have hnx : nmx T e x = sl T x (b0 - x) := by unfold nmx; rw [hn]
            have hWt := ltS_W (l := tyW T e y)
            have ey2 : ∀ q ∈ new, q.1 = el ∧ (∃ y ∈ x :: adL T e n j, q.2.1 = nmx T e y) ∧ q.2.1 ∈ sl T x (b0 - x) :: (tyWo T e (spc T e (some b0)) ++ adXn T e n j) ∧ (∀ s ∈ plk q.2.1, s ∈ plk (sl T x (b0 - x)) ++ adS T e n j) ∧ q.2.2.1 ≤ 9 ∧ q.2.2.2.1 ≤ 4 ∧ (∀ c ∈ q.2.1, isNm c = true) := by
              intro q hq
              obtain ⟨z1, ⟨y', hy', z2⟩, z3, z4, z5⟩ := y2 q hq
              exact ⟨z1, ⟨y', List.mem_cons_of_mem _ hy', z2⟩, List.mem_cons_of_mem _ (List.mem_append_right _ z3), fun s hs => List.mem_append_right _ (z4 s hs), z5⟩
            have e3 : ltS (sl T x (b0 - x) :: (tyWo T e (spc T e (some b0)) ++ adXn T e n j)) = (b0 - x) + (ltS (tyW T e y) + ltS (adXn T e n j)) := by rw [ltS_cons, ltS_app, sl_ln, et]
            have e4 : (sl T x (b0 - x) :: (tyWo T e (spc T e (some b0)) ++ adXn T e n j)).length = 1 + (tyW T e y).length + (adXn T e n j).length := by rw [List.length_cons, List.length_append, et]; omega
            have e5 : (x :: adL T e n j).length = (adL T e n j).length + 1 := rfl
            rcases ho1 with ho1 | ho1
            · refine ⟨new, by rw [y1, ho1], ey2, ?_, ?_, ?_, by omega⟩
              · rw [e3]; omega
              · rw [e5]; omega
              · rw [e4]; omega
            · refine ⟨(el, sl T x (b0 - x), atyN T e y, dfK T e w, o, (atyL T e y).map (fun q => sl T q.1 (q.2 - q.1))) :: new, ?_, fun q hq => ?_, ?_, ?_, ?_, by omega⟩
              · rw [y1, ho1, List.append_assoc]; rfl
              · rcases List.mem_cons.mp hq with rfl | hq
                · refine ⟨rfl, ⟨x, List.mem_cons_self, hnx.symm⟩, List.mem_cons_self, fun s hs => List.mem_append_left _ hs, atyN_9, dfK_4, fun c hc => ?_⟩
                  have hc' : c ∈ sl T x (b0 - x) := hc
                  unfold sl at hc'
                  obtain ⟨q, hq1, hq2⟩ := List.mem_map.mp hc'
                  rw [List.mem_range] at hq1
                  rw [← hq2]
                  exact nmg_all hn (x + q) (by omega) (by omega)
                · exact ey2 q hq
              · rw [e3, List.map_cons, ltS_cons]
                dsimp only
                omega
              · rw [e5, List.length_cons]; omega
              · rw [e4, List.map_cons, List.sum_cons]
                dsimp only
                rw [← h7]
                omega
end Kw9
