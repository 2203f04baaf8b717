/-! ===== a text that is cut behind its last sign (pure) ===== -/
def SEN (T : Nat → Int) (e k : Nat) : Prop := 0 < k ∧ k ≤ e ∧ T (k - 1) = 62
section Sen
variable {T T' : Nat → Int} {e k d : Nat}
theorem SEN.lkE (h : SEN T e k) {i : Nat} (hi : i < k) : lk T e i = lk T k i := by rw [lk_b hi, lk_b (by have := h.2.1; omega)]
theorem SEN.skl (h : SEN T e k) {p : Int → Bool} (hp : p 62 = false) {i : Nat} (hi : i < k) : sk p T k i < k := by
  have h1 := sk_le (p := p) (T := T) (show i ≤ k by omega)
  have h0 := h.1
  refine Nat.lt_of_le_of_ne h1.2 (fun z => ?_)
  have h2 := sk_all (p := p) (T := T) (e := k) (i := i) (k - 1) (by omega) (by omega)
  rw [h.2.2, hp] at h2
  cases h2
theorem SEN.skE (h : SEN T e k) {p : Int → Bool} (hp : p 62 = false) {i : Nat} (hi : i < k) : sk p T e i = sk p T k i := by
  have h0 := h.1
  have hl : sk p T e i < k := by
    refine Classical.byContradiction (fun hc => ?_)
    have h2 := sk_all (p := p) (T := T) (e := e) (i := i) (k - 1) (by omega) (by omega)
    rw [h.2.2, hp] at h2
    cases h2
  exact (sk_end' h.2.1 _ i rfl hl).symm
theorem SEN.nxt (h : SEN T e k) {i : Nat} (hi : i < k) (hc : lk T k i ≠ 62) : i + 1 < k := by
  have h0 := h.1
  refine Classical.byContradiction (fun z => hc ?_)
  rw [lk_b hi, show i = k - 1 by omega]
  exact h.2.2
theorem SEN.nmgE (h : SEN T e k) {i : Nat} (hi : i < k) : nmg T e true (some i) = nmg T k true (some i) := by
  show (if (if true = true then isSt (lk T e i) else isNm (lk T e i)) = true then some (sk isNm T e (i + 1)) else none) = (if (if true = true then isSt (lk T k i) else isNm (lk T k i)) = true then some (sk isNm T k (i + 1)) else none)
  rw [h.lkE hi, if_pos rfl]
  by_cases c : isSt (lk T k i) = true
  · rw [if_pos c, if_pos c, h.skE (by decide) (h.nxt hi (fun z => by rw [z] at c; exact absurd c (by decide)))]
  · rw [if_neg c, if_neg c]
theorem SEN.nmgl (h : SEN T e k) {i j : Nat} (hi : i < k) (hn : nmg T k true (some i) = some j) : j < k := by
  have hst := nmg_at hn
  have h' : (if (if true = true then isSt (lk T k i) else isNm (lk T k i)) = true then some (sk isNm T k (i + 1)) else none) = some j := hn
  rw [if_pos rfl, if_pos hst] at h'
  rw [← Option.some.inj h']
  exact h.skl (by decide) (h.nxt hi (fun z => by rw [z] at hst; exact absurd hst (by decide)))
theorem SEN.oftE (h : SEN T e k) {i : Nat} (hi : i < k) : oft T e i = oft T k i ∧ oft T k i < k ∧ hwf T e i = hwf T k i := by
  unfold oft hwf
  rw [h.lkE hi]
  refine ⟨rfl, ?_, rfl⟩
  split
  · exact h.nxt hi (by omega)
  · exact hi
theorem SEN.mdkE (h : SEN T e k) : ∀ (N : Nat) (st : List Int) (due : Bool) (i n m : Nat), i < k → mdk T e N st due i n m = mdk T k N st due i n m := by
  intro N
  induction N with
  | zero => intro st due i n m _; rfl
  | succ N ih =>
    intro st due i n m hi
    cases st with
    | nil => rfl
    | cons s st =>
      have l1 : sk isSp T k i < k := h.skl (by decide) hi
      unfold mdk
      rw [h.skE (by decide) hi, h.lkE l1, h.nmgE l1]
      by_cases c1 : due = true
      · rw [if_pos c1, if_pos c1]
        by_cases c2 : lk T k (sk isSp T k i) = 40
        · rw [if_pos c2, if_pos c2, ih _ _ _ _ _ (h.nxt l1 (by omega))]
        · rw [if_neg c2, if_neg c2]
          cases hn : nmg T k true (some (sk isSp T k i)) with
          | none => rfl
          | some j =>
            have hj := h.nmgl l1 hn
            dsimp only
            rw [(h.oftE hj).1, ih _ _ _ _ _ (h.oftE hj).2.1]
      · rw [if_neg c1, if_neg c1]
        by_cases c2 : lk T k (sk isSp T k i) = 41
        · have hx := h.nxt l1 (by omega)
          rw [if_pos c2, if_pos c2, (h.oftE hx).1, ih _ _ _ _ _ (h.oftE hx).2.1]
        · rw [if_neg c2, if_neg c2]
          by_cases c3 : (lk T k (sk isSp T k i) = 124 ∨ lk T k (sk isSp T k i) = 44) ∧ (s = 0 ∨ s = lk T k (sk isSp T k i))
          · rw [if_pos c3, if_pos c3, ih _ _ _ _ _ (h.nxt l1 (by omega))]
          · rw [if_neg c3, if_neg c3]
theorem SEN.mdVE (h : SEN T e k) : ∀ (N : Nat) (fs : List MFr) (due : Bool) (i : Nat) (ns : List Str), i < k → mdV T e N fs due i ns = mdV T k N fs due i ns := by
  intro N
  induction N with
  | zero => intro fs due i ns _; rfl
  | succ N ih =>
    intro fs due i ns hi
    cases fs with
    | nil => rfl
    | cons f fs =>
      obtain ⟨s, o⟩ := f
      have l1 : sk isSp T k i < k := h.skl (by decide) hi
      unfold mdV
      rw [h.skE (by decide) hi, h.lkE l1, h.nmgE l1]
      by_cases c1 : due = true
      · rw [if_pos c1, if_pos c1]
        by_cases c2 : lk T k (sk isSp T k i) = 40
        · rw [if_pos c2, if_pos c2, ih _ _ _ _ (h.nxt l1 (by omega))]
        · rw [if_neg c2, if_neg c2]
          cases hn : nmg T k true (some (sk isSp T k i)) with
          | none => rfl
          | some j =>
            have hj := h.nmgl l1 hn
            dsimp only
            rw [(h.oftE hj).1, (h.oftE hj).2.2, ih _ _ _ _ (h.oftE hj).2.1]
      · rw [if_neg c1, if_neg c1]
        by_cases c2 : lk T k (sk isSp T k i) = 41
        · have hx := h.nxt l1 (by omega)
          rw [if_pos c2, if_pos c2, (h.oftE hx).1, (h.oftE hx).2.2]
          cases o with
          | none => rfl
          | some v =>
            cases fs with
            | nil => rfl
            | cons g fs' =>
              obtain ⟨s', o'⟩ := g
              dsimp only
              rw [ih _ _ _ _ (h.oftE hx).2.1]
        · rw [if_neg c2, if_neg c2]
          by_cases c3 : (lk T k (sk isSp T k i) = 124 ∨ lk T k (sk isSp T k i) = 44) ∧ (s = 0 ∨ s = lk T k (sk isSp T k i))
          · rw [if_pos c3, if_pos c3, ih _ _ _ _ (h.nxt l1 (by omega))]
          · rw [if_neg c3, if_neg c3]
theorem mxk_u {m i : Nat} {b : Bool} : mxk T e (m + 1) b i = if lk T e (sk isSp T e i) = 124 then (match nmg T e true (some (sk isSp T e (sk isSp T e i + 1))) with
    | none => none
    | some j => mxk T e m true j) else if lk T e (sk isSp T e i) = 41 then (if lk T e (sk isSp T e i + 1) = 42 then some (sk isSp T e i + 1 + 1) else if b = true then none else some (sk isSp T e i + 1)) else none := by
  have h : mxk T e (m + 1) b i = if mt T e (sk isSp T e i) [124] = true then (match nmg T e true (some (sk isSp T e (sk isSp T e i + 1))) with
      | none => none
      | some j => mxk T e m true j) else (match (if mt T e (sk isSp T e i) [41] = true then some (sk isSp T e i + 1) else none) with
      | none => none
      | some z => if mt T e z [42] = true then some (z + 1) else if b = true then none else some z) := rfl
  rw [h, mt_1, mt_1]
  by_cases c : lk T e (sk isSp T e i) = 124
  · rw [if_pos c, if_pos (by simpa using c)]
  · rw [if_neg c, if_neg (by simpa using c)]
    by_cases c2 : lk T e (sk isSp T e i) = 41
    · rw [if_pos c2, if_pos (by simpa using c2)]
      dsimp only
      rw [mt_1]
      by_cases c3 : lk T e (sk isSp T e i + 1) = 42
      · rw [if_pos c3, if_pos (by simpa using c3)]
      · rw [if_neg c3, if_neg (by simpa using c3)]
    · rw [if_neg c2, if_neg (by simpa using c2)]
theorem mxL_u {m i : Nat} : mxL T e (m + 1) i = if lk T e (sk isSp T e i) = 124 then (match nmg T e true (some (sk isSp T e (sk isSp T e i + 1))) with
    | none => []
    | some j => (sk isSp T e (sk isSp T e i + 1), j) :: mxL T e m j) else [] := by
  have h : mxL T e (m + 1) i = if mt T e (sk isSp T e i) [124] = true then (match nmg T e true (some (sk isSp T e (sk isSp T e i + 1))) with
      | none => []
      | some j => (sk isSp T e (sk isSp T e i + 1), j) :: mxL T e m j) else [] := rfl
  rw [h, mt_1]
  by_cases c : lk T e (sk isSp T e i) = 124
  · rw [if_pos c, if_pos (by simpa using c)]
  · rw [if_neg c, if_neg (by simpa using c)]
theorem SEN.mxkE (h : SEN T e k) : ∀ (m : Nat) (b : Bool) (i : Nat), i < k → mxk T e m b i = mxk T k m b i ∧ mxL T e m i = mxL T k m i := by
  intro m
  induction m with
  | zero => intro b i _; exact ⟨rfl, rfl⟩
  | succ m ih =>
    intro b i hi
    have l1 : sk isSp T k i < k := h.skl (by decide) hi
    rw [mxk_u, mxk_u, mxL_u, mxL_u, h.skE (by decide) hi, h.lkE l1]
    by_cases c : lk T k (sk isSp T k i) = 124
    · have hx := h.nxt l1 (by omega)
      have l2 : sk isSp T k (sk isSp T k i + 1) < k := h.skl (by decide) hx
      rw [if_pos c, if_pos c, if_pos c, if_pos c, h.skE (by decide) hx, h.nmgE l2]
      cases hn : nmg T k true (some (sk isSp T k (sk isSp T k i + 1))) with
      | none => exact ⟨rfl, rfl⟩
      | some j =>
        have := ih true j (h.nmgl l2 hn)
        dsimp only
        rw [this.1, this.2]
        exact ⟨rfl, rfl⟩
    · rw [if_neg c, if_neg c, if_neg c, if_neg c]
      refine ⟨?_, rfl⟩
      by_cases c2 : lk T k (sk isSp T k i) = 41
      · rw [if_pos c2, if_pos c2, h.lkE (h.nxt l1 (by omega))]
      · rw [if_neg c2, if_neg c2]
/-- names of a group do not go behind it -/
theorem mxL_le : ∀ (m i : Nat), i ≤ e → ∀ q ∈ mxL T e m i, q.1 ≤ q.2 ∧ q.2 ≤ e := by
  intro m
  induction m with
  | zero => intro i _ q hq; cases hq
  | succ m ih =>
    intro i hi q hq
    rw [mxL_u] at hq
    split at hq
    · split at hq
      · cases hq
      · rename_i j hj
        have hjl := nmg_lt hj
        rcases List.mem_cons.mp hq with z | z
        · rw [z]; exact ⟨by dsimp only; omega, hjl.2.2⟩
        · exact ih j hjl.2.2 q z
    · cases hq
theorem mxL_two : ∀ (m i z : Nat) (b : Bool), i ≤ e → mxk T e m b i = some z → 2 * (mxL T e m i).length + i + 1 ≤ z ∧ z ≤ e := by
  intro m
  induction m with
  | zero => intro i z b _ h; cases h
  | succ m ih =>
    intro i z b hi h
    have h1 := sk_le (p := isSp) (T := T) hi
    rw [mxk_u] at h
    rw [mxL_u]
    by_cases c : lk T e (sk isSp T e i) = 124
    · rw [if_pos c] at h ⊢
      have hlt : sk isSp T e i < e := by
        refine Classical.byContradiction (fun hc => ?_)
        rw [lk_ge hc] at c
        exact absurd c (by decide)
      have h2 := sk_le (p := isSp) (T := T) (show sk isSp T e i + 1 ≤ e by omega)
      cases hn : nmg T e true (some (sk isSp T e (sk isSp T e i + 1))) with
      | none => rw [hn] at h; cases h
      | some j =>
        rw [hn] at h
        dsimp only at h ⊢
        have hjl := nmg_lt hn
        have := ih j z true hjl.2.2 h
        rw [List.length_cons]
        omega
    · rw [if_neg c] at h ⊢
      by_cases c2 : lk T e (sk isSp T e i) = 41
      · have hlt : sk isSp T e i < e := by
          refine Classical.byContradiction (fun hc => ?_)
          rw [lk_ge hc] at c2
          exact absurd c2 (by decide)
        rw [if_pos c2] at h
        rw [List.length_nil]
        by_cases c3 : lk T e (sk isSp T e i + 1) = 42
        · have hlt2 : sk isSp T e i + 1 < e := by
            refine Classical.byContradiction (fun hc => ?_)
            rw [lk_ge hc] at c3
            exact absurd c3 (by decide)
          rw [if_pos c3] at h
          have := Option.some.inj h
          omega
        · rw [if_neg c3] at h
          split at h
          · cases h
          · have := Option.some.inj h
            omega
      · rw [if_neg c2] at h
        cases h
theorem sh_hwf (h : SHT T T' e d) (i : Nat) : hwf T' (d + e) (d + i) = hwf T e i := by
  unfold hwf
  rw [sh_lk h]
theorem sh_mdV (h : SHT T T' e d) : ∀ (N : Nat) (fs : List MFr) (due : Bool) (i : Nat) (ns : List Str), mdV T' (d + e) N fs due (d + i) ns = mdV T e N fs due i ns := by
  intro N
  induction N with
  | zero => intro fs due i ns; rfl
  | succ N ih =>
    intro fs due i ns
    cases fs with
    | nil => rfl
    | cons f fs =>
      obtain ⟨s, o⟩ := f
      unfold mdV
      rw [sh_sk h, sh_lk h, sh_nmgs h, show d + sk isSp T e i + 1 = d + (sk isSp T e i + 1) by omega, sh_oft h, sh_hwf h]
      by_cases c1 : due = true
      · rw [if_pos c1, if_pos c1]
        by_cases c2 : lk T e (sk isSp T e i) = 40
        · rw [if_pos c2, if_pos c2, ih]
        · rw [if_neg c2, if_neg c2]
          cases hn : nmg T e true (some (sk isSp T e i)) with
          | none => rfl
          | some j =>
            have hj := nmg_lt hn
            rw [mvo_some]
            dsimp only
            rw [sh_oft h, sh_hwf h, ih, show d + j - (d + sk isSp T e i) = j - sk isSp T e i by omega, sh_sl h (by omega)]
      · rw [if_neg c1, if_neg c1]
        by_cases c2 : lk T e (sk isSp T e i) = 41
        · rw [if_pos c2, if_pos c2]
          cases o with
          | none => rfl
          | some v =>
            cases fs with
            | nil => rfl
            | cons g fs' =>
              obtain ⟨s', o'⟩ := g
              dsimp only
              rw [ih]
        · rw [if_neg c2, if_neg c2]
          by_cases c3 : (lk T e (sk isSp T e i) = 124 ∨ lk T e (sk isSp T e i) = 44) ∧ (s = 0 ∨ s = lk T e (sk isSp T e i))
          · rw [if_pos c3, if_pos c3, ih]
          · rw [if_neg c3, if_neg c3]
theorem sh_mxL (h : SHT T T' e d) : ∀ (m i : Nat), mxL T' (d + e) m (d + i) = (mxL T e m i).map (fun q => (d + q.1, d + q.2)) := by
  intro m
  induction m with
  | zero => intro i; rfl
  | succ m ih =>
    intro i
    rw [mxL_u, mxL_u, sh_sk h, sh_lk h, show d + sk isSp T e i + 1 = d + (sk isSp T e i + 1) by omega, sh_sk h, sh_nmgs h]
    by_cases c : lk T e (sk isSp T e i) = 124
    · rw [if_pos c, if_pos c]
      cases hn : nmg T e true (some (sk isSp T e (sk isSp T e i + 1))) with
      | none => rfl
      | some j =>
        rw [mvo_some]
        dsimp only
        rw [ih, List.map_cons]
    · rw [if_neg c, if_neg c]
      rfl
end Sen
