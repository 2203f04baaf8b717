/-! ===== values, numbers, words by letters, in the reference ===== -/
def vlg (T : Nat → Int) (e : Nat) (q : Int) : Nat → Nat → Option Nat
  | 0, _ => none
  | n + 1, k => if k < e then (if T k = q then some (k + 1) else if T k = 60 then none else if T k = 38 then (match rfp T e (some k) with
      | none => none
      | some j => vlg T e q n j) else vlg T e q n (k + 1)) else none
/-- behind the value that begins at the place -/
def vlp (T : Nat → Int) (e : Nat) (o : Option Nat) : Option Nat := match o with
  | none => none
  | some i => if isQt (lk T e i) = true then vlg T e (T i) (e + 1) (i + 1) else none
theorem vlg_fuel {T : Nat → Int} {e : Nat} {q : Int} : ∀ (n m k : Nat), e < n + k → e < m + k → vlg T e q n k = vlg T e q m k := by
  intro n
  induction n with
  | zero =>
    intro m k h1 h2
    cases m with
    | zero => rfl
    | succ m =>
      show none = (if k < e then _ else none)
      rw [if_neg (by omega)]
  | succ n ih =>
    intro m k h1 h2
    cases m with
    | zero =>
      show (if k < e then _ else none) = none
      rw [if_neg (by omega)]
    | succ m =>
      show (if k < e then (if T k = q then some (k + 1) else if T k = 60 then none else if T k = 38 then (match rfp T e (some k) with
        | none => none
        | some j => vlg T e q n j) else vlg T e q n (k + 1)) else none) = (if k < e then (if T k = q then some (k + 1) else if T k = 60 then none else if T k = 38 then (match rfp T e (some k) with
        | none => none
        | some j => vlg T e q m j) else vlg T e q m (k + 1)) else none)
      cases hr : rfp T e (some k) with
      | none =>
        dsimp only
        rw [ih m (k + 1) (by omega) (by omega)]
      | some j =>
        have := rfp_lt hr
        dsimp only
        rw [ih m (k + 1) (by omega) (by omega), ih m j (by omega) (by omega)]
theorem vlg_le {T : Nat → Int} {e : Nat} {q : Int} : ∀ (n k j : Nat), vlg T e q n k = some j → k < j ∧ j ≤ e ∧ T (j - 1) = q := by
  intro n
  induction n with
  | zero => intro k j h; cases h
  | succ n ih =>
    intro k j h
    have h' : (if k < e then (if T k = q then some (k + 1) else if T k = 60 then none else if T k = 38 then (match rfp T e (some k) with
        | none => none
        | some j => vlg T e q n j) else vlg T e q n (k + 1)) else none) = some j := h
    by_cases c : k < e
    · rw [if_pos c] at h'
      by_cases c1 : T k = q
      · rw [if_pos c1] at h'
        cases h'
        exact ⟨by omega, by omega, by rw [show k + 1 - 1 = k by omega]; exact c1⟩
      · rw [if_neg c1] at h'
        by_cases c2 : T k = 60
        · rw [if_pos c2] at h'; cases h'
        · rw [if_neg c2] at h'
          by_cases c3 : T k = 38
          · rw [if_pos c3] at h'
            cases hr : rfp T e (some k) with
            | none => rw [hr] at h'; cases h'
            | some m =>
              rw [hr] at h'
              have := rfp_lt hr
              have := ih m j h'
              omega
          · rw [if_neg c3] at h'
            have := ih (k + 1) j h'
            omega
    · rw [if_neg c] at h'; cases h'
theorem vlp_le {T : Nat → Int} {e : Nat} {o : Option Nat} : ple e (vlp T e o) := by
  intro j hj
  cases o with
  | none => cases hj
  | some i =>
    have h' : (if isQt (lk T e i) = true then vlg T e (T i) (e + 1) (i + 1) else none) = some j := hj
    split at h'
    · exact (vlg_le _ _ _ h').2.1
    · cases h'
section KPos4
variable {L : Nat → Nat} {Q : Int → IS → Prop} {σ : IS} {e : Nat}
theorem sp_KReader_value (hk : KT L σ e) (hc : chs σ e) {x : Int} (o : Option Nat) (hx : x = enc o) (ho : ple e o) (h : Q (enc (vlp (σ.2 176) e o)) σ) : w_KReader_value L x Q σ := by
  unfold w_KReader_value WJ
  try dsimp only
  have hk' := hk
  obtain ⟨hk1, hk2, hk3⟩ := hk'
  cases o with
  | none =>
    rw [if_pos (by rw [hx]; decide)]
    exact h
  | some i =>
    have hi := ho i rfl
    have hx' : x = (i : Int) := hx
    have h' : Q (enc (if isQt (lk (σ.2 176) e i) = true then vlg (σ.2 176) e (σ.2 176 i) (e + 1) (i + 1) else none)) σ := h
    rw [if_neg (by omega)]
    refine sp_KReader_look hk i hx' (sp_KReader_isQuote ?_)
    rw [if_b1]
    by_cases c : isQt (lk (σ.2 176) e i) = true
    · rw [if_pos c] at h'
      rw [if_pos (show (lk (σ.2 176) e i == 34 || lk (σ.2 176) e i == 39) = true from c)]
      have hlt : i < e := by
        by_cases z : i < e
        · exact z
        · unfold lk at c
          rw [if_neg z] at c
          exact absurd c (by decide)
      refine ⟨⟨by omega, by omega⟩, ?_⟩
      refine WL_ind (fun k τ => τ = σ ∧ ((k = -1 ∧ vlg (σ.2 176) e (σ.2 176 i) (e + 1) (i + 1) = none) ∨ ∃ j : Nat, k = (j : Int) ∧ j ≤ e ∧ vlg (σ.2 176) e (σ.2 176 i) (e + 1) (i + 1) = vlg (σ.2 176) e (σ.2 176 i) (e + 1) j)) (fun k _ => if k < 0 then 0 else (e + 1 - k).toNat) ?_ (x + 1) σ ⟨rfl, Or.inr ⟨i + 1, by omega, by omega, rfl⟩⟩
      rintro k τ ⟨rfl, hk9⟩ K hI
      try dsimp only
      rw [hk1, show Int.toNat x = i by omega]
      rcases hk9 with ⟨rfl, hn⟩ | ⟨j, rfl, hj, hs⟩
      · refine ⟨fun z => absurd (by decide) z, ?_⟩
        rw [if_neg (fun z => z.1 (by decide))]
        refine ⟨fun z => absurd (by decide) z, ?_⟩
        rw [if_pos (by decide)]
        rw [hn] at h'
        exact h'
      · rw [show Int.toNat (j : Int) = j by omega]
        refine ⟨fun _ c2 => ⟨⟨by omega, by omega⟩, by omega, by omega⟩, ?_⟩
        have hstep : vlg (τ.2 176) e (τ.2 176 i) (e + 1) j = (if j < e then (if τ.2 176 j = τ.2 176 i then some (j + 1) else if τ.2 176 j = 60 then none else if τ.2 176 j = 38 then (match rfp (τ.2 176) e (some j) with
          | none => none
          | some m => vlg (τ.2 176) e (τ.2 176 i) e m) else vlg (τ.2 176) e (τ.2 176 i) e (j + 1)) else none) := rfl
        by_cases c2 : ¬ (j : Int) < 0 ∧ ((j : Int) < (e : Int) ∧ ¬ τ.2 176 j = τ.2 176 i)
        · rw [if_pos c2]
          have c3 : j < e := by omega
          rw [if_pos c3, if_neg c2.2.2] at hstep
          refine ⟨⟨by omega, by omega⟩, ?_⟩
          by_cases c4 : τ.2 176 j = 60
          · rw [if_pos c4] at hstep ⊢
            exact hI _ _ ⟨rfl, Or.inl ⟨rfl, by rw [hs, hstep]⟩⟩ (by rw [if_pos (by decide), if_neg (by omega)]; omega)
          · rw [if_neg c4] at hstep ⊢
            by_cases c5 : τ.2 176 j = 38
            · rw [if_pos c5] at hstep ⊢
              refine sp_KReader_reference hk hc (some j) rfl (fun k hk => by cases hk; exact hj) ?_
              cases hr : rfp (τ.2 176) e (some j) with
              | none =>
                rw [hr] at hstep
                exact hI _ _ ⟨rfl, Or.inl ⟨rfl, by rw [hs, hstep]⟩⟩ (by rw [if_pos (by decide), if_neg (by omega)]; omega)
              | some m =>
                rw [hr] at hstep
                have hm := rfp_lt hr
                refine hI _ _ ⟨rfl, Or.inr ⟨m, rfl, by omega, ?_⟩⟩ ?_
                · rw [hs, hstep]
                  exact vlg_fuel _ _ _ (by omega) (by omega)
                · show (if ((m : Nat) : Int) < 0 then 0 else (((e : Int) + 1 - ((m : Nat) : Int)).toNat)) < _
                  rw [if_neg (by omega), if_neg (by omega)]
                  omega
            · rw [if_neg c5] at hstep ⊢
              refine ⟨⟨by omega, by omega⟩, hI _ _ ⟨rfl, Or.inr ⟨j + 1, by omega, by omega, ?_⟩⟩ ?_⟩
              · rw [hs, hstep]
                exact vlg_fuel _ _ _ (by omega) (by omega)
              · rw [if_neg (by omega), if_neg (by omega)]
                omega
        · rw [if_neg c2]
          refine ⟨fun _ c3 => ⟨by omega, by omega⟩, ?_⟩
          rw [if_neg (by omega)]
          by_cases c3 : j < e
          · rw [if_pos (by omega)]
            have c4 : τ.2 176 j = τ.2 176 i := Classical.byContradiction (fun z => c2 ⟨by omega, by omega, z⟩)
            rw [if_pos c3, if_pos c4] at hstep
            rw [hs, hstep] at h'
            exact h'
          · rw [if_neg (by omega)]
            rw [if_neg c3] at hstep
            rw [hs, hstep] at h'
            exact h'
    · rw [if_neg c] at h'
      rw [if_neg (show ¬ (lk (σ.2 176) e i == 34 || lk (σ.2 176) e i == 39) = true from c)]
      exact h'
/-- letters at a place against a text -/
theorem sp_KReader_isNamedSo (hk : KT L σ e) {a n : Int} (i m : Nat) (hi : a = (i : Int)) (hm : n = (m : Int)) (him : i + m ≤ 262144) {s : Nat} {l : List Int} (hs : ti s = l) (h1 : sl (σ.2 176) i m = l → Q 1 σ) (h0 : sl (σ.2 176) i m ≠ l → Q 0 σ) : w_KReader_isNamedSo L a n s Q σ := by
  obtain ⟨hk1, hk2, hk3⟩ := hk
  subst hs
  unfold w_KReader_isNamedSo
  rw [tN_i]
  have hl := ti_len s
  refine WL_ind (fun k τ => τ = σ ∧ ∃ j : Nat, k = (j : Int) ∧ j ≤ m ∧ j ≤ (ti s).length ∧ ∀ q, q < j → (ti s)[q]? = some (σ.2 176 (i + q))) (fun k _ => (m - k).toNat) ?_ 0 σ ⟨rfl, 0, rfl, by omega, by omega, fun q hq => by omega⟩
  rintro k τ ⟨rfl, j, rfl, hj, hj2, hq⟩ K hI
  try dsimp only
  refine ⟨fun c1 c2 => ⟨⟨by omega, by omega⟩, ⟨by omega, by omega⟩, by omega, by omega⟩, ?_⟩
  by_cases c : (j : Int) < n ∧ ((j : Int) < ((ti s).length : Int) ∧ τ.2 176 (Int.toNat (a + (j : Int))) = tC s (j : Int))
  · rw [if_pos c]
    have c' : j < (ti s).length := by omega
    refine ⟨⟨by omega, by omega⟩, hI _ _ ⟨rfl, j + 1, by omega, by omega, by omega, fun q hq2 => ?_⟩ (by omega)⟩
    by_cases ej : q < j
    · exact hq q ej
    · have e1 : q = j := by omega
      subst e1
      have c3 := c.2.2
      rw [tC_i rfl c', show Int.toNat (a + (q : Int)) = i + q by omega] at c3
      rw [List.getElem?_eq_getElem c', c3]
  · rw [if_neg c]
    by_cases c1 : (j : Int) = n
    · rw [if_pos c1]
      by_cases c2 : (j : Int) = ((ti s).length : Int)
      · rw [if_pos c2]
        apply h1
        apply List.ext_getElem?
        intro q
        by_cases eq : q < m
        · rw [sl_get eq]
          exact (hq q (by omega)).symm
        · rw [List.getElem?_eq_none_iff.mpr (by rw [sl_ln]; omega), List.getElem?_eq_none_iff.mpr (by omega)]
      · rw [if_neg c2]
        apply h0
        intro e2
        have := congrArg List.length e2
        rw [sl_ln] at this
        omega
    · rw [if_neg c1]
      apply h0
      intro e2
      have hlen := congrArg List.length e2
      rw [sl_ln] at hlen
      apply c
      have c' : j < (ti s).length := by omega
      refine ⟨by omega, by omega, ?_⟩
      rw [tC_i rfl c', show Int.toNat (a + (j : Int)) = i + j by omega]
      have e3 := congrArg (fun z => z[j]?) e2
      simp only [sl_get (show j < m by omega), List.getElem?_eq_getElem c'] at e3
      exact Option.some.inj e3
/-- what lt and so on mean -/
def alw (l : List Int) : Int := if l = [108, 116] then 60 else if l = [103, 116] then 62 else if l = [97, 109, 112] then 38 else if l = [97, 112, 111, 115] then 39 else if l = [113, 117, 111, 116] then 34 else -1
theorem sp_KReader_always (hk : KT L σ e) {a n : Int} (i m : Nat) (hi : a = (i : Int)) (hm : n = (m : Int)) (him : i + m ≤ 262144) (h : Q (alw (sl (σ.2 176) i m)) σ) : w_KReader_always L a n Q σ := by
  unfold w_KReader_always
  unfold alw at h
  refine sp_KReader_isNamedSo hk i m hi hm him ti_1147 (fun c1 => ?_) (fun c1 => ?_)
  · unfold WJ
    try dsimp only
    rw [if_pos c1] at h
    rw [if_neg (by decide)]
    exact h
  · unfold WJ
    try dsimp only
    rw [if_neg c1] at h
    rw [if_pos rfl]
    refine sp_KReader_isNamedSo hk i m hi hm him ti_1148 (fun c2 => ?_) (fun c2 => ?_)
    · rw [if_pos c2] at h
      rw [if_neg (by decide)]
      exact h
    · rw [if_neg c2] at h
      rw [if_pos rfl]
      refine sp_KReader_isNamedSo hk i m hi hm him ti_1149 (fun c3 => ?_) (fun c3 => ?_)
      · rw [if_pos c3] at h
        rw [if_neg (by decide)]
        exact h
      · rw [if_neg c3] at h
        rw [if_pos rfl]
        refine sp_KReader_isNamedSo hk i m hi hm him ti_1150 (fun c4 => ?_) (fun c4 => ?_)
        · rw [if_pos c4] at h
          rw [if_neg (by decide)]
          exact h
        · rw [if_neg c4] at h
          rw [if_pos rfl]
          refine sp_KReader_isNamedSo hk i m hi hm him ti_1151 (fun c5 => ?_) (fun c5 => ?_)
          · rw [if_pos c5] at h
            rw [if_neg (by decide)]
            exact h
          · rw [if_neg c5] at h
            rw [if_pos rfl]
            exact h
end KPos4
